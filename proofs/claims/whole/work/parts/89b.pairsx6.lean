/-! ===== read: the pairs, the class's make, all ===== -/
theorem sp_makeX {σ : Sg} {x : Nat → NdT} {N : Nat} {Q : Int32 → Sg → Prop} (hR : Rok x N) (hC : XPo σ x N) (hdone : ∀ J τ, 4 * (pseq x N J).1 = J → PWq x N J (pseq x N J) → Mnq x N J → RXq σ τ x N (pseq x N J) → LdX τ (pseq x N J) J → Q (nI 1) τ) (hfull : ∀ j τ, j / 4 < (pseq x N j).1 → PWq x N j (pseq x N j) → Mnq x N j → fnd (pseq x N j).2.1 (pseq x N j).2.2.1 (nxw x N (pseq x N j) (j / 4) (j % 4)) (nxs x N (pseq x N j) (j / 4) (j % 4)) (pseq x N j).1 = none → (pseq x N j).1 = mostq (pbc x N) → Fr [4] [22, 23, 24, 25, 26, 27, 28] σ τ → Q (nI 0) τ) : wp_X4_make σ Q := by
  obtain ⟨r0, r9, rk, rb⟩ := id hR
  have hF8 : fbc x N ≤ 8 := by omega
  have hP8 : pbc x N ≤ 8 := by omega
  have hmo := mostq_le (pbc x N)
  refine sp_Xbegin hR hC (fun σ1 hX1 => ?_)
  refine loop_m (σ := Nat × Sg) (fun g a => wl_X4_make_7 Q g (nI a.1) a.2) (fun a => RXq σ a.2 x N (pseq x N (4 * a.1)) ∧ PWq x N (4 * a.1) (pseq x N (4 * a.1)) ∧ LdX a.2 (pseq x N (4 * a.1)) (4 * a.1) ∧ a.1 ≤ (pseq x N (4 * a.1)).1 ∧ Mnq x N (4 * a.1)) (fun a => 1922 - a.1) ?_ (0, σ1) ⟨hX1, pwq_0 x N, fun j' hj => absurd hj (Nat.not_lt_zero j'), Nat.zero_le _, fun j' hj => absurd hj (Nat.not_lt_zero j')⟩
  rintro g0 ⟨r, ρ⟩ ⟨a1, a2, a3, a4, a5⟩ hs
  simp only at a1 a2 a3 a4 a5 hs ⊢
  have hcm := a1.2.2.2.2.1
  show wb_X4_make_7 _ _ _ _
  unfold wb_X4_make_7
  rw [a1.2.2.2.1]
  refine pk_le (pseq x N (4 * r)).1 r (fun z => hdone (4 * r) ρ (by omega) a2 a5 a1 a3) (fun z => pk_le 1921 r (fun y => by omega) (fun y => ?_))
  refine lq1 (fun g e (κ : Sg) => wl_X4_make_24 (nI r) (fun σ9 => wp_X4_make_85 (nI r) _ Q σ9) Q g (nI e) κ) (fun e κ => RXq σ κ x N (pseq x N (4 * r + e)) ∧ PWq x N (4 * r + e) (pseq x N (4 * r + e)) ∧ LdX κ (pseq x N (4 * r + e)) (4 * r + e) ∧ r < (pseq x N (4 * r + e)).1 ∧ Mnq x N (4 * r + e)) 4 ?_ ?_ ρ ⟨a1, a2, a3, z, a5⟩
  · intro g κ ⟨b1, b2, b3, b4, b5⟩
    show wb_X4_make_24 _ _ _ _ _ _
    refine pk_le 4 4 (fun _ => ?_) (fun z => by omega)
    intro y ey
    rw [ey, nI_add]
    exact hs (r + 1, κ) ⟨b1, b2, b3, b4, b5⟩ (by show 1922 - (r + 1) < 1922 - r; omega)
  · intro g e κ he ⟨b1, b2, b3, b4, b5⟩ hs2
    show wb_X4_make_24 _ _ _ _ _ _
    have hjd : (4 * r + e) / 4 = r ∧ (4 * r + e) % 4 = e := k4 he
    have hbm := b1.2.2.2.2.1
    have hok : PWq x N (4 * r + e + 1) (pseq x N (4 * r + e + 1)) := pst_ok b2 (by rw [hjd.1]; exact b4)
    have hold := pst_old (x := x) (N := N) (j := 4 * r + e) (s := pseq x N (4 * r + e))
    have hpe : pseq x N (4 * r + e + 1) = pst x N (4 * r + e) (pseq x N (4 * r + e)) := rfl
    have put : ∀ (l : Nat) (κ2 : Sg), l < 2 ^ 31 → (pseq x N (4 * r + e + 1)).2.2.2 (4 * r + e) = l → RXq σ κ2 x N (pseq x N (4 * r + e + 1)) → LdX κ2 (pseq x N (4 * r + e)) (4 * r + e) → wp_X4_make_56 (nI r) (nI e) (nI l) (wl_X4_make_24 (nI r) (fun σ9 => wp_X4_make_85 (nI r) (wl_X4_make_7 Q g0) Q σ9) Q g) Q κ2 := by
      intro l κ2 hl31 hl h1 h2
      refine ⟨fun _ => ?_, fun q => absurd q (ni9 hl31)⟩
      refine sp_put (k := 4 * r + e) (by rw [pk_mul, nI_add, Nat.mul_comm]) (by show _ < 7684; omega) ?_
      intro y ey
      rw [ey, nI_add]
      refine hs2 _ ⟨RXq_fr h1 (Fr.rf.stA (by simp)) (fun k _ => rfl), hok, fun j' hj' => ?_, ?_, fun j' hj' => (by
            by_cases q : j' = 4 * r + e
            · rw [q, hjd.1]; exact b4
            · exact b5 j' (by omega))⟩
      · rw [gA_stA, if_pos rfl]
        by_cases q : j' = 4 * r + e
        · rw [if_pos q, q]
          exact congrArg nI hl.symm
        · rw [if_neg q, h2 j' (by omega)]
          congr 1
          exact (hold.2.2.2 j' q).symm
      · have := hold.1
        rw [← hpe] at this
        show r < (pseq x N (4 * r + e + 1)).1
        omega
    refine pk_le 4 e (fun z => by omega) (fun _ => ?_)
    refine sp_follow hR hC b1 b2 b4 he (fun κ1 f1 g1 h7 h28 => ?_)
    have hX1 : RXq σ κ1 x N (pseq x N (4 * r + e)) := RXq_fr b1 (f1.mono (by simp) (by simp)) g1
    have hld : LdX κ1 (pseq x N (4 * r + e)) (4 * r + e) := fun j' hj' => by rw [f1.A (by decide)]; exact b3 j' hj'
    have hwP : nxw x N (pseq x N (4 * r + e)) r e < 2 ^ pbc x N := lbm_lt x N _ _ _
    refine sp_findWork hF8 hP8 hX1 b2 hwP h7 (nxs_lt x N _ r e) h28 (fun i hi => ?_) (fun hno => ?_)
    · have he1 : pseq x N (4 * r + e + 1) = ((pseq x N (4 * r + e)).1, (pseq x N (4 * r + e)).2.1, (pseq x N (4 * r + e)).2.2.1, fun k => if k = 4 * r + e then i else (pseq x N (4 * r + e)).2.2.2 k) := by
        rw [hpe]
        unfold pst
        rw [hjd.1, hjd.2, hi]
      obtain ⟨_, f2, _, _⟩ := fnd_some _ hi
      refine ⟨fun _ => put i κ1 (by omega) (by rw [he1]; simp only [if_true]) (by rw [he1]; exact hX1) hld, fun q => absurd q (ni9 (by omega))⟩
    · refine ⟨fun q => absurd rfl q, fun _ => ?_⟩
      refine sp_addWork hR hC hX1 b2 hwP h7 h28 (fun hf => ?_) (fun hlt κ2 ld' f2 hX2 => ?_)
      · refine ⟨fun q => absurd rfl q, fun _ => ?_⟩
        exact hfull (4 * r + e) κ1 (by rw [hjd.1]; exact b4) b2 b5 (by rw [hjd.1, hjd.2]; exact hno) hf hX1.1
      · have he1 : pseq x N (4 * r + e + 1) = ((pseq x N (4 * r + e)).1 + 1, (fun k => if k = (pseq x N (4 * r + e)).1 then nxw x N (pseq x N (4 * r + e)) r e else (pseq x N (4 * r + e)).2.1 k), (fun k => if k = (pseq x N (4 * r + e)).1 then nxs x N (pseq x N (4 * r + e)) r e else (pseq x N (4 * r + e)).2.2.1 k), fun k => if k = 4 * r + e then (pseq x N (4 * r + e)).1 else (pseq x N (4 * r + e)).2.2.2 k) := by
          rw [hpe]
          unfold pst
          rw [hjd.1, hjd.2, hno]
        exact put (pseq x N (4 * r + e)).1 κ2 (by omega) (by rw [he1]; simp only [if_true]) (by rw [he1]; exact hX2) (fun j' hj' => by rw [f2.A (by decide)]; exact hld j' hj')
