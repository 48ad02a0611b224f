/-! ===== read: the pairs, the reference's meet ===== -/
theorem cb_cnb {x : Nat → NdT} {N w z : Nat} {v : Int32} (h : Cb v (Cn x N w z)) : v = bI (cnb x N w z) := by
  obtain ⟨b, h1, h2⟩ := h
  have : b = cnb x N w z := by
    have h3 := h2.trans cnb_iff.symm
    cases b <;> cases q : cnb x N w z <;> simp_all
  rw [h1, this]
def LdM (σ : Sg) (s : PQt) (j : Nat) : Prop := ∀ j', j' < j → gA σ 64 j' = nI (s.2.2.2 j')
theorem sp_fresh {σ : Sg} {x : Nat → NdT} {N r e w j : Nat} {s : PQt} {K174 : Sg → Prop} {Q : Int32 → Sg → Prop} (hR : Rok x N) (hC : MCa σ x N) (he : e < 4) (hr : r < s.1) (hq : PWq x N j s) (hw : w = nxw x N s r e) (hrow : 1 ≤ r → ∀ z, z < 2 ^ fbc x N → gA σ 63 (r * 2 ^ fbc x N + z) = bI ((s.2.2.1 r).testBit z)) (hl : r * 2 ^ fbc x N + 2 ^ fbc x N ≤ 33300) (h : ∀ σ', Fr [] [67] σ σ' → (∀ z, z < 2 ^ fbc x N → gA σ' 67 z = bI ((nxs x N s r e).testBit z)) → K174 σ') : ∃ n, wl_X9_meet_77 (nI r) (nI e) (nI (s.2.1 r)) (nI w) K174 Q n (nI 0) σ := by
  obtain ⟨r0, r9, rk, rb⟩ := id hR
  obtain ⟨c1, c15, c16, c18, c19, ⟨cT1, cT2⟩, c61⟩ := hC
  have hF8 : fbc x N ≤ 8 := by omega
  have hbig := big4 rb
  have h256 := pw8 rb
  have hD256 := pw8 hF8
  have hps := hq.2.2.1 r hr
  have hwP : w < 2 ^ pbc x N := by rw [hw]; exact lbm_lt x N _ _ _
  have hr33 : r ≤ 33300 := by
    have h9 : r * 1 ≤ r * 2 ^ fbc x N := Nat.mul_le_mul_left r (Nat.two_pow_pos (fbc x N))
    rw [Nat.mul_one] at h9
    exact Nat.le_trans h9 (Nat.le_trans (Nat.le_add_right _ _) hl)
  have hk : 4 * s.2.1 r + e < 4 * 2 ^ pbc x N := by omega
  refine lq1 (fun g z (τ : Sg) => wl_X9_meet_77 (nI r) (nI e) (nI (s.2.1 r)) (nI w) K174 Q g (nI z) τ) (fun z τ => Fr [] [67] σ τ ∧ ∀ i, i < z → gA τ 67 i = bI ((nxs x N s r e).testBit i)) (2 ^ fbc x N) ?_ ?_ σ ⟨Fr.rf, fun i hi => by omega⟩
  · intro g τ ⟨fr, ht⟩
    show wb_X9_meet_77 _ _ _ _ _ _ _ _ _
    unfold wb_X9_meet_77
    refine sp_wide (by rw [fr.F (by decide)]; exact c15) hF8 ?_
    exact pk_le (2 ^ fbc x N) (2 ^ fbc x N) (fun _ => h τ fr ht) (fun z => by omega)
  · intro g z τ hz ⟨fr, ht⟩ hs2
    show wb_X9_meet_77 _ _ _ _ _ _ _ _ _
    have q15 : gF τ 10 15 = nI (fbc x N) := by rw [fr.F (by decide)]; exact c15
    have hidx := kz_lt hk hz
    have htl := tlm_lt x N e (s.2.1 r) z
    have hT : Tpf x N ((4 * s.2.1 r + e) * 2 ^ fbc x N + z) = tlm x N e (s.2.1 r) z := by
      unfold Tpf
      rw [(kdz hz).1, (kdz hz).2, (k4 he).1, (k4 he).2]
    have hRr : Rpf x N ((4 * s.2.1 r + e) * 2 ^ fbc x N + z) = rtm x N e (s.2.1 r) z := by
      unfold Rpf
      rw [(kdz hz).1, (kdz hz).2, (k4 he).1, (k4 he).2]
    have hcan := wz_lt hwP hz
    have b131 : ∀ kp : Bool, kp = (if r = 0 then rtm x N e (s.2.1 r) z else (s.2.2.1 r).testBit (tlm x N e (s.2.1 r) z)) → wp_X9_meet_131 (nI r) (nI e) (nI (s.2.1 r)) (nI w) (nI z) (bI kp) (wl_X9_meet_77 (nI r) (nI e) (nI (s.2.1 r)) (nI w) K174 Q g) Q τ := by
      intro kp hkp
      refine sp_wide q15 hF8 ?_
      rw [pk_mul, nI_add, nI_clamp (by omega), fr.A (by decide), cb_cnb (c61 w z hwP hz)]
      have b167 : ∀ v : Bool, v = (cnb x N w z && kp) → wp_X9_meet_167 (nI r) (nI e) (nI (s.2.1 r)) (nI w) (nI z) (bI v) (nI z) (wl_X9_meet_77 (nI r) (nI e) (nI (s.2.1 r)) (nI w) K174 Q g) Q τ := by
        intro v hv
        refine ⟨vp_in_nI (by show z < 256; omega) (by decide), ?_⟩
        intro τ1 e1 y ey
        rw [nI_clamp (by omega), nar_bI] at e1
        rw [ey, nI_add]
        refine hs2 τ1 ⟨by rw [e1]; exact fr.stA (by simp), fun i hi => ?_⟩
        rw [e1, gA_stA, if_pos rfl]
        by_cases q : i = z
        · rw [if_pos q, q, hv]
          congr 1
          have hb := nxs_bit (x := x) (N := N) (s := s) (r := r) (e := e) (z := z)
          rw [← hw, ← hkp] at hb
          have hc2 := cnb_iff (x := x) (N := N) (w := w) (z := z)
          cases a : cnb x N w z <;> cases b : kp <;> cases c : (nxs x N s r e).testBit z <;> simp_all
        · rw [if_neg q]; exact ht i (by omega)
      refine ⟨vp_in_nI (by show _ < 256; omega) (by decide), bI_br (fun q => b167 false (by rw [q]; rfl)) (fun q => bI_br (fun y => b167 false (by rw [q, y]; rfl)) (fun y => b167 true (by rw [q, y]; rfl)))⟩
    unfold wb_X9_meet_77
    refine sp_wide q15 hF8 ?_
    refine pk_le (2 ^ fbc x N) z (fun z => by omega) (fun _ => ?_)
    refine (pk_eq r 0 (fun q => ?_) (fun q => ?_)).symm
    · refine sp_spot q15 hF8 ⟨vp_in_nI (by show _ < 1024; omega) (by decide), ?_⟩
      rw [nI_clamp (by omega), fr.A (by decide), (cT1 _ hidx).2, hRr]
      exact b131 _ (by rw [if_pos q])
    · refine sp_wide q15 hF8 (sp_spot q15 hF8 ⟨vp_in_nI (by show _ < 1024; omega) (by decide), ?_⟩)
      rw [nI_clamp (by omega), fr.A (by decide), (cT1 _ hidx).1, hT, pk_mul, nI_add, nI_clamp (by omega), fr.A (by decide), hrow (by omega) _ htl]
      exact ⟨vp_in_nI (by show _ < 33300; omega) (by decide), b131 _ (by rw [if_neg q])⟩
theorem MCa_fr {σ τ : Sg} {x : Nat → NdT} {N : Nat} (h : MCa σ x N) (fr : Fr [10] [62, 63, 64, 65, 66, 67] σ τ) (g : ∀ k, k ≠ 27 → gF τ 10 k = gF σ 10 k) : MCa τ x N := by
  unfold MCa MNd MTb at h ⊢
  rw [g 4 (by decide), g 15 (by decide), g 16 (by decide), g 18 (by decide), g 19 (by decide), fr.A (by decide), fr.A (by decide), fr.A (by decide), fr.A (by decide), fr.A (by decide), fr.A (by decide), fr.A (by decide)]
  exact h
/-- no step went beyond -/
def Mnq (x : Nat → NdT) (N j : Nat) : Prop := ∀ j', j' < j → j' / 4 < (pseq x N j').1
theorem sp_meetM {σ : Sg} {x : Nat → NdT} {N : Nat} {Q : Int32 → Sg → Prop} (hR : Rok x N) (hC : MCa σ x N) (hdone : ∀ J τ, 4 * (pseq x N J).1 = J → PWq x N J (pseq x N J) → Mnq x N J → RMq σ τ x N (pseq x N J) → LdM τ (pseq x N J) J → Q (nI 1) τ) (hfull : ∀ j τ, j / 4 < (pseq x N j).1 → PWq x N j (pseq x N j) → Mnq x N j → fnd (pseq x N j).2.1 (pseq x N j).2.2.1 (nxw x N (pseq x N j) (j / 4) (j % 4)) (nxs x N (pseq x N j) (j / 4) (j % 4)) (pseq x N j).1 = none → ctp (pseq x N j).2.1 (nxw x N (pseq x N j) (j / 4) (j % 4)) (pseq x N j).1 = 60 → Fr [10] [62, 63, 64, 65, 66, 67] σ τ → (∀ k, k ≠ 27 → gF τ 10 k = gF σ 10 k) → Q (nI 0) τ) : wp_X9_meet σ Q := by
  obtain ⟨r0, r9, rk, rb⟩ := id hR
  have hF8 : fbc x N ≤ 8 := by omega
  have hP8 : pbc x N ≤ 8 := by omega
  have hP256 := pw8 hP8
  have hD0 := Nat.two_pow_pos (fbc x N)
  refine lq1 (fun g k (τ : Sg) => wl_X9_meet_2 (fun σ9 => wp_X9_meet_22 Q σ9) Q g (nI k) τ) (fun k τ => Fr [] [65] σ τ ∧ ∀ i, i < k → gA τ 65 i = nI 0) 256 ?_ ?_ σ ⟨Fr.rf, fun i hi => by omega⟩
  · intro g τ ⟨fr, hz⟩
    show wb_X9_meet_2 _ _ _ _ _
    refine pk_le 256 256 (fun _ => ?_) (fun z => by omega)
    intro σ1 e1
    have hR1 : RMq σ σ1 x N (pseq x N 0) := by
      refine ⟨?_, fun k hk => ?_, ?_, fun r r1 r2 => ?_, fun w hw => ?_⟩
      · rw [e1]; exact (fr.mono (by simp) (by simp)).stF (by simp)
      · rw [e1, gF_stF, if_pos rfl, if_neg hk, fr.F (by decide)]
      · rw [e1, gF_stF, if_pos rfl, if_pos rfl]; rfl
      · have : r < 1 := r2
        omega
      · have hc : ctp (pseq x N 0).2.1 w (pseq x N 0).1 = 0 := by
          show ctp (fun _ => aFm x N) w 1 = 0
          unfold ctp
          exact fb_ct_zero.mpr (fun k hk => by
            unfold ofp
            rw [decide_eq_false (show ¬ 1 ≤ k by omega), Bool.false_and])
        rw [hc, e1, gA_stF, hz w (by omega)]
        exact ⟨rfl, by omega, fun k hk => by omega⟩
    clear e1
    refine loop_m (σ := Nat × Sg) (fun g a => wl_X9_meet_29 Q g (nI a.1) a.2) (fun a => RMq σ a.2 x N (pseq x N (4 * a.1)) ∧ PWq x N (4 * a.1) (pseq x N (4 * a.1)) ∧ LdM a.2 (pseq x N (4 * a.1)) (4 * a.1) ∧ a.1 ≤ (pseq x N (4 * a.1)).1 ∧ Mnq x N (4 * a.1)) (fun a => 1922 - a.1) ?_ (0, σ1) ⟨hR1, pwq_0 x N, fun j' hj => absurd hj (Nat.not_lt_zero j'), Nat.zero_le _, fun j' hj => absurd hj (Nat.not_lt_zero j')⟩
    rintro g0 ⟨r, ρ⟩ ⟨a1, a2, a3, a4, a5⟩ hs
    simp only at a1 a2 a3 a4 a5 hs ⊢
    have hlim := lim_of rb a2 (fun w hw => (a1.2.2.2.2 w hw).2.1)
    show wb_X9_meet_29 _ _ _ _
    unfold wb_X9_meet_29
    rw [a1.2.2.1]
    refine pk_le (pseq x N (4 * r)).1 r (fun z => hdone (4 * r) ρ (by omega) a2 a5 a1 a3) (fun z => ?_)
    refine lq1 (fun g e (κ : Sg) => wl_X9_meet_39 (nI r) (fun σ9 => wp_X9_meet_209 (nI r) _ Q σ9) Q g (nI e) κ) (fun e κ => RMq σ κ x N (pseq x N (4 * r + e)) ∧ PWq x N (4 * r + e) (pseq x N (4 * r + e)) ∧ LdM κ (pseq x N (4 * r + e)) (4 * r + e) ∧ r < (pseq x N (4 * r + e)).1 ∧ Mnq x N (4 * r + e)) 4 ?_ ?_ ρ ⟨a1, a2, a3, z, a5⟩
    · intro g κ ⟨b1, b2, b3, b4, b5⟩
      show wb_X9_meet_39 _ _ _ _ _ _
      refine pk_le 4 4 (fun _ => ?_) (fun z => by omega)
      intro y ey
      rw [ey, nI_add]
      exact hs (r + 1, κ) ⟨b1, b2, b3, b4, b5⟩ (by show 1922 - (r + 1) < 1922 - r; omega)
    · intro g e κ he ⟨b1, b2, b3, b4, b5⟩ hs2
      show wb_X9_meet_39 _ _ _ _ _ _
      have hjd : (4 * r + e) / 4 = r ∧ (4 * r + e) % 4 = e := k4 he
      have hlim2 := lim_of rb b2 (fun w hw => (b1.2.2.2.2 w hw).2.1)
      have hCκ : MCa κ x N := MCa_fr hC b1.1 b1.2.1
      have hps := b2.2.2.1 r b4
      -- from the past on
      have b61 : wp_X9_meet_61 (nI r) (nI e) (nI ((pseq x N (4 * r + e)).2.1 r)) (wl_X9_meet_39 (nI r) (fun σ9 => wp_X9_meet_209 (nI r) (wl_X9_meet_29 Q g0) Q σ9) Q g) Q κ := by
        unfold wp_X9_meet_61
        rw [pk_mul, nI_add, nI_clamp (by omega), (hCκ.2.2.2.2.2.1).2 _ (show 4 * (pseq x N (4 * r + e)).2.1 r + e < 4 * 2 ^ pbc x N by omega)]
        have hL : Lpf x N (4 * (pseq x N (4 * r + e)).2.1 r + e) = nxw x N (pseq x N (4 * r + e)) r e := by
          unfold Lpf nxw
          rw [(k4 he).1, (k4 he).2]
        rw [hL]
        refine ⟨vp_in_nI (by show _ < 1024; omega) (by decide), ?_⟩
        intro x72 e72
        subst e72
        have hlr : r * 2 ^ fbc x N + 2 ^ fbc x N ≤ 33300 := by
          have h1 : (r + 1) * 2 ^ fbc x N ≤ ((pseq x N (4 * r + e)).1 + 1) * 2 ^ fbc x N := Nat.mul_le_mul_right _ (by omega)
          rw [Nat.add_mul r 1, Nat.one_mul] at h1
          omega
        refine sp_fresh hR hCκ he b4 b2 rfl (fun r1 => (b1.2.2.2.1 r r1 b4).2) hlr (fun κ1 f1 h67 => ?_)
        have hR1 : RMq σ κ1 x N (pseq x N (4 * r + e)) := by
          obtain ⟨d1, d2, d3, d4, d5⟩ := b1
          refine ⟨d1.tr (f1.mono (by simp) (by simp)), fun k hk => by rw [f1.F (by decide)]; exact d2 k hk, by rw [f1.F (by decide)]; exact d3, ?_, ?_⟩
          · rw [f1.A (by decide), f1.A (by decide)]; exact d4
          · rw [f1.A (by decide), f1.A (by decide)]; exact d5
        have h15 : gF κ1 10 15 = nI (fbc x N) := by rw [f1.F (by decide)]; exact hCκ.2.1
        have hwP : nxw x N (pseq x N (4 * r + e)) r e < 2 ^ pbc x N := lbm_lt x N _ _ _
        have hld : LdM κ1 (pseq x N (4 * r + e)) (4 * r + e) := fun j' hj' => by rw [f1.A (by decide)]; exact b3 j' hj'
        have hok : PWq x N (4 * r + e + 1) (pseq x N (4 * r + e + 1)) := pst_ok b2 (by rw [hjd.1]; exact b4)
        have hold := pst_old (x := x) (N := N) (j := 4 * r + e) (s := pseq x N (4 * r + e))
        have hpe : pseq x N (4 * r + e + 1) = pst x N (4 * r + e) (pseq x N (4 * r + e)) := rfl
        -- the lead is put
        have put : ∀ (l : Nat) (κ2 : Sg), l < 2 ^ 31 → (pseq x N (4 * r + e + 1)).2.2.2 (4 * r + e) = l → RMq σ κ2 x N (pseq x N (4 * r + e + 1)) → LdM κ2 (pseq x N (4 * r + e)) (4 * r + e) → ((¬ nI l = (-9 : Int32) → vp_in (((nI 4) * nI r) + nI e) (aN 64) ∧ (∀ σ3 : Sg, σ3 = stA κ2 64 (Int32.toNatClampNeg (((nI 4) * nI r) + nI e)) (nI l) → (∀ x203 : Int32, x203 = nI e + (nI 1) → (wl_X9_meet_39 (nI r) (fun σ9 => wp_X9_meet_209 (nI r) (wl_X9_meet_29 Q g0) Q σ9) Q g x203 σ3)))) ∧ (nI l = (-9 : Int32) → Q (nI 0) κ2)) := by
          intro l κ2 hl31 hl h1 h2
          rw [pk_mul, nI_add, nI_clamp (by omega)]
          refine ⟨fun _ => ⟨vp_in_nI (by show _ < 10400; omega) (by decide), ?_⟩, fun q => absurd q (ni9 hl31)⟩
          intro κ3 e3 y ey
          rw [ey, nI_add]
          refine hs2 κ3 ⟨?_, hok, fun j' hj' => ?_, ?_, fun j' hj' => (by
            by_cases q : j' = 4 * r + e
            · rw [q, hjd.1]; exact b4
            · exact b5 j' (by omega))⟩
          · obtain ⟨d1, d2, d3, d4, d5⟩ := h1
            refine ⟨by rw [e3]; exact d1.stA (by simp), fun k hk => by rw [e3]; exact d2 k hk, by rw [e3]; exact d3, ?_, ?_⟩
            · rw [e3, gA_stA_row (by decide), gA_stA_row (by decide)]; exact d4
            · rw [e3, gA_stA_row (by decide), gA_stA_row (by decide)]; exact d5
          · rw [e3, gA_stA, if_pos rfl]
            by_cases q : j' = 4 * r + e
            · rw [if_pos q, q]
              exact congrArg nI hl.symm
            · rw [if_neg q, h2 j' (by omega)]
              congr 1
              exact (hold.2.2.2 j' q).symm
          · have := hold.1
            rw [← hpe] at this
            show r < (pseq x N (4 * r + e + 1)).1
            omega
        unfold wp_X9_meet_174
        refine sp_Mfind hF8 hP8 h15 hwP (nxs_lt x N _ r e) ⟨hlim2.1, by rw [Nat.add_mul, Nat.one_mul] at hlim2; omega⟩ b2 hR1 h67 (fun i hi => ?_) (fun hno => ?_)
        · have he1 : pseq x N (4 * r + e + 1) = ((pseq x N (4 * r + e)).1, (pseq x N (4 * r + e)).2.1, (pseq x N (4 * r + e)).2.2.1, fun k => if k = 4 * r + e then i else (pseq x N (4 * r + e)).2.2.2 k) := by
            rw [hpe]
            unfold pst
            rw [hjd.1, hjd.2, hi]
          obtain ⟨_, f2, _, _⟩ := fnd_some _ hi
          refine put i κ1 (by omega) (by rw [he1]; simp only [if_true]) ?_ hld
          rw [he1]; exact hR1
        · refine sp_Mnew rb h15 hwP b2 hR1 h67 (fun h60 => ?_) (fun hlt κ2 ld' f2 hR2 => ?_)
          · refine ⟨fun q => absurd rfl q, fun _ => ?_⟩
            refine hfull (4 * r + e) κ1 (by rw [hjd.1]; exact b4) b2 b5 (by rw [hjd.1, hjd.2]; exact hno) (by rw [hjd.1, hjd.2]; exact h60) hR1.1 hR1.2.1
          · have he1 : pseq x N (4 * r + e + 1) = ((pseq x N (4 * r + e)).1 + 1, (fun k => if k = (pseq x N (4 * r + e)).1 then nxw x N (pseq x N (4 * r + e)) r e else (pseq x N (4 * r + e)).2.1 k), (fun k => if k = (pseq x N (4 * r + e)).1 then nxs x N (pseq x N (4 * r + e)) r e else (pseq x N (4 * r + e)).2.2.1 k), fun k => if k = 4 * r + e then (pseq x N (4 * r + e)).1 else (pseq x N (4 * r + e)).2.2.2 k) := by
              rw [hpe]
              unfold pst
              rw [hjd.1, hjd.2, hno]
            refine put (pseq x N (4 * r + e)).1 κ2 (by omega) (by rw [he1]; simp only [if_true]) ?_ (fun j' hj' => by rw [f2.A (by decide)]; exact hld j' hj')
            rw [he1]; exact hR2
      refine pk_le 4 e (fun z => by omega) (fun _ => ?_)
      refine (pk_eq r 0 (fun q => ?_) (fun q => ?_)).symm
      · rw [hCκ.2.2.2.2.1]
        have hp0 : (pseq x N (4 * r + e)).2.1 r = aFm x N := (congrArg (pseq x N (4 * r + e)).2.1 q).trans b2.2.1
        rw [hp0] at b61
        exact b61
      · rw [nI_clamp (by omega), (b1.2.2.2.1 r (by omega) b4).1]
        exact ⟨vp_in_nI (by show r < 2600; omega) (by decide), b61⟩
  · intro g k τ hk ⟨fr, hz⟩ hs2
    show wb_X9_meet_2 _ _ _ _ _
    refine pk_le 256 k (fun z => by omega) (fun _ => ⟨vp_in_nI (by show k < 256; exact hk) (by decide), ?_⟩)
    intro τ1 e1 y ey
    rw [nI_clamp (by omega)] at e1
    rw [ey, nI_add]
    refine hs2 τ1 ⟨by rw [e1]; exact fr.stA (by simp), fun i hi => ?_⟩
    rw [e1, gA_stA, if_pos rfl]
    by_cases q : i = k
    · rw [if_pos q]
    · rw [if_neg q]; exact hz i (by omega)
