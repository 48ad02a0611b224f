/-! ===== keys: the calls ===== -/
theorem PTa.fr {σ σ1 : Sg} {nb : Nat} {tp : Nat → Nat} (f0 : gF σ1 0 = gF σ 0) (f10 : gF σ1 10 = gF σ 10) (c11 : gA σ1 11 = gA σ 11) (c47 : gA σ1 47 = gA σ 47) (h : PTa σ nb tp) : PTa σ1 nb tp := by
  unfold PTa at h ⊢; rw [f0, f10, c11, c47]; exact h
theorem PXa.fr {σ σ1 : Sg} {n : Nat} {to : Nat → Nat → Nat} {vd : Nat → Nat} {ds : Nat → Nat → Option Nat} (f6 : gF σ1 6 = gF σ 6) (c35 : gA σ1 35 = gA σ 35) (c36 : gA σ1 36 = gA σ 36) (c37 : gA σ1 37 = gA σ 37) (c38 : gL σ1 38 = gL σ 38) (h : PXa σ n to vd ds) : PXa σ1 n to vd ds := by
  unfold PXa at h ⊢; rw [f6, c35, c36, c37, c38]; exact h
theorem PMo.fr {σ σ1 : Sg} {n : Nat} {to : Nat → Nat → Nat} {vd : Nat → Nat} (f10 : gF σ1 10 = gF σ 10) (c71 : gA σ1 71 = gA σ 71) (c72 : gA σ1 72 = gA σ 72) (c73 : gA σ1 73 = gA σ 73) (h : PMo σ n to vd) : PMo σ1 n to vd := by
  unfold PMo at h ⊢; rw [f10, c71, c72, c73]; exact h
theorem PXk.fr {σ σ1 : Sg} {n : Nat} {to : Nat → Nat → Nat} {vd : Nat → Nat} (f7 : gF σ1 7 = gF σ 7) (c39 : gA σ1 39 = gA σ 39) (c40 : gA σ1 40 = gA σ 40) (h : PXk σ n to vd) : PXk σ1 n to vd := by
  unfold PXk at h ⊢; rw [f7, c39, c40]; exact h
theorem PMk.fr {σ σ1 : Sg} {n : Nat} {to : Nat → Nat → Nat} {vd : Nat → Nat} (f10 : gF σ1 10 = gF σ 10) (c82 : gA σ1 82 = gA σ 82) (c83 : gA σ1 83 = gA σ 83) (h : PMk σ n to vd) : PMk σ1 n to vd := by
  unfold PMk at h ⊢; rw [f10, c82, c83]; exact h
theorem PLe.fr {σ σ1 : Sg} (r5 : gR σ1 5 = gR σ 5) (h : PLe σ) : PLe σ1 := by
  unfold PLe at h ⊢; rw [r5]; exact h
theorem PKe.fr {σ σ1 : Sg} {n : Nat} {mk : Nat → Nat} (c45 : gL σ1 45 = gL σ 45) (c46 : gA σ1 46 = gA σ 46) (c79 : gA σ1 79 = gA σ 79) (c81 : gA σ1 81 = gA σ 81) (h : PKe σ n mk) : PKe σ1 n mk := by
  unfold PKe at h ⊢; rw [c45, c46, c79, c81]; exact h
theorem inv_keys {σ σ1 : Sg} {nb n n' : Nat} {tp : Nat → Nat} {to to' : Nat → Nat → Nat} {vd vd' : Nat → Nat} {ds : Nat → Nat → Option Nat} {mk : Nat → Nat} (h : Fr [] [45, 46, 79, 80, 81] σ σ1) (hT : PTa σ nb tp) (hF : gF σ 0 2 = gF σ 10 2) (hM : PMa to vd n) (hX : PXa σ n to vd ds) (hO : PMo σ n to vd) (hK : PKe σ1 n mk) (hXk : PXk σ n' to' vd') (hMk : PMk σ n' to' vd') (hL : PLe σ) : Inv σ1 :=
  ⟨nb, tp, n, to, vd, ds, mk, n', to', vd', hT.fr (h.F (by decide)) (h.F (by decide)) (h.A (by decide)) (h.A (by decide)), by rw [h.F (by decide), h.F (by decide)]; exact hF, hM, hX.fr (h.F (by decide)) (h.A (by decide)) (h.A (by decide)) (h.A (by decide)) (h.L (by decide)), hO.fr (h.F (by decide)) (h.A (by decide)) (h.A (by decide)) (h.A (by decide)), hK, hXk.fr (h.F (by decide)) (h.A (by decide)) (h.A (by decide)), hMk.fr (h.F (by decide)) (h.A (by decide)) (h.A (by decide)), hL.fr (h.R (by decide))⟩
theorem PKe_upd {σ σ2 : Sg} {n k m' : Nat} {mk : Nat → Nat} (hK : PKe σ n mk) (hm : m' < 2 ^ n) (h45 : gL σ2 45 k = lN m') (h45' : ∀ j, j < 16 → j ≠ k → gL σ2 45 j = gL σ 45 j) (h46 : gA σ2 46 k = gA σ2 81 k) (h46' : ∀ j, j < 16 → j ≠ k → gA σ2 46 j = gA σ 46 j ∧ gA σ2 81 j = gA σ 81 j) (h79 : ∀ s, s < 60 → gA σ2 79 (60 * k + s) = bI (m'.testBit s)) (h79' : ∀ j, j < 16 → j ≠ k → ∀ s, s < 60 → gA σ2 79 (60 * j + s) = gA σ 79 (60 * j + s)) : PKe σ2 n (fun j => if j = k then m' else mk j) := by
  intro j hj
  by_cases q : j = k
  · subst q
    simp only [if_true]
    exact ⟨h45, hm, h46, h79⟩
  · simp only [if_neg q]
    obtain ⟨a, b, c, d⟩ := hK j hj
    refine ⟨(h45' j hj q).trans a, b, ?_, fun s hs => (h79' j hj q s hs).trans (d s hs)⟩
    rw [(h46' j hj q).1, (h46' j hj q).2]; exact c
theorem sp_refK {x : Int32} {n : Nat} {σ : Sg} {Q : Int32 → Sg → Prop} (hn : gF σ 6 4 = nI n) (h1 : n ≤ 60) (h0 : n = 0 → Q (-3) σ) (hi : 0 < n → inN x 16 = false → Q (-1) σ) (h : ∀ k, 0 < n → k < 16 → x = nI k → Q (nI 0) σ) : wp_X8_refusalOfKey x σ Q := by
  refine sp_isThere hn h1 (bI_rb (fun z => ?_) (fun z => ?_))
  · have hn0 : 0 < n := of_decide_eq_true z
    refine sp_isKey (bI_br (fun hj => hi hn0 hj) (fun hj => ?_))
    obtain ⟨s, hs, rfl⟩ := inN_of hj
    exact h s hn0 hs rfl
  · have := of_decide_eq_false z
    exact h0 (by omega)
/-- the reference's own guard of a key -/
theorem sp_MrefK {n : Nat} {x : Int32} {σ : Sg} {A : Int32 → Sg → Prop} {B : Prop} (hO : gF σ 10 38 = bI (decide (0 < n))) (hn : 0 < n) (ha : A (bI (inN x 16)) σ) : (¬ gF σ 10 38 = nI 0 → wp_X9_isKey x σ A) ∧ (gF σ 10 38 = nI 0 → B) := sp_MrefS hO (fun _ => sp_MisKey ha) (fun z => by omega)
theorem op_told (a0 : Int32) : Both (wp_X8_told a0) (wp_X9_told a0) := by
  intro σ I
  obtain ⟨nb, tp, n, to, vd, ds, mk, n', to', vd', hT, hF, hM, hX, hO, hK, hXk, hMk, hL⟩ := id I
  refine sp_refK hX.1 hM.1 (fun h0 => br_f (by decide) ?_) (fun hn hi => br_f (by decide) ?_) (fun k hn hk e => br_t rfl ?_)
  · exact sp_MrefS hO.2.1 (fun z => by omega) (fun _ => ⟨rfl, I⟩)
  · exact sp_MrefK hO.2.1 hn (by rw [hi]; exact br_t rfl ⟨rfl, I⟩)
  · subst e
    refine sp_keyX hM hX (hK k hk).1 (hK k hk).2.1 hk (sp_MrefK hO.2.1 hn ?_)
    rw [inN_nI (by omega), decide_eq_true hk]
    exact br_f (by decide) (sp_keyM hM hO hk (hK k hk).2.2.2 ⟨rfl, I⟩)
theorem op_events (a0 : Int32) : Both (wp_X8_events a0) (wp_X9_events a0) := by
  intro σ I
  obtain ⟨nb, tp, n, to, vd, ds, mk, n', to', vd', hT, hF, hM, hX, hO, hK, hXk, hMk, hL⟩ := id I
  refine sp_refK hX.1 hM.1 (fun h0 => br_f (by decide) ?_) (fun hn hi => br_f (by decide) ?_) (fun k hn hk e => br_t rfl ?_)
  · exact sp_MrefS hO.2.1 (fun z => by omega) (fun _ => ⟨rfl, I⟩)
  · exact sp_MrefK hO.2.1 hn (by rw [hi]; exact br_t rfl ⟨rfl, I⟩)
  · subst e
    refine sp_pick rfl (by show k < 16; exact hk) (sp_MrefK hO.2.1 hn ?_)
    rw [inN_nI (by omega), decide_eq_true hk, nI_clamp (by omega), (hK k hk).2.2.1]
    exact br_f (by decide) ⟨vp_in_nI (by show k < 16; exact hk) (by decide), rfl, I⟩
theorem one_bit (s : Nat) : (1 : Nat).testBit s = decide (s = 0) := by
  have h := Nat.testBit_two_pow (n := 0) (m := s)
  rw [Nat.pow_zero] at h
  rw [h]
  by_cases q : s = 0
  · subst q; rfl
  · rw [decide_eq_false q, decide_eq_false (by omega)]
/-- a key begun anew, by the reference -/
theorem sp_begin {σ : Sg} {k : Nat} {x : Int32} {Q : Sg → Prop} (hx : x = nI k) (hk : k < 16) (h : ∀ σ1, Fr [] [79, 81] σ σ1 → (∀ s, s < 60 → gA σ1 79 (60 * k + s) = bI ((1 : Nat).testBit s)) → (∀ j, (∀ s, s < 60 → j ≠ 60 * k + s) → gA σ1 79 j = gA σ 79 j) → gA σ1 81 k = nI 0 → (∀ j, j ≠ k → gA σ1 81 j = gA σ 81 j) → Q σ1) : wp_X9_begin x σ Q := by
  subst hx
  refine lq1 (fun f s (τ : Sg) => wl_X9_begin_2 (nI k) (fun σ9 => wp_X9_begin_34 (nI k) Q σ9) Q f (nI s) τ) (fun s τ => Fr [] [79] σ τ ∧ (∀ t, t < s → gA τ 79 (60 * k + t) = bI ((1 : Nat).testBit t)) ∧ ∀ j, (∀ t, t < s → j ≠ 60 * k + t) → gA τ 79 j = gA σ 79 j) 60 ?_ ?_ σ ⟨Fr.rf, fun t z => by omega, fun j _ => rfl⟩
  · intro f τ ⟨h1, h2, h3⟩
    show wb_X9_begin_2 _ _ _ _ _ _
    refine pk_le 60 60 (fun _ => ⟨vp_in_nI (by show k < 16; exact hk) (by decide), ?_⟩) (fun z => by omega)
    intro ρ e
    rw [e, nI_clamp (by omega)]
    refine h _ ((h1.mono (by simp) (by simp)).stA (by simp)) h2 h3 ?_ ?_
    · rw [gA_stA, if_pos rfl, if_pos rfl]
    · intro j hj
      rw [gA_stA, if_pos rfl, if_neg hj, h1.A (by decide)]
  · intro f s τ hs ⟨h1, h2, h3⟩ hs2
    show wb_X9_begin_2 _ _ _ _ _ _
    have i60 : nI 60 * nI k + nI s = nI (60 * k + s) := by rw [pk_mul, nI_add]
    have go : ∀ v : Bool, v = (1 : Nat).testBit s → wp_X9_begin_27 (nI k) (nI s) (bI v) (nI 60 * nI k + nI s) (wl_X9_begin_2 (nI k) (fun σ9 => wp_X9_begin_34 (nI k) Q σ9) Q f) Q τ := by
      intro v hv
      unfold wp_X9_begin_27
      rw [i60, nI_clamp (by omega), nar_bI]
      refine ⟨vp_in_nI (by show _ < 960; omega) (by decide), ?_⟩
      intro ρ e x ex
      subst e
      rw [ex, nI_add]
      refine hs2 _ ⟨h1.stA (by simp), fun t ht => ?_, fun j hj => ?_⟩
      · rw [gA_stA, if_pos rfl]
        by_cases q : t = s
        · rw [if_pos (by omega), q, hv]
        · rw [if_neg (by omega)]; exact h2 t (by omega)
      · rw [gA_stA, if_pos rfl, if_neg (hj s (by omega))]
        exact h3 j (fun t ht => hj t (by omega))
    refine pk_le 60 s (fun z => by omega) (fun _ => ?_)
    have hp := pk_eq (x := nI s) (y := nI 0) (A := wp_X9_begin_27 (nI k) (nI s) (nI 1) (nI 60 * nI k + nI s) (wl_X9_begin_2 (nI k) (fun σ9 => wp_X9_begin_34 (nI k) Q σ9) Q f) Q τ) (B := wp_X9_begin_27 (nI k) (nI s) (nI 0) (nI 60 * nI k + nI s) (wl_X9_begin_2 (nI k) (fun σ9 => wp_X9_begin_34 (nI k) Q σ9) Q f) Q τ) s 0 (fun z => go true (by rw [one_bit, decide_eq_true z])) (fun z => go false (by rw [one_bit, decide_eq_false z]))
    exact ⟨hp.2, hp.1⟩
theorem op_anew (a0 : Int32) : Both (wp_X8_anew a0) (wp_X9_anew a0) := by
  intro σ I
  obtain ⟨nb, tp, n, to, vd, ds, mk, n', to', vd', hT, hF, hM, hX, hO, hK, hXk, hMk, hL⟩ := id I
  have hn60 := hM.1
  refine sp_refK hX.1 hM.1 (fun h0 => br_f (by decide) ?_) (fun hn hi => br_f (by decide) ?_) (fun k hn hk e => br_t rfl ?_)
  · exact sp_MrefS hO.2.1 (fun z => by omega) (fun _ => ⟨rfl, I⟩)
  · exact sp_MrefK hO.2.1 hn (by rw [hi]; exact ⟨fun z => absurd rfl z, fun _ => ⟨rfl, I⟩⟩)
  · subst e
    refine sp_keyX hM hX (hK k hk).1 (hK k hk).2.1 hk ?_
    refine sp_putLong rfl (by show k < 16; exact hk) (sp_put rfl (by show k < 16; exact hk) ?_)
    have f1 : Fr [] [45, 46] σ (stA (stL σ 45 k (lN 1)) 46 k (nI 0)) := (Fr.rf.stL (by simp)).stA (by simp)
    generalize hσ1 : stA (stL σ 45 k (lN 1)) 46 k (nI 0) = σ1 at f1
    have hO1 : PMo σ1 n to vd := hO.fr (f1.F (by decide)) (f1.A (by decide)) (f1.A (by decide)) (f1.A (by decide))
    refine sp_MrefK hO1.2.1 hn ?_
    rw [inN_nI (by omega), decide_eq_true hk]
    refine ⟨fun _ => sp_keyM hM hO1 hk (m := mk k) (fun s hs => by rw [f1.A (by decide)]; exact (hK k hk).2.2.2 s hs) (sp_begin rfl hk (fun σ2 f2 h1 h2 h3 h4 => ⟨rfl, ?_⟩)), fun z => absurd z (by decide)⟩
    refine inv_keys ((f1.mono (by simp) (by simp)).tr (f2.mono (by simp) (by simp))) hT hF hM hX hO (PKe_upd (k := k) (m' := 1) hK ?_ ?_ ?_ ?_ ?_ h1 ?_) hXk hMk hL
    · exact Nat.one_lt_two_pow (by omega)
    · rw [f2.L (by decide), ← hσ1]
      show gL (stL σ 45 k (lN 1)) 45 k = _
      rw [gL_stL, if_pos rfl, if_pos rfl]
    · intro j hj hne
      rw [f2.L (by decide), ← hσ1]
      show gL (stL σ 45 k (lN 1)) 45 j = _
      rw [gL_stL, if_pos rfl, if_neg hne]
    · rw [f2.A (by decide), h3, ← hσ1, gA_stA, if_pos rfl, if_pos rfl]
    · intro j hj hne
      rw [f2.A (by decide : (46 : Nat) ∉ _), h4 j hne, ← hσ1, gA_stA, if_pos rfl, if_neg hne]
      exact ⟨rfl, by rw [gA_stA_row (by decide)]; rfl⟩
    · intro j hj hne s hs
      rw [h2 _ (fun t ht => by omega), f1.A (by decide)]
