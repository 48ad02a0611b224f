/-! ===== the plain calls ===== -/
theorem notin_of {fc l : List Nat} (h : fc.all (fun c => !(l.contains c)) = true) {x : Nat} (hx : x ∈ l) : x ∉ fc := by
  intro hf
  have h1 := List.all_eq_true.mp h x hf
  rw [List.contains_iff_mem.mpr hx] at h1
  exact absurd h1 (by decide)
theorem Inv.fr {fo fc : List Nat} {σ σ1 : Sg} (h : Fr fo fc σ σ1) (h1 : fo.all (fun c => !([0, 5, 6, 7, 10].contains c)) = true) (h2 : fc.all (fun c => !([11, 47, 35, 36, 37, 38, 39, 40, 45, 46, 71, 72, 73, 79, 81, 82, 83].contains c)) = true) (I : Inv σ) : Inv σ1 := by
  have f0 := h.F (notin_of h1 (x := 0) (by decide))
  have f6 := h.F (notin_of h1 (x := 6) (by decide))
  have f7 := h.F (notin_of h1 (x := 7) (by decide))
  have f10 := h.F (notin_of h1 (x := 10) (by decide))
  have r5 := h.R (notin_of h1 (x := 5) (by decide))
  have c11 := h.A (notin_of h2 (x := 11) (by decide))
  have c47 := h.A (notin_of h2 (x := 47) (by decide))
  have c35 := h.A (notin_of h2 (x := 35) (by decide))
  have c36 := h.A (notin_of h2 (x := 36) (by decide))
  have c37 := h.A (notin_of h2 (x := 37) (by decide))
  have c38 := h.L (notin_of h2 (x := 38) (by decide))
  have c39 := h.A (notin_of h2 (x := 39) (by decide))
  have c40 := h.A (notin_of h2 (x := 40) (by decide))
  have c45 := h.L (notin_of h2 (x := 45) (by decide))
  have c46 := h.A (notin_of h2 (x := 46) (by decide))
  have c71 := h.A (notin_of h2 (x := 71) (by decide))
  have c72 := h.A (notin_of h2 (x := 72) (by decide))
  have c73 := h.A (notin_of h2 (x := 73) (by decide))
  have c79 := h.A (notin_of h2 (x := 79) (by decide))
  have c81 := h.A (notin_of h2 (x := 81) (by decide))
  have c82 := h.A (notin_of h2 (x := 82) (by decide))
  have c83 := h.A (notin_of h2 (x := 83) (by decide))
  unfold Inv PTa PXa PMo PKe PXk PMk PLe at I ⊢
  rw [f0, f6, f7, f10, r5, c11, c47, c35, c36, c37, c38, c39, c40, c45, c46, c71, c72, c73, c79, c81, c82, c83]
  exact I
theorem op_cut : Both wp_X8_cut wp_X9_cut := by
  intro σ I
  obtain ⟨nb, tp, n, to, vd, ds, mk, n', to', vd', hT, hF, hM, hX, hO, hK, hXk, hMk, hL⟩ := id I
  intro x4 e4 σ1 e1 x5 e5 σ2 e2
  subst e1 e2 e4 e5
  refine ⟨?_, 0, tp, n, to, vd, ds, mk, n', to', vd', ?_, hF, hM, hX, hO, hK, hXk, hMk, hL⟩
  · show gF σ 0 1 = gF σ 10 1
    rw [hT.2.1, hT.2.2.1]
  · exact ⟨by omega, rfl, rfl, fun i h => by omega⟩
theorem op_fault : Both wp_X8_fault wp_X9_fault := by
  intro σ I
  obtain ⟨nb, tp, n, to, vd, ds, mk, n', to', vd', hT, hF, hM, hX, hO, hK, hXk, hMk, hL⟩ := id I
  exact ⟨hF, I⟩
theorem sp_next {s e n : Nat} {a0 a1 : Int32} {σ : Sg} {Q : Int32 → Sg → Prop} (h0 : a0 = nI s) (h1 : a1 = nI e) (hs : s < n) (hn : n ≤ 60) (he : e < 4) (h : Q (gA σ 35 (s * 4 + e)) σ) : wp_X7_next a0 a1 σ Q := by
  subst h0 h1
  refine sp_pick (k := s * 4 + e) (by show nI s * nI 4 + nI e = _; rw [pk_mul, nI_add]) (by show _ < 240; omega) h
theorem sp_refS {x : Int32} {n : Nat} {σ : Sg} {Q : Int32 → Sg → Prop} (hn : gF σ 6 4 = nI n) (h1 : n ≤ 60) (h0 : n = 0 → Q (-3) σ) (hi : 0 < n → inN x n = false → Q (-1) σ) (h : ∀ s, 0 < n → s < n → x = nI s → Q (nI 0) σ) : wp_X8_refusalOfState x σ Q := by
  refine sp_isThere hn h1 (bI_rb (fun z => ?_) (fun z => ?_))
  · have hn0 : 0 < n := of_decide_eq_true z
    refine sp_has hn h1 (bI_br (fun hj => hi hn0 hj) (fun hj => ?_))
    obtain ⟨s, hs, rfl⟩ := inN_of hj
    exact h s hn0 hs rfl
  · have := of_decide_eq_false z
    exact h0 (by omega)
/-- the reference's own guard of a state -/
theorem sp_MrefS {n : Nat} {σ : Sg} {A B : Prop} (hO : gF σ 10 38 = bI (decide (0 < n))) (ha : 0 < n → A) (hb : n = 0 → B) : (¬ gF σ 10 38 = nI 0 → A) ∧ (gF σ 10 38 = nI 0 → B) := by
  rw [hO]
  exact bI_rb (fun z => ha (of_decide_eq_true z)) (fun z => hb (by have := of_decide_eq_false z; omega))
theorem op_leads (a0 a1 : Int32) : Both (wp_X8_leads a0 a1) (wp_X9_leads a0 a1) := by
  intro σ I
  obtain ⟨nb, tp, n, to, vd, ds, mk, n', to', vd', hT, hF, hM, hX, hO, hK, hXk, hMk, hL⟩ := id I
  refine sp_isThere hX.1 hM.1 (bI_rb (fun z => ?_) (fun z => ?_))
  · have hn : 0 < n := of_decide_eq_true z
    refine sp_has hX.1 hM.1 (bI_br (fun hi => ?_) (fun hi => ?_))
    · exact sp_MrefS hO.2.1 (fun _ => sp_MisState hO.1 hn hM.1 (by rw [hi]; exact br_t rfl ⟨rfl, I⟩)) (fun z => by omega)
    · obtain ⟨s, hs, rfl⟩ := inN_of hi
      refine sp_isEvent (bI_rb (fun hj => ?_) (fun hj => ?_))
      · obtain ⟨e, he, rfl⟩ := inN_of hj
        refine sp_next rfl rfl hs hM.1 he ?_
        refine sp_MrefS hO.2.1 (fun _ => sp_MisState hO.1 hn hM.1 ?_) (fun z => by omega)
        rw [hi]
        refine br_f (by decide) (sp_in rfl rfl (by decide) ?_)
        rw [hj]
        have e1 : nI 4 * nI s + nI e = nI (4 * s + e) := by rw [pk_mul, nI_add]
        refine br_f (by decide) ⟨?_, ?_, I⟩
        · rw [e1]; exact vp_in_nI (by show _ < 240; have := hM.1; omega) (by decide)
        · rw [e1, nI_clamp (by have := hM.1; omega), ((hX.2 s hs).2.1 e he), ((hO.2.2 s hs).2.2 e he)]
      · refine sp_MrefS hO.2.1 (fun _ => sp_MisState hO.1 hn hM.1 ?_) (fun z => by omega)
        rw [hi]
        refine br_f (by decide) (sp_in rfl rfl (by decide) ?_)
        rw [hj]
        exact br_t rfl ⟨rfl, I⟩
  · have := of_decide_eq_false z
    exact sp_MrefS hO.2.1 (fun z => by omega) (fun _ => ⟨rfl, I⟩)
theorem op_verdict (a0 : Int32) : Both (wp_X8_verdict a0) (wp_X9_verdict a0) := by
  intro σ I
  obtain ⟨nb, tp, n, to, vd, ds, mk, n', to', vd', hT, hF, hM, hX, hO, hK, hXk, hMk, hL⟩ := id I
  refine sp_refS hX.1 hM.1 (fun h0 => br_f (by decide) ?_) (fun hn hi => br_f (by decide) ?_) (fun s hn hs e => br_t rfl ?_)
  · exact sp_MrefS hO.2.1 (fun z => by omega) (fun _ => ⟨rfl, I⟩)
  · exact sp_MrefS hO.2.1 (fun _ => sp_MisState hO.1 hn hM.1 (by rw [hi]; exact br_t rfl ⟨rfl, I⟩)) (fun z => by omega)
  · subst e
    refine sp_pick rfl (by show s < 60; have := hM.1; omega) ?_
    refine sp_MrefS hO.2.1 (fun _ => sp_MisState hO.1 hn hM.1 ?_) (fun z => by omega)
    rw [inN_nI (by have := hM.1; omega), decide_eq_true hs]
    refine br_f (by decide) ⟨vp_in_nI (by show s < 60; have := hM.1; omega) (by decide), ?_, I⟩
    rw [nI_clamp (by have := hM.1; omega), (hX.2 s hs).1, (hO.2.2 s hs).1]
