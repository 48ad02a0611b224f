/-! ===== count, keep ===== -/
theorem and2 {v : Nat} (hv : v < 4) : (nI v &&& nI 2 = nI 0) ↔ v < 2 := by
  rcases (by omega : v = 0 ∨ v = 1 ∨ v = 2 ∨ v = 3) with rfl | rfl | rfl | rfl <;> decide
theorem sp_isSureX {σ : Sg} {n s : Nat} {to : Nat → Nat → Nat} {vd : Nat → Nat} {ds : Nat → Nat → Option Nat} {Q : Int32 → Sg → Prop} (hM : PMa to vd n) (hX : PXa σ n to vd ds) (hs : s < n) (h : Q (bI (decide (2 ≤ vd s))) σ) : wp_X7_isSure (nI s) σ Q := by
  refine sp_verdictOfX hM hX hs ?_
  show ((nI (vd s) &&& nI 2) = nI 0 → _) ∧ (_ → _)
  rw [and2 (hM.2.1 s hs).1]
  refine ⟨fun z => ?_, fun z => ?_⟩
  · rw [decide_eq_false (by omega)] at h; exact h
  · rw [decide_eq_true (by omega)] at h; exact h
theorem op_count (a0 : Int32) : Both (wp_X8_count a0) (wp_X9_count a0) := by
  intro σ I
  obtain ⟨nb, tp, n, to, vd, ds, mk, n', to', vd', hT, hF, hM, hX, hO, hK, hXk, hMk, hL⟩ := id I
  have hn60 := hM.1
  unfold wp_X8_count wp_X9_count
  by_cases h0 : a0 = nI 0
  · subst h0
    refine br_t rfl (br_t rfl ⟨?_, I⟩)
    rw [hX.1, hO.1]
  refine br_f h0 ?_
  by_cases h1 : a0 = nI 1
  · subst h1
    refine br_t rfl ?_
    refine lq1 (fun f s (a : Nat) => wl_X7_sureStates_4 _ f (nI a) (nI s) σ) (fun s a => a = fb_ct (fun t => decide (2 ≤ vd t)) s) n ?_ ?_ 0 rfl
    · intro f a ha
      show wb_X7_sureStates_4 _ _ _ _ _
      unfold wb_X7_sureStates_4
      rw [hX.1]
      refine pk_le n n (fun _ => ?_) (fun z => by omega)
      refine br_f (by decide) (br_t rfl ?_)
      refine lq1 (fun f s (b : Nat) => wl_X9_count_43 _ f (nI b) (nI s) σ) (fun s b => b = fb_ct (fun t => decide (2 ≤ vd t)) s) n ?_ ?_ 0 rfl
      · intro f b hb
        show wb_X9_count_43 _ _ _ _ _
        unfold wb_X9_count_43
        rw [hO.1]
        exact pk_le n n (fun _ => ⟨by rw [ha, hb], I⟩) (fun z => by omega)
      · intro f s b hs hb hs2
        show wb_X9_count_43 _ _ _ _ _
        unfold wb_X9_count_43
        have hv := (hM.2.1 s hs).1
        rw [hO.1, nI_clamp (by omega), (hO.2.2 s hs).1]
        refine pk_le n s (fun z => by omega) (fun _ => ⟨vp_in_nI (by show s < 60; omega) (by decide), pk_le (vd s) 1 (fun z => ?_) (fun z => ?_)⟩)
        · intro x ex y ey
          rw [ex, ey, nI_add, nI_add]
          refine hs2 _ ?_
          rw [hb, fb_ct_succ, decide_eq_false (by omega)]; rfl
        · intro x ex y ey
          rw [ex, ey, nI_add, nI_add]
          refine hs2 _ ?_
          rw [hb, fb_ct_succ, decide_eq_true (by omega)]; rfl
    · intro f s a hs ha hs2
      show wb_X7_sureStates_4 _ _ _ _ _
      unfold wb_X7_sureStates_4
      rw [hX.1]
      refine pk_le n s (fun z => by omega) (fun _ => sp_isSureX hM hX hs (bI_br (fun z => ?_) (fun z => ?_)))
      · intro x ex y ey
        rw [ex, ey, nI_add, nI_add]
        refine hs2 _ ?_
        rw [ha, fb_ct_succ, z]; rfl
      · intro x ex y ey
        rw [ex, ey, nI_add, nI_add]
        refine hs2 _ ?_
        rw [ha, fb_ct_succ, z]; rfl
  refine br_f h1 ?_
  by_cases h2 : a0 = nI 2
  · subst h2
    have ref : ∀ P : Int32 → Sg → Prop, P (nI (fb_ct (fun k => decide (0 < n) && gone (mk k) vd n) 16)) σ → ∃ f, wl_X9_count_79 P f (nI 0) (nI 0) σ := by
      intro P hP
      refine lq1 (fun f s (b : Nat) => wl_X9_count_79 P f (nI b) (nI s) σ) (fun s b => b = fb_ct (fun k => decide (0 < n) && gone (mk k) vd n) s) 16 ?_ ?_ 0 rfl
      · intro f b hb
        show wb_X9_count_79 _ _ _ _ _
        exact pk_le 16 16 (fun _ => by rw [hb]; exact hP) (fun z => by omega)
      · intro f s b hs hb hs2
        show wb_X9_count_79 _ _ _ _ _
        unfold wb_X9_count_79
        rw [hO.2.1]
        have no : (decide (0 < n) && gone (mk s) vd n) = false → wp_X9_count_105 (nI s) (nI b) (wl_X9_count_79 P f) P σ := by
          intro z x ex y ey
          rw [ex, ey, nI_add, nI_add]
          refine hs2 _ ?_
          rw [hb, fb_ct_succ, z]; rfl
        refine pk_le 16 s (fun z => by omega) (fun _ => bI_br (fun z => no (by rw [z]; rfl)) (fun z => sp_isGone hM hO hs (hK s hs).2.2.2 (bI_br (fun y => no (by rw [y, Bool.and_false])) (fun y => ?_))))
        intro x ex y' ey
        rw [ex, ey, nI_add, nI_add]
        refine hs2 _ ?_
        rw [hb, fb_ct_succ, z, y]; rfl
    refine br_t rfl ?_
    refine sp_isThere hX.1 hM.1 (bI_br (fun z => ?_) (fun z => ?_))
    · refine br_f (by decide) (br_f (by decide) (br_t rfl (ref _ ⟨?_, I⟩)))
      have : fb_ct (fun k => decide (0 < n) && gone (mk k) vd n) 16 = 0 := fb_ct_zero.mpr (fun k _ => by rw [z]; rfl)
      rw [this]
    · refine lq1 (fun f s (b : Nat) => wl_X1_letGo_4 _ f (nI b) (nI s) σ) (fun s b => b = fb_ct (fun k => decide (0 < n) && gone (mk k) vd n) s) 16 ?_ ?_ 0 rfl
      · intro f b hb
        show wb_X1_letGo_4 _ _ _ _ _
        refine pk_le 16 16 (fun _ => ?_) (fun z => by omega)
        exact br_f (by decide) (br_f (by decide) (br_t rfl (ref _ ⟨by rw [hb], I⟩)))
      · intro f s b hs hb hs2
        show wb_X1_letGo_4 _ _ _ _ _
        refine pk_le 16 s (fun z => by omega) (fun _ => sp_letGo hM hX (hK s hs).1 (hK s hs).2.1 hs (bI_br (fun y => ?_) (fun y => ?_)))
        · intro x ex y' ey
          rw [ex, ey, nI_add, nI_add]
          refine hs2 _ ?_
          rw [hb, fb_ct_succ, z, y]; rfl
        · intro x ex y' ey
          rw [ex, ey, nI_add, nI_add]
          refine hs2 _ ?_
          rw [hb, fb_ct_succ, z, y]; rfl
  refine br_f h2 ?_
  by_cases h3 : a0 = nI 3
  · subst h3
    refine br_t rfl (br_f (by decide) (br_f (by decide) (br_f (by decide) (br_t rfl ⟨?_, I⟩))))
    rw [hT.2.1, hT.2.2.1]
  refine br_f h3 ?_
  by_cases h4 : a0 = nI 4
  · subst h4
    refine br_t rfl (sp_isTherek hXk.1 hXk.2.1 (bI_br (fun z => ?_) (fun z => ?_)))
    · refine br_f (by decide) (br_f (by decide) (br_f (by decide) (br_f (by decide) (br_t rfl ?_))))
      rw [hMk.1, z]
      exact br_t rfl ⟨rfl, I⟩
    · refine br_f (by decide) (br_f (by decide) (br_f (by decide) (br_f (by decide) (br_t rfl ?_))))
      rw [hMk.1, z]
      exact br_f (by decide) ⟨rfl, I⟩
  exact br_f h4 (br_f h0 (br_f h1 (br_f h2 (br_f h3 (br_f h4 ⟨rfl, I⟩)))))
theorem stC_at {σ : Sg} {a b N k : Nat} (hN : N < 2 ^ 31) (hk : k < N) : gA (stC σ a b (nI 0) (nI 0) (nI N)) b k = gA σ a k := by
  show (if b = b then va_cpy (gA σ a) (gA σ b) (nI 0).toNatClampNeg (nI 0).toNatClampNeg (nI N).toNatClampNeg else gA σ b) k = _
  rw [if_pos rfl, nI_clamp (by omega), nI_clamp hN]
  unfold va_cpy
  rw [if_pos ⟨Nat.zero_le k, by omega⟩]
  congr 1
  omega
theorem op_keep : Both wp_X8_keep wp_X9_keep := by
  intro σ I
  obtain ⟨nb, tp, n, to, vd, ds, mk, n', to', vd', hT, hF, hM, hX, hO, hK, hXk, hMk, hL⟩ := id I
  have hn60 := hM.1
  refine sp_isThere hX.1 hM.1 (bI_rb (fun z => ?_) (fun z => ?_))
  · have hn : 0 < n := of_decide_eq_true z
    intro σ1 e1 σ2 e2 σ3 e3
    have f3 : Fr [7] [39, 40] σ σ3 := by
      rw [e3, e2, e1]
      exact (((Fr.rf.stF (by simp)).stC (by simp)).stC (by simp))
    have h39 : ∀ k, k < 240 → gA σ3 39 k = gA σ 35 k := by
      intro k hk
      rw [e3, gA_stC_row (by decide), e2]
      exact (stC_at (by show 240 < _; decide) (by show k < 240; exact hk)).trans (by rw [e1]; rfl)
    have h40 : ∀ k, k < 60 → gA σ3 40 k = gA σ 36 k := by
      intro k hk
      rw [e3]
      refine (stC_at (by show 60 < _; decide) (by show k < 60; exact hk)).trans ?_
      rw [e2, gA_stC_row (by decide), e1]; rfl
    have h7 : gF σ3 7 4 = nI n := by
      rw [e3, gF_stC, e2, gF_stC, e1, gF_stF, if_pos rfl, if_pos rfl]
      exact hX.1
    clear e1 e2 e3
    have hO3 : PMo σ3 n to vd := hO.fr (f3.F (by decide)) (f3.A (by decide)) (f3.A (by decide)) (f3.A (by decide))
    refine sp_MrefS hO3.2.1 (fun _ => ?_) (fun z => by omega)
    intro σ4 e4 σ5 e5
    have f5 : Fr [7, 10] [39, 40] σ σ5 := by
      rw [e5, e4]
      exact ((f3.mono (by simp) (by simp)).stF (by simp)).stF (by simp)
    have g10 : ∀ k, k ≠ 51 → k ≠ 52 → gF σ5 10 k = gF σ 10 k := by
      intro k k1 k2
      rw [e5, gF_stF, if_pos rfl, if_neg k2, e4, gF_stF, if_pos rfl, if_neg k1, f3.F (by decide)]
    have g51 : gF σ5 10 51 = nI 1 := by
      rw [e5, gF_stF, if_pos rfl, if_neg (by decide), e4, gF_stF, if_pos rfl, if_pos rfl]
    have g7 : gF σ5 7 = gF σ3 7 := by rw [e5, gF_stF_row (by decide), e4, gF_stF_row (by decide)]
    have g39 : gA σ5 39 = gA σ3 39 := by rw [e5, e4]; rfl
    have g40 : gA σ5 40 = gA σ3 40 := by rw [e5, e4]; rfl
    clear e4 e5
    refine lq1 (fun f i (τ : Sg) => wl_X9_keep_25 (fun σ9 => wp_X9_keep_53 _ σ9) _ f (nI i) τ) (fun i τ => Fr [] [82] σ5 τ ∧ ∀ k, k < i → gA τ 82 k = gA σ 71 k) (4 * n) ?_ ?_ σ5 ⟨Fr.rf, fun k z => by omega⟩
    · intro f τ ⟨hf, hc⟩
      show wb_X9_keep_25 _ _ _ _ _
      unfold wb_X9_keep_25
      rw [hf.F (by decide), g10 39 (by decide) (by decide), hO.1, pk_mul]
      refine pk_le (4 * n) (4 * n) (fun _ => ?_) (fun z => by omega)
      show wp_X9_keep_53 _ _
      unfold wp_X9_keep_53
      refine lq1 (fun f i (ρ : Sg) => wl_X9_keep_55 (fun σ9 => wp_X9_keep_81 _ σ9) _ f (nI i) ρ) (fun i ρ => Fr [] [83] τ ρ ∧ ∀ k, k < i → gA ρ 83 k = gA σ 72 k) n ?_ ?_ τ ⟨Fr.rf, fun k z => by omega⟩
      · intro f ρ ⟨hf2, hc2⟩
        show wb_X9_keep_55 _ _ _ _ _
        unfold wb_X9_keep_55
        rw [hf2.F (by decide), hf.F (by decide), g10 39 (by decide) (by decide), hO.1]
        refine pk_le n n (fun _ => ?_) (fun z => by omega)
        have fA : Fr [7, 10] [39, 40, 82, 83] σ ρ := ((f5.mono (by simp) (by simp)).tr (hf.mono (by simp) (by simp))).tr (hf2.mono (by simp) (by simp))
        have q10 : ∀ k, k ≠ 51 → k ≠ 52 → gF ρ 10 k = gF σ 10 k := by
          intro k k1 k2
          rw [hf2.F (by decide), hf.F (by decide), g10 k k1 k2]
        have q51 : gF ρ 10 51 = nI 1 := by rw [hf2.F (by decide), hf.F (by decide), g51]
        have q7 : gF ρ 7 4 = nI n := by rw [hf2.F (by decide), hf.F (by decide), g7, h7]
        show _ ∧ Inv ρ
        refine ⟨?_, nb, tp, n, to, vd, ds, mk, n, to, vd, ?_, ?_, hM, ?_, ?_, ?_, ?_, ?_, ?_⟩
        · show gF σ3 7 4 = gF ρ 10 39
          rw [q10 39 (by decide) (by decide), hO.1, h7]
        · unfold PTa at hT ⊢
          rw [fA.F (by decide), q10 1 (by decide) (by decide), fA.A (by decide), fA.A (by decide)]
          exact hT
        · rw [fA.F (by decide), q10 2 (by decide) (by decide)]; exact hF
        · exact hX.fr (fA.F (by decide)) (fA.A (by decide)) (fA.A (by decide)) (fA.A (by decide)) (fA.L (by decide))
        · unfold PMo at hO ⊢
          rw [q10 39 (by decide) (by decide), q10 38 (by decide) (by decide), fA.A (by decide), fA.A (by decide), fA.A (by decide)]
          exact hO
        · exact hK.fr (fA.L (by decide)) (fA.A (by decide)) (fA.A (by decide)) (fA.A (by decide))
        · refine ⟨q7, hn60, fun s hs => ?_⟩
          rw [hf2.A (by decide), hf2.A (by decide), hf.A (by decide), hf.A (by decide), g39, g40, h40 s (by omega)]
          refine ⟨(hX.2 s hs).1, (hM.2.1 s hs).1, fun e he => ?_⟩
          rw [h39 _ (by omega)]
          exact ⟨(hX.2 s hs).2.1 e he, (hM.2.1 s hs).2 e he⟩
        · refine ⟨?_, fun s hs => ⟨?_, fun e he => ?_⟩⟩
          · rw [q51, decide_eq_true hn]; rfl
          · rw [hc2 s hs]
            exact (hO.2.2 s hs).2.1
          · rw [hf2.A (by decide), hc _ (by omega)]
            exact (hO.2.2 s hs).2.2 e he
        · exact hL.fr (fA.R (by decide))
      · intro f i ρ hi ⟨hf2, hc2⟩ hs2
        show wb_X9_keep_55 _ _ _ _ _
        unfold wb_X9_keep_55
        rw [hf2.F (by decide), hf.F (by decide), g10 39 (by decide) (by decide), hO.1]
        have a72 : gA ρ 72 = gA σ 72 := by rw [hf2.A (by decide), hf.A (by decide), f5.A (by decide)]
        refine pk_le n i (fun z => by omega) (fun _ => ⟨vp_in_nI (by show i < 60; omega) (by decide), vp_in_nI (by show i < 60; omega) (by decide), ?_⟩)
        intro ρ1 e1 x ex
        rw [nI_clamp (by omega), a72, (hO.2.2 i hi).2.1, nar_bI] at e1
        rw [ex, nI_add]
        refine hs2 _ ⟨by rw [e1]; exact hf2.stA (by simp), fun k hk => ?_⟩
        rw [e1, gA_stA, if_pos rfl]
        by_cases q : k = i
        · rw [if_pos q, q, (hO.2.2 i hi).2.1]
        · rw [if_neg q]; exact hc2 k (by omega)
    · intro f i τ hi ⟨hf, hc⟩ hs2
      show wb_X9_keep_25 _ _ _ _ _
      unfold wb_X9_keep_25
      rw [hf.F (by decide), g10 39 (by decide) (by decide), hO.1, pk_mul]
      have a71 : gA τ 71 = gA σ 71 := by rw [hf.A (by decide), f5.A (by decide)]
      refine pk_le (4 * n) i (fun z => by omega) (fun _ => ⟨vp_in_nI (by show i < 240; omega) (by decide), vp_in_nI (by show i < 240; omega) (by decide), ?_⟩)
      intro ρ1 e1 x ex
      rw [nI_clamp (by omega), a71] at e1
      rw [ex, nI_add]
      refine hs2 _ ⟨by rw [e1]; exact hf.stA (by simp), fun k hk => ?_⟩
      rw [e1, gA_stA, if_pos rfl]
      by_cases q : k = i
      · rw [if_pos q, q]
      · rw [if_neg q]; exact hc k (by omega)
  · have := of_decide_eq_false z
    exact sp_MrefS hO.2.1 (fun z => by omega) (fun _ => ⟨rfl, I⟩)
