/-! ===== read: the pairs, the class's make ===== -/
def LdX (σ : Sg) (s : PQt) (j : Nat) : Prop := ∀ j', j' < j → gA σ 24 j' = nI (s.2.2.2 j')
theorem sp_Xbegin {σ : Sg} {x : Nat → NdT} {N : Nat} {Q : Sg → Prop} (hR : Rok x N) (hC : XPo σ x N) (h : ∀ σ', RXq σ σ' x N (pseq x N 0) → Q σ') : wp_X4_begin σ Q := by
  obtain ⟨r0, r9, rk, rb⟩ := id hR
  have hF8 : fbc x N ≤ 8 := by omega
  have hP8 : pbc x N ≤ 8 := by omega
  have hP256 := pw8 hP8
  have hD256 := pw8 hF8
  have h256 := pw8 rb
  unfold wp_X4_begin
  refine sp_futures hC.1.1 hF8 ?_
  intro σ3 e3
  have ew : (if ((nI (2 ^ fbc x N) + (nI 63)) / (nI 64)) < (nI 4) then ((nI (2 ^ fbc x N) + (nI 63)) / (nI 64)) else (nI 4)) = nI (nwd (fbc x N)) := by
    have hd : nI (2 ^ fbc x N + 63) / nI 64 = nI ((2 ^ fbc x N + 63) / 64) := pk_div (by omega) (by decide) (by decide)
    rw [nI_add, hd]
    unfold nwd
    by_cases q : (2 ^ fbc x N + 63) / 64 < 4
    · rw [if_pos (nI_lt q (by decide)), if_pos q]
    · rw [if_neg (nI_nlt (by omega) (by omega)), if_neg q]
  rw [ew] at e3
  refine sp_pasts (P := pbc x N) (by rw [e3, gF_stF_row (by decide)]; exact hC.1.2.1) hP8 ?_
  intro σ6 e6
  have em : ((nI 1) + (if ((nI 60) * nI (2 ^ pbc x N)) < (nI 1920) then ((nI 60) * nI (2 ^ pbc x N)) else (nI 1920))) = nI (mostq (pbc x N)) := by
    rw [pk_mul]
    unfold mostq
    by_cases q : 60 * 2 ^ pbc x N < 1920
    · rw [if_pos (nI_lt q (by decide)), if_pos q, nI_add]
    · rw [if_neg (nI_nlt (by omega) (by omega)), if_neg q, nI_add]
  rw [em] at e6
  have f6 : Fr [4] [22, 23, 24, 25, 26, 27, 28] σ σ6 := by rw [e6, e3]; exact (Fr.rf.stF (by simp)).stF (by simp)
  have g6 : gF σ6 4 8 = nI (nwd (fbc x N)) := by rw [e6, gF_stF, if_pos rfl, if_neg (by decide), e3, gF_stF, if_pos rfl, if_pos rfl]
  have g69 : gF σ6 4 9 = nI (mostq (pbc x N)) := by rw [e6, gF_stF, if_pos rfl, if_pos rfl]
  clear e3 e6
  refine lq1 (fun g v (τ : Sg) => wl_X4_begin_39 (fun σ9 => wp_X4_begin_63 Q σ9) Q g (nI v) τ) (fun v τ => Fr [] [26] σ6 τ ∧ ∀ i, i < v → gA τ 26 i = -9) (2 ^ pbc x N) ?_ ?_ σ6 ⟨Fr.rf, fun i hi => by omega⟩
  · intro g τ ⟨t0, t1⟩
    show wb_X4_begin_39 _ _ _ _ _
    unfold wb_X4_begin_39
    have frτ := f6.tr (t0.mono (by simp) (by simp) : Fr [4] [22, 23, 24, 25, 26, 27, 28] σ6 τ)
    refine sp_pasts (P := pbc x N) (by rw [frτ.F (by decide)]; exact hC.1.2.1) hP8 ?_
    refine pk_le (2 ^ pbc x N) (2 ^ pbc x N) (fun _ => ?_) (fun z => by omega)
    show wp_X4_begin_63 _ _
    intro σ1 e1
    have f1 : Fr [4] [22, 23, 24, 25, 26, 27, 28] σ σ1 := by rw [e1]; exact frτ.stF (by simp)
    have hnp := wz_lt (aFm_lt x N) (aEm_lt x N)
    unfold wp_X0_noPlace
    refine sp_pastOf (b := aFm x N * 2 ^ fbc x N + aEm x N) (by rw [f1.F (by decide)]; exact hC.1.2.2.1) (by rw [f1.F (by decide)]; exact hC.1.1) hF8 (by omega) ?_
    rw [(wz_dm (aEm_lt x N)).1]
    refine sp_put (k := 0) rfl (by decide) ?_
    refine sp_set (k := 0) (b := true) rfl (by decide) rfl ?_
    refine h _ ⟨(f1.stA (by simp)).stA (by simp), ?_, ?_, ?_, ?_, fun r hr => ?_, fun r r1 hr => ?_, fun w hw => ?_⟩
    · show gF σ1 4 8 = _
      rw [e1, gF_stF, if_pos rfl, if_neg (by decide), t0.F (by decide)]; exact g6
    · show gF σ1 4 9 = _
      rw [e1, gF_stF, if_pos rfl, if_neg (by decide), t0.F (by decide)]; exact g69
    · show gF σ1 4 10 = _
      rw [e1, gF_stF, if_pos rfl, if_pos rfl]; rfl
    · show 1 ≤ mostq (pbc x N)
      unfold mostq; omega
    · have h1 : r < 1 := hr
      have : r = 0 := by omega
      subst this
      refine ⟨?_, ?_⟩
      · rw [gA_stA_row (by decide), gA_stA, if_pos rfl, if_pos rfl]; rfl
      · rw [gA_stA, if_pos rfl, if_pos rfl]; rfl
    · have h1 : r < 1 := hr
      omega
    · rw [gA_stA_row (by decide), gA_stA_row (by decide), e1]
      show gA τ 26 w = _
      rw [t1 w hw]; rfl
  · intro g v τ hv ⟨t0, t1⟩ hs2
    show wb_X4_begin_39 _ _ _ _ _
    unfold wb_X4_begin_39
    have frτ := f6.tr (t0.mono (by simp) (by simp) : Fr [4] [22, 23, 24, 25, 26, 27, 28] σ6 τ)
    refine sp_pasts (P := pbc x N) (by rw [frτ.F (by decide)]; exact hC.1.2.1) hP8 ?_
    refine pk_le (2 ^ pbc x N) v (fun z => by omega) (fun _ => ?_)
    refine sp_put (k := v) rfl (by show v < 256; omega) ?_
    intro y ey
    rw [ey, nI_add]
    refine hs2 _ ⟨t0.stA (by simp), fun i hi => ?_⟩
    rw [gA_stA, if_pos rfl]
    by_cases q : i = v
    · rw [if_pos q]
    · rw [if_neg q]; exact t1 i (by omega)
