/-! ===== the law, all of it ===== -/
theorem law_in {L i : Nat} (hL : L ≤ 2048) (hi : i < 100000) (c : ¬ ((nI L) - (nI 4)) < nI i) : i + 4 ≤ L := by
  by_cases q : 4 ≤ L
  · rw [pk_sub q] at c
    rcases Nat.lt_or_ge (L - 4) i with r | r
    · exact absurd (nI_lt r (by omega)) c
    · omega
  · exfalso
    refine c ?_
    have all : ∀ L, L < 4 → (nI L - nI 4) < nI 0 := by decide
    have h1 := all L (by omega)
    rw [Int32.lt_iff_toInt_lt] at h1 ⊢
    have h0 : (nI 0).toInt = 0 := by decide
    rw [nI_toInt (by omega)]
    omega
theorem law_go (L : Nat) (xs : Nat → Int32) (hL : L ≤ 2048) : ∀ k i, L < i + 4 * k + 1 → i + 4 * k < 10000 → ∀ σ, Inv σ → wl_L_law_18 L xs (k + 1) (nI i) σ
  | 0, i, h1, h2, σ, I => by
    refine ⟨I, fun c => ?_⟩
    have := law_in hL (by omega) c
    omega
  | k + 1, i, h1, h2, σ, I => by
    refine ⟨I, fun c => ?_⟩
    have h4 := law_in hL (by omega) c
    refine ⟨vp_in_nI (by omega) (by omega), ?_, ?_, ?_, fun σ1 I1 => ?_⟩
    · rw [nI_add]; exact vp_in_nI (by omega) (by omega)
    · rw [nI_add]; exact vp_in_nI (by omega) (by omega)
    · rw [nI_add]; exact vp_in_nI (by omega) (by omega)
    · rw [nI_add]
      exact law_go L xs hL k (i + 4) (by omega) (by omega) σ1 I1
theorem law_pure (L : Nat) (xs : Nat → Int32) (hL : L ≤ 2048) : ∃ n, wl_L_law_18 L xs n (nI 0) σ0 :=
  ⟨600 + 1, law_go L xs hL 600 0 (by omega) (by omega) σ0 inv_0⟩
