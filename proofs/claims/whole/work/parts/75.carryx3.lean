/-! ===== read: the class's carry, its tables ===== -/
def XCa (σ : Sg) (x : Nat → NdT) (N : Nat) : Prop :=
  gF σ 3 3 = nI (fbc x N) ∧ gF σ 3 4 = nI (pbc x N) ∧ gF σ 3 5 = nI (aFm x N * 2 ^ fbc x N + aEm x N) ∧ ∀ was z e, was < 2 ^ pbc x N → z < 2 ^ fbc x N → e < 4 → gA σ 19 ((was * 2 ^ fbc x N + z) * 4 + e) = nI (lbm x N e was z * 2 ^ fbc x N + tlm x N e was z) ∧ gA σ 20 ((was * 2 ^ fbc x N + z) * 4 + e) = bI (rtm x N e was z)
theorem pw8 {a : Nat} (h : a ≤ 8) : 2 ^ a ≤ 256 := Nat.pow_le_pow_right (n := 2) (by decide) h
theorem wz_lt {F P was z : Nat} (hw : was < 2 ^ P) (hz : z < 2 ^ F) : was * 2 ^ F + z < 2 ^ (F + P) := by
  have h1 : (was + 1) * 2 ^ F ≤ 2 ^ P * 2 ^ F := Nat.mul_le_mul_right _ hw
  rw [Nat.add_mul, Nat.one_mul] at h1
  rw [Nat.pow_add, Nat.mul_comm (2 ^ F)]
  omega
theorem wz_dm {F was z : Nat} (hz : z < 2 ^ F) : (was * 2 ^ F + z) / 2 ^ F = was ∧ (was * 2 ^ F + z) % 2 ^ F = z := by
  constructor
  · rw [Nat.mul_comm, Nat.mul_add_div (Nat.two_pow_pos F), Nat.div_eq_of_lt hz, Nat.add_zero]
  · rw [Nat.mul_comm, Nat.mul_add_mod, Nat.mod_eq_of_lt hz]
theorem wz_of {F P b : Nat} (hb : b < 2 ^ (F + P)) : b / 2 ^ F < 2 ^ P ∧ b % 2 ^ F < 2 ^ F ∧ b = b / 2 ^ F * 2 ^ F + b % 2 ^ F := by
  refine ⟨?_, Nat.mod_lt _ (Nat.two_pow_pos F), ?_⟩
  · rw [Nat.div_lt_iff_lt_mul (Nat.two_pow_pos F), Nat.mul_comm, ← Nat.pow_add]; exact hb
  · have := Nat.div_add_mod b (2 ^ F)
    rw [Nat.mul_comm] at this
    exact this.symm
theorem min256 {n : Nat} (h : n ≤ 8) : (if (nI 1 <<< (nI n &&& 31)) < nI 256 then (nI 1 <<< (nI n &&& 31)) else nI 256) = nI (2 ^ n) := by
  have := pw8 h
  rw [nI1shl (by omega)]
  by_cases q : 2 ^ n < 256
  · rw [if_pos (nI_lt q (by decide))]
  · have e : 2 ^ n = 256 := by omega
    rw [e, if_neg (nI_nlt (Nat.le_refl _) (by decide))]
theorem sp_all {σ : Sg} {F P : Nat} {Q : Int32 → Sg → Prop} (h3 : gF σ 3 3 = nI F) (h4 : gF σ 3 4 = nI P) (h8 : F + P ≤ 8) (h : Q (nI (2 ^ (F + P))) σ) : wp_X0_all σ Q := by
  unfold wp_X0_all
  rw [h3, h4, nI_add, min256 h8]
  exact h
theorem sp_futures {σ : Sg} {F : Nat} {Q : Int32 → Sg → Prop} (h3 : gF σ 3 3 = nI F) (h8 : F ≤ 8) (h : Q (nI (2 ^ F)) σ) : wp_X0_futures σ Q := by
  unfold wp_X0_futures
  rw [h3, min256 h8]
  exact h
theorem sp_pasts {σ : Sg} {P : Nat} {Q : Int32 → Sg → Prop} (h4 : gF σ 3 4 = nI P) (h8 : P ≤ 8) (h : Q (nI (2 ^ P)) σ) : wp_X0_pasts σ Q := by
  unfold wp_X0_pasts
  rw [h4, min256 h8]
  exact h
theorem nIand_mask (n k : Nat) (hk : k ≤ 8) (hn : n < 2 ^ 31) : nI n &&& nI (2 ^ k - 1) = nI (n % 2 ^ k) := by
  refine pk_andN (by omega) k ?_
  have := pw8 hk
  show (BitVec.ofNat 32 (2 ^ k - 1)).toNat = _
  rw [BitVec.toNat_ofNat, Nat.mod_eq_of_lt (by omega)]
theorem sp_futureOf {σ : Sg} {F b : Nat} {x : Int32} {Q : Int32 → Sg → Prop} (hx : x = nI b) (h3 : gF σ 3 3 = nI F) (h8 : F ≤ 8) (hb : b < 2 ^ 31) (h : Q (nI (b % 2 ^ F)) σ) : wp_X0_futureOf x σ Q := by
  subst hx
  refine sp_futures h3 h8 ?_
  rw [pk_sub (Nat.two_pow_pos F), nIand_mask b F h8 hb]
  exact h
theorem sp_pastOf {σ : Sg} {F b : Nat} {x : Int32} {Q : Int32 → Sg → Prop} (hx : x = nI b) (h3 : gF σ 3 3 = nI F) (h8 : F ≤ 8) (hb : b < 2 ^ 31) (h : Q (nI (b / 2 ^ F)) σ) : wp_X0_pastOf x σ Q := by
  subst hx
  unfold wp_X0_pastOf
  rw [h3, nIshr (by omega) hb]
  exact h
theorem or_sum {F was z : Nat} (hz : z < 2 ^ F) : was * 2 ^ F ||| z = was * 2 ^ F + z := by
  apply Nat.eq_of_testBit_eq
  intro t
  rw [Nat.testBit_or, Nat.mul_comm, Nat.testBit_two_pow_mul_add _ hz, Nat.testBit_two_pow_mul]
  by_cases q : t < F
  · rw [if_pos q, decide_eq_false (by omega), Bool.false_and, Bool.false_or]
  · rw [if_neg q, decide_eq_true (by omega), Bool.true_and]
    have : z.testBit t = false := Nat.testBit_lt_two_pow (Nat.lt_of_lt_of_le hz (Nat.pow_le_pow_right (by decide) (by omega)))
    rw [this, Bool.or_false]
theorem sp_both2 {σ : Sg} {F P was z : Nat} {a b : Int32} {Q : Int32 → Sg → Prop} (ha : a = nI was) (hb : b = nI z) (h3 : gF σ 3 3 = nI F) (h8 : F + P ≤ 8) (hw : was < 2 ^ P) (hz : z < 2 ^ F) (h : Q (nI (was * 2 ^ F + z)) σ) : wp_X0_both a b σ Q := by
  subst ha hb
  unfold wp_X0_both
  have h1 := wz_lt hw hz
  have h2 := pw8 h8
  rw [h3, nIshl (by omega) (by omega), nIor, or_sum hz]
  exact h
theorem sp_carryTables {σ : Sg} {x : Nat → NdT} {N : Nat} {Q : Sg → Prop} (hR : Rok x N) (hX : XNd σ x N) (h : ∀ σ', Fr [2, 3] [17, 19, 20] σ σ' → XCa σ' x N → wp_X0_findPossible σ' Q) : wp_X0_make σ Q := by
  have hb8 := hR.2.2.2
  refine sp_giveBits hR hX (fun σ1 f1 hB => ?_)
  obtain ⟨b1, b2, b3, b4⟩ := id hB
  intro σ4 e4 σ7 e7
  have q33 : gF σ7 3 3 = nI (fbc x N) := by rw [e7, gF_stF, if_pos rfl, if_neg (by decide), e4, gF_stF, if_pos rfl, if_pos rfl]; exact b3
  have q34 : gF σ7 3 4 = nI (pbc x N) := by
    rw [e7, gF_stF, if_pos rfl, if_pos rfl, e4, gF_stF_row (by decide)]; exact b4
  have fr7 : Fr [2, 3] [17, 19, 20] σ σ7 := by rw [e7, e4]; exact ((f1.mono (by simp) (by simp)).stF (by simp)).stF (by simp)
  have hB7 : XBt σ7 x N := by
    have : gF σ7 2 = gF σ1 2 := by rw [e7, gF_stF_row (by decide), e4, gF_stF_row (by decide)]
    have hA : gA σ7 = gA σ1 := by rw [e7, e4]; rfl
    unfold XBt XNd at hB ⊢
    rw [this, hA]; exact hB
  clear e4 e7
  refine sp_noPlace hR hB7 ?_
  intro σ10 e10
  have p33 : gF σ10 3 3 = nI (fbc x N) := by rw [e10, gF_stF, if_pos rfl, if_neg (by decide)]; exact q33
  have p34 : gF σ10 3 4 = nI (pbc x N) := by rw [e10, gF_stF, if_pos rfl, if_neg (by decide)]; exact q34
  have p35 : gF σ10 3 5 = nI (aFm x N * 2 ^ fbc x N + aEm x N) := by rw [e10, gF_stF, if_pos rfl, if_pos rfl]
  have fr10 : Fr [2, 3] [17, 19, 20] σ σ10 := by rw [e10]; exact fr7.stF (by simp)
  have hB10 : XBt σ10 x N := by
    have : gF σ10 2 = gF σ7 2 := by rw [e10, gF_stF_row (by decide)]
    have hA : gA σ10 = gA σ7 := by rw [e10]; rfl
    unfold XBt XNd at hB7 ⊢
    rw [this, hA]; exact hB7
  clear e10
  have h256 := pw8 hb8
  have hBf : ∀ τ, Fr [] [19, 20] σ10 τ → XBt τ x N := by
    intro τ fr
    unfold XBt XNd at hB10 ⊢
    rw [fr.F (by decide), fr.A (by decide), fr.A (by decide), fr.A (by decide), fr.A (by decide)]
    exact hB10
  -- one cell
  refine lq1 (fun g b (τ : Sg) => wl_X0_make_30 (fun σ9 => wp_X0_make_101 Q σ9) Q g (nI b) τ) (fun b τ => Fr [] [19, 20] σ10 τ ∧ ∀ b' e, b' < b → e < 4 → gA τ 19 (b' * 4 + e) = nI (lbm x N e (b' / 2 ^ fbc x N) (b' % 2 ^ fbc x N) * 2 ^ fbc x N + tlm x N e (b' / 2 ^ fbc x N) (b' % 2 ^ fbc x N)) ∧ gA τ 20 (b' * 4 + e) = bI (rtm x N e (b' / 2 ^ fbc x N) (b' % 2 ^ fbc x N))) (2 ^ (fbc x N + pbc x N)) ?_ ?_ σ10 ⟨Fr.rf, fun b' e hb => by omega⟩
  · intro g τ ⟨fr, hc⟩
    show wb_X0_make_30 _ _ _ _ _
    unfold wb_X0_make_30
    refine sp_all (by rw [fr.F (by decide)]; exact p33) (by rw [fr.F (by decide)]; exact p34) hb8 ?_
    refine pk_le (2 ^ (fbc x N + pbc x N)) (2 ^ (fbc x N + pbc x N)) (fun _ => ?_) (fun z => by omega)
    show wp_X0_make_101 _ _
    unfold wp_X0_make_101
    refine h τ (fr10.tr (fr.mono (by simp) (by simp))) ⟨by rw [fr.F (by decide)]; exact p33, by rw [fr.F (by decide)]; exact p34, by rw [fr.F (by decide)]; exact p35, fun was z e hw hz he => ?_⟩
    have h1 := hc (was * 2 ^ fbc x N + z) e (wz_lt hw hz) he
    rw [(wz_dm hz).1, (wz_dm hz).2] at h1
    exact h1
  · intro g b τ hb ⟨fr, hc⟩ hs2
    show wb_X0_make_30 _ _ _ _ _
    unfold wb_X0_make_30
    refine sp_all (by rw [fr.F (by decide)]; exact p33) (by rw [fr.F (by decide)]; exact p34) hb8 ?_
    refine pk_le (2 ^ (fbc x N + pbc x N)) b (fun z => by omega) (fun _ => ?_)
    obtain ⟨w1, w2, w3⟩ := wz_of hb
    refine lq1 (fun g e (ρ : Sg) => wl_X0_make_40 (nI b) (fun σ9 => wp_X0_make_95 (nI b) _ Q σ9) Q g (nI e) ρ) (fun e ρ => Fr [] [19, 20] σ10 ρ ∧ ∀ b' e', (b' < b ∧ e' < 4) ∨ (b' = b ∧ e' < e) → gA ρ 19 (b' * 4 + e') = nI (lbm x N e' (b' / 2 ^ fbc x N) (b' % 2 ^ fbc x N) * 2 ^ fbc x N + tlm x N e' (b' / 2 ^ fbc x N) (b' % 2 ^ fbc x N)) ∧ gA ρ 20 (b' * 4 + e') = bI (rtm x N e' (b' / 2 ^ fbc x N) (b' % 2 ^ fbc x N))) 4 ?_ ?_ τ ⟨fr, fun b' e' hh => hh.elim (fun q => hc b' e' q.1 q.2) (fun q => by omega)⟩
    · intro g ρ ⟨fr2, hc2⟩
      show wb_X0_make_40 _ _ _ _ _ _
      refine pk_le 4 4 (fun _ => ?_) (fun z => by omega)
      intro y ey
      rw [ey, nI_add]
      refine hs2 ρ ⟨fr2, fun b' e' h1 h2 => hc2 b' e' ?_⟩
      by_cases q : b' = b
      · exact Or.inr ⟨q, h2⟩
      · exact Or.inl ⟨by omega, h2⟩
    · intro g e ρ he ⟨fr2, hc2⟩ hs3
      show wb_X0_make_40 _ _ _ _ _ _
      refine pk_le 4 e (fun z => by omega) (fun _ => ?_)
      refine sp_valuesAt (was := b / 2 ^ fbc x N) (z := b % 2 ^ fbc x N) hR (hBf ρ fr2) he w1 w2 rfl (by rw [← w3]) ?_
      refine sp_bitsBeside hR (hBf ρ fr2) rfl ?_
      refine sp_put (k := b * 4 + e) (by rw [pk_mul, nI_add]) (by show _ < 1024; omega) ?_
      have fr3 := fr2.stA (k := b * 4 + e) (v := nI (lbm x N e (b / 2 ^ fbc x N) (b % 2 ^ fbc x N) * 2 ^ fbc x N + tlm x N e (b / 2 ^ fbc x N) (b % 2 ^ fbc x N))) (by simp : 19 ∈ [19, 20])
      refine sp_wholeHolds hR (hBf _ fr3).1.1 rfl ?_
      refine sp_set (k := b * 4 + e) (b := rtm x N e (b / 2 ^ fbc x N) (b % 2 ^ fbc x N)) (by rw [pk_mul, nI_add]) (by show _ < 1024; omega) rfl ?_
      intro y ey
      rw [ey, nI_add]
      refine hs3 _ ⟨fr3.stA (by simp), fun b' e' hh => ?_⟩
      rw [gA_stA_row (by decide), gA_stA, if_pos rfl, gA_stA, if_pos rfl, gA_stA_row (by decide)]
      by_cases q : b' = b ∧ e' = e
      · rw [q.1, q.2, if_pos rfl, if_pos rfl]
        exact ⟨rfl, rfl⟩
      · rw [if_neg (by omega), if_neg (by omega)]
        refine hc2 b' e' ?_
        rcases hh with hh | hh
        · exact Or.inl hh
        · exact Or.inr ⟨hh.1, by omega⟩
