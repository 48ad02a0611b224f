/-! ===== read: the pairs, the class's words ===== -/
def wrd (m q : Nat) : Nat := m / 2 ^ (64 * q) % 2 ^ 64
theorem wrd_lt (m q : Nat) : wrd m q < 2 ^ 64 := Nat.mod_lt _ (Nat.two_pow_pos 64)
theorem wrd_bit {m q t : Nat} (ht : t < 64) : (wrd m q).testBit t = m.testBit (64 * q + t) := by
  unfold wrd
  rw [Nat.testBit_mod_two_pow, decide_eq_true ht, Bool.true_and, Nat.testBit_div_two_pow, Nat.add_comm]
theorem wrd_at {m z : Nat} : (wrd m (z / 64)).testBit (z % 64) = m.testBit z := by
  rw [wrd_bit (Nat.mod_lt _ (by decide))]
  congr 1
  omega
theorem wrd_0 (q : Nat) : wrd 0 q = 0 := by
  unfold wrd
  rw [Nat.zero_div]
theorem wrd_or {m z q : Nat} : wrd (m ||| 2 ^ z) q = if q = z / 64 then wrd m q ||| 2 ^ (z % 64) else wrd m q := by
  apply Nat.eq_of_testBit_eq
  intro t
  by_cases ht : t < 64
  · rw [wrd_bit ht, Nat.testBit_or, Nat.testBit_two_pow]
    by_cases hq : q = z / 64
    · rw [if_pos hq, Nat.testBit_or, Nat.testBit_two_pow, wrd_bit ht]
      congr 1
      by_cases e : z = 64 * q + t
      · rw [decide_eq_true e, decide_eq_true (by omega)]
      · rw [decide_eq_false e, decide_eq_false (by omega)]
    · rw [if_neg hq, wrd_bit ht, decide_eq_false (by omega), Bool.or_false]
  · have h1 : (wrd (m ||| 2 ^ z) q).testBit t = false := Nat.testBit_lt_two_pow (Nat.lt_of_lt_of_le (wrd_lt _ _) (Nat.pow_le_pow_right (by decide) (by omega)))
    rw [h1]
    split
    · refine (Nat.testBit_lt_two_pow (Nat.lt_of_lt_of_le (Nat.or_lt_two_pow (wrd_lt m q) (Nat.pow_lt_pow_right (by decide) (Nat.mod_lt z (by decide : 0 < 64)))) (Nat.pow_le_pow_right (by decide) (by omega)))).symm
    · exact (Nat.testBit_lt_two_pow (Nat.lt_of_lt_of_le (wrd_lt m q) (Nat.pow_le_pow_right (by decide) (by omega)))).symm
/-- equal words, equal sets -/
theorem wrd_eq {a b D W : Nat} (ha : a < 2 ^ D) (hb : b < 2 ^ D) (hW : D ≤ 64 * W) (h : ∀ q, q < W → wrd a q = wrd b q) : a = b := by
  refine mask_eq ha hb (fun z hz => ?_)
  have := h (z / 64) (by omega)
  rw [← wrd_at (m := a), ← wrd_at (m := b), this]
def nwd (F : Nat) : Nat := if (2 ^ F + 63) / 64 < 4 then (2 ^ F + 63) / 64 else 4
theorem nwd_ok {F : Nat} (h : F ≤ 8) : 2 ^ F ≤ 64 * nwd F ∧ nwd F ≤ 4 := by
  have h1 := pw8 h
  unfold nwd
  split <;> omega
/-- the latest of a past -/
def lst (ps : Nat → Nat) (w : Nat) : Nat → Option Nat
  | 0 => none
  | i + 1 => if 1 ≤ i ∧ ps i = w then some i else lst ps w i
theorem lst_some {ps : Nat → Nat} {w i : Nat} : ∀ c, lst ps w c = some i → 1 ≤ i ∧ i < c ∧ ps i = w ∧ ∀ k, i < k → k < c → ¬ ps k = w
  | 0, h => by cases h
  | c + 1, h => by
    unfold lst at h
    by_cases q : 1 ≤ c ∧ ps c = w
    · rw [if_pos q] at h
      cases h
      exact ⟨q.1, Nat.lt_succ_self _, q.2, fun k a b => by omega⟩
    · rw [if_neg q] at h
      obtain ⟨a, b, d, e⟩ := lst_some c h
      refine ⟨a, by omega, d, fun k k1 k2 => ?_⟩
      by_cases r : k = c
      · subst r
        exact fun z => q ⟨by omega, z⟩
      · exact e k k1 (by omega)
theorem lst_none {ps : Nat → Nat} {w : Nat} : ∀ c, lst ps w c = none → ∀ k, 1 ≤ k → k < c → ¬ ps k = w
  | 0, _, k, _, h => by omega
  | c + 1, h, k, k1, k2 => by
    unfold lst at h
    by_cases q : 1 ≤ c ∧ ps c = w
    · rw [if_pos q] at h; cases h
    · rw [if_neg q] at h
      by_cases r : k = c
      · subst r
        exact fun z => q ⟨k1, z⟩
      · exact lst_none c h k k1 (by omega)
theorem lst_old {ps ps' : Nat → Nat} {w : Nat} : ∀ c, (∀ k, k < c → ps' k = ps k) → lst ps' w c = lst ps w c
  | 0, _ => rfl
  | c + 1, h => by
    unfold lst
    rw [h c (Nat.lt_succ_self _), lst_old c (fun k hk => h k (by omega))]
def kpq (x : Nat → NdT) (N : Nat) (s : PQt) (r : Nat) : Bool := if r = 0 then true else (s.2.2.1 r).testBit (aEm x N)
def mostq (P : Nat) : Nat := 1 + (if 60 * 2 ^ P < 1920 then 60 * 2 ^ P else 1920)
def RXq (σ0 σ : Sg) (x : Nat → NdT) (N : Nat) (s : PQt) : Prop :=
  Fr [4] [22, 23, 24, 25, 26, 27, 28] σ0 σ ∧ gF σ 4 8 = nI (nwd (fbc x N)) ∧ gF σ 4 9 = nI (mostq (pbc x N)) ∧ gF σ 4 10 = nI s.1 ∧ s.1 ≤ mostq (pbc x N) ∧ (∀ r, r < s.1 → gA σ 22 r = nI (s.2.1 r) ∧ gA σ 25 r = bI (kpq x N s r)) ∧ (∀ r, 1 ≤ r → r < s.1 → (∀ q, q < nwd (fbc x N) → gL σ 23 (r * 4 + q) = lN (wrd (s.2.2.1 r) q)) ∧ gA σ 27 r = oI (lst s.2.1 (s.2.1 r) r)) ∧ ∀ w, w < 2 ^ pbc x N → gA σ 26 w = oI (lst s.2.1 w s.1)
theorem mostq_le (P : Nat) : mostq P ≤ 1921 := by
  unfold mostq
  split <;> omega
/-- whether a future is in a set -/
theorem sp_isIn {σ0 σ : Sg} {x : Nat → NdT} {N r z : Nat} {s : PQt} {a b : Int32} {Q : Int32 → Sg → Prop} (hF8 : fbc x N ≤ 8) (hR : RXq σ0 σ x N s) (ha : a = nI r) (hb : b = nI z) (r1 : 1 ≤ r) (r2 : r < s.1) (hz : z < 2 ^ fbc x N) (h : Q (bI ((s.2.2.1 r).testBit z)) σ) : wp_X4_isIn a b σ Q := by
  subst ha hb
  obtain ⟨fr, h8, h9, h10, hm, h22, h23, h26⟩ := hR
  have hmo := mostq_le (pbc x N)
  have hD256 := pw8 hF8
  obtain ⟨n1, n2⟩ := nwd_ok hF8
  have hd : nI z / nI 64 = nI (z / 64) := pk_div (by omega) (by decide) (by decide)
  have hrem : iREM (nI z) (nI 64) = nI (z % 64) := pk_rem (by omega) (by decide) (by decide)
  have hq : z / 64 < nwd (fbc x N) := by omega
  refine sp_pickLong (k := r * 4 + z / 64) (by rw [hd, pk_mul, nI_add]) (by show _ < 7684; omega) ?_
  rw [(h23 r r1 r2).1 _ hq, hrem]
  refine sp_hasBit rfl (wrd_lt _ _) rfl (Nat.mod_lt z (by decide : 0 < 64)) ?_
  rw [wrd_at]
  exact ⟨bI_bl _, h⟩
