/-! ===== read: the pairs (plain) ===== -/
noncomputable def cnb (x : Nat → NdT) (N w z : Nat) : Bool := @decide (Cn x N w z) (Classical.propDecidable _)
theorem cnb_iff {x : Nat → NdT} {N w z : Nat} : cnb x N w z = true ↔ Cn x N w z := by
  unfold cnb
  exact @decide_eq_true_iff _ (Classical.propDecidable _)
/-- how many, their pasts, their sets, where each step leads -/
abbrev PQt := Nat × (Nat → Nat) × (Nat → Nat) × (Nat → Nat)
def nxw (x : Nat → NdT) (N : Nat) (s : PQt) (r e : Nat) : Nat := lbm x N e (s.2.1 r) 0
noncomputable def nxs (x : Nat → NdT) (N : Nat) (s : PQt) (r e : Nat) : Nat := bc (fun z => cnb x N (nxw x N s r e) z && (if r = 0 then rtm x N e (s.2.1 r) z else (s.2.2.1 r).testBit (tlm x N e (s.2.1 r) z))) id (2 ^ fbc x N)
def fnd (ps st : Nat → Nat) (w S : Nat) : Nat → Option Nat
  | 0 => none
  | i + 1 => if 1 ≤ i ∧ ps i = w ∧ st i = S then some i else fnd ps st w S i
theorem fnd_some {ps st : Nat → Nat} {w S i : Nat} : ∀ c, fnd ps st w S c = some i → 1 ≤ i ∧ i < c ∧ ps i = w ∧ st i = S
  | 0, h => by cases h
  | c + 1, h => by
    unfold fnd at h
    by_cases q : 1 ≤ c ∧ ps c = w ∧ st c = S
    · rw [if_pos q] at h
      cases h
      exact ⟨q.1, Nat.lt_succ_self _, q.2.1, q.2.2⟩
    · rw [if_neg q] at h
      obtain ⟨a, b, d⟩ := fnd_some c h
      exact ⟨a, by omega, d⟩
theorem fnd_none {ps st : Nat → Nat} {w S : Nat} : ∀ c, fnd ps st w S c = none → ∀ i, 1 ≤ i → i < c → ¬ (ps i = w ∧ st i = S)
  | 0, _, i, _, h => by omega
  | c + 1, h, i, h1, h2 => by
    unfold fnd at h
    by_cases q : 1 ≤ c ∧ ps c = w ∧ st c = S
    · rw [if_pos q] at h; cases h
    · rw [if_neg q] at h
      by_cases r : i = c
      · subst r
        exact fun z => q ⟨h1, z.1, z.2⟩
      · exact fnd_none c h i h1 (by omega)
noncomputable def pst (x : Nat → NdT) (N j : Nat) (s : PQt) : PQt :=
  match fnd s.2.1 s.2.2.1 (nxw x N s (j / 4) (j % 4)) (nxs x N s (j / 4) (j % 4)) s.1 with
  | some i => (s.1, s.2.1, s.2.2.1, fun k => if k = j then i else s.2.2.2 k)
  | none => (s.1 + 1, (fun k => if k = s.1 then nxw x N s (j / 4) (j % 4) else s.2.1 k), (fun k => if k = s.1 then nxs x N s (j / 4) (j % 4) else s.2.2.1 k), fun k => if k = j then s.1 else s.2.2.2 k)
noncomputable def pseq (x : Nat → NdT) (N : Nat) : Nat → PQt
  | 0 => (1, (fun _ => aFm x N), (fun _ => 0), (fun _ => 0))
  | j + 1 => pst x N j (pseq x N j)
def PWq (x : Nat → NdT) (N j : Nat) (s : PQt) : Prop :=
  1 ≤ s.1 ∧ s.2.1 0 = aFm x N ∧ (∀ i, i < s.1 → s.2.1 i < 2 ^ pbc x N) ∧ (∀ i, 1 ≤ i → i < s.1 → s.2.2.1 i < 2 ^ 2 ^ fbc x N ∧ ∀ z, (s.2.2.1 i).testBit z = true → z < 2 ^ fbc x N ∧ Cn x N (s.2.1 i) z) ∧ (∀ i k, 1 ≤ i → i < k → k < s.1 → ¬ (s.2.1 i = s.2.1 k ∧ s.2.2.1 i = s.2.2.1 k)) ∧ ∀ j', j' < j → 1 ≤ s.2.2.2 j' ∧ s.2.2.2 j' < s.1 ∧ s.2.1 (s.2.2.2 j') = nxw x N s (j' / 4) (j' % 4) ∧ s.2.2.1 (s.2.2.2 j') = nxs x N s (j' / 4) (j' % 4)
theorem nxs_lt (x : Nat → NdT) (N : Nat) (s : PQt) (r e : Nat) : nxs x N s r e < 2 ^ 2 ^ fbc x N := bc_lt _ (fun i hi _ => hi)
theorem nxs_bit {x : Nat → NdT} {N : Nat} {s : PQt} {r e z : Nat} : (nxs x N s r e).testBit z = true ↔ z < 2 ^ fbc x N ∧ Cn x N (nxw x N s r e) z ∧ (if r = 0 then rtm x N e (s.2.1 r) z else (s.2.2.1 r).testBit (tlm x N e (s.2.1 r) z)) = true := by
  unfold nxs
  rw [bc_bit]
  constructor
  · rintro ⟨i, h1, h2, h3⟩
    have : i = z := h3
    subst this
    rw [Bool.and_eq_true, cnb_iff] at h2
    exact ⟨h1, h2.1, h2.2⟩
  · rintro ⟨h1, h2, h3⟩
    exact ⟨z, h1, by rw [Bool.and_eq_true, cnb_iff]; exact ⟨h2, h3⟩, rfl⟩
/-- what a step leaves as it was -/
theorem pst_old {x : Nat → NdT} {N j : Nat} {s : PQt} : s.1 ≤ (pst x N j s).1 ∧ (pst x N j s).1 ≤ s.1 + 1 ∧ (∀ i, i < s.1 → (pst x N j s).2.1 i = s.2.1 i ∧ (pst x N j s).2.2.1 i = s.2.2.1 i) ∧ ∀ k, k ≠ j → (pst x N j s).2.2.2 k = s.2.2.2 k := by
  unfold pst
  cases fnd s.2.1 s.2.2.1 (nxw x N s (j / 4) (j % 4)) (nxs x N s (j / 4) (j % 4)) s.1 with
  | some i =>
    refine ⟨Nat.le_refl _, Nat.le_succ _, fun i _ => ⟨rfl, rfl⟩, fun k hk => ?_⟩
    simp only [if_neg hk]
  | none =>
    refine ⟨Nat.le_succ _, Nat.le_refl _, fun i hi => ?_, fun k hk => ?_⟩
    · simp only [if_neg (show ¬ i = s.1 by omega)]
      exact ⟨trivial, trivial⟩
    · simp only [if_neg hk]
theorem nxw_old {x : Nat → NdT} {N r e : Nat} {s s' : PQt} (h : s'.2.1 r = s.2.1 r) : nxw x N s' r e = nxw x N s r e := by
  unfold nxw; rw [h]
theorem nxs_old {x : Nat → NdT} {N r e : Nat} {s s' : PQt} (h : s'.2.1 r = s.2.1 r) (h2 : s'.2.2.1 r = s.2.2.1 r) : nxs x N s' r e = nxs x N s r e := by
  unfold nxs; rw [nxw_old h, h, h2]
theorem pst_ok {x : Nat → NdT} {N j : Nat} {s : PQt} (h : PWq x N j s) (hj : j / 4 < s.1) : PWq x N (j + 1) (pst x N j s) := by
  obtain ⟨h1, h0, h2, h3, h4, h5⟩ := h
  obtain ⟨o1, o2, o3, o4⟩ := pst_old (x := x) (N := N) (j := j) (s := s)
  have old5 : ∀ j', j' < j → 1 ≤ (pst x N j s).2.2.2 j' ∧ (pst x N j s).2.2.2 j' < (pst x N j s).1 ∧ (pst x N j s).2.1 ((pst x N j s).2.2.2 j') = nxw x N (pst x N j s) (j' / 4) (j' % 4) ∧ (pst x N j s).2.2.1 ((pst x N j s).2.2.2 j') = nxs x N (pst x N j s) (j' / 4) (j' % 4) := by
    intro j' hj'
    obtain ⟨a, b, c, d⟩ := h5 j' hj'
    rw [o4 j' (by omega)]
    have hr : j' / 4 < s.1 := by omega
    obtain ⟨p1, p2⟩ := o3 _ b
    obtain ⟨p3, p4⟩ := o3 _ hr
    refine ⟨a, by omega, ?_, ?_⟩
    · rw [p1, c, nxw_old p3]
    · rw [p2, d, nxs_old p3 p4]
  have new : ∀ l, (pst x N j s).2.2.2 j = l → 1 ≤ l → l < (pst x N j s).1 → (pst x N j s).2.1 l = nxw x N s (j / 4) (j % 4) → (pst x N j s).2.2.1 l = nxs x N s (j / 4) (j % 4) → 1 ≤ (pst x N j s).2.2.2 j ∧ (pst x N j s).2.2.2 j < (pst x N j s).1 ∧ (pst x N j s).2.1 ((pst x N j s).2.2.2 j) = nxw x N (pst x N j s) (j / 4) (j % 4) ∧ (pst x N j s).2.2.1 ((pst x N j s).2.2.2 j) = nxs x N (pst x N j s) (j / 4) (j % 4) := by
    intro l hl a b c d
    obtain ⟨p3, p4⟩ := o3 _ hj
    rw [hl]
    exact ⟨a, b, by rw [c, nxw_old p3], by rw [d, nxs_old p3 p4]⟩
  cases q : fnd s.2.1 s.2.2.1 (nxw x N s (j / 4) (j % 4)) (nxs x N s (j / 4) (j % 4)) s.1 with
  | some i =>
    obtain ⟨f1, f2, f3, f4⟩ := fnd_some s.1 q
    have e : pst x N j s = (s.1, s.2.1, s.2.2.1, fun k => if k = j then i else s.2.2.2 k) := by unfold pst; rw [q]
    refine ⟨by rw [e]; exact h1, by rw [e]; exact h0, by rw [e]; exact h2, by rw [e]; exact h3, by rw [e]; exact h4, fun j' hj' => ?_⟩
    by_cases r : j' = j
    · subst r
      refine new i (by rw [e]; simp only [if_true]) f1 (by rw [e]; exact f2) (by rw [e]; exact f3) (by rw [e]; exact f4)
    · exact old5 j' (by omega)
  | none =>
    have hn := fnd_none s.1 q
    have e : pst x N j s = (s.1 + 1, (fun k => if k = s.1 then nxw x N s (j / 4) (j % 4) else s.2.1 k), (fun k => if k = s.1 then nxs x N s (j / 4) (j % 4) else s.2.2.1 k), fun k => if k = j then s.1 else s.2.2.2 k) := by unfold pst; rw [q]
    have e1 : (pst x N j s).1 = s.1 + 1 := by rw [e]
    have ew : (pst x N j s).2.1 s.1 = nxw x N s (j / 4) (j % 4) := by rw [e]; simp only [if_true]
    have es : (pst x N j s).2.2.1 s.1 = nxs x N s (j / 4) (j % 4) := by rw [e]; simp only [if_true]
    refine ⟨by omega, ?_, fun i hi => ?_, fun i hi1 hi => ?_, fun i k hi hik hk => ?_, fun j' hj' => ?_⟩
    · rw [(o3 0 (by omega)).1]; exact h0
    · by_cases r : i = s.1
      · rw [r, ew]; exact lbm_lt x N _ _ _
      · rw [(o3 i (by omega)).1]; exact h2 i (by omega)
    · by_cases r : i = s.1
      · rw [r, es, ew]
        exact ⟨nxs_lt x N s _ _, fun z hz => ⟨(nxs_bit.mp hz).1, (nxs_bit.mp hz).2.1⟩⟩
      · rw [(o3 i (by omega)).1, (o3 i (by omega)).2]
        exact h3 i hi1 (by omega)
    · by_cases r : k = s.1
      · rw [r, ew, es, (o3 i (by omega)).1, (o3 i (by omega)).2]
        exact hn i hi (by omega)
      · rw [(o3 i (by omega)).1, (o3 i (by omega)).2, (o3 k (by omega)).1, (o3 k (by omega)).2]
        exact h4 i k hi hik (by omega)
    · by_cases r : j' = j
      · subst r
        exact new s.1 (by rw [e]; simp only [if_true]) h1 (by omega) ew es
      · exact old5 j' (by omega)
theorem pwq_0 (x : Nat → NdT) (N : Nat) : PWq x N 0 (pseq x N 0) := by
  refine ⟨Nat.le_refl 1, rfl, fun i hi => aFm_lt x N, fun i h1 h2 => ?_, fun i k h1 h2 h3 => ?_, fun j' h => by omega⟩
  · have : i < 1 := h2
    omega
  · have : k < 1 := h3
    omega
/-- few enough -/
theorem pwq_len {x : Nat → NdT} {N j : Nat} {s : PQt} (h : PWq x N j s) : s.1 - 1 ≤ 2 ^ pbc x N * 2 ^ 2 ^ fbc x N := by
  obtain ⟨h1, h0, h2, h3, h4, h5⟩ := h
  refine fb_holes (2 ^ pbc x N * 2 ^ 2 ^ fbc x N) (s.1 - 1) (fun i => s.2.1 (i + 1) * 2 ^ 2 ^ fbc x N + s.2.2.1 (i + 1)) (fun i hi => ?_) (fun i k hik hk => ?_)
  · have a := h2 (i + 1) (by omega)
    have b := (h3 (i + 1) (by omega) (by omega)).1
    have c : (s.2.1 (i + 1) + 1) * 2 ^ 2 ^ fbc x N ≤ 2 ^ pbc x N * 2 ^ 2 ^ fbc x N := Nat.mul_le_mul_right _ a
    rw [Nat.add_mul, Nat.one_mul] at c
    omega
  · intro e
    have b1 := (h3 (i + 1) (by omega) (by omega)).1
    have b2 := (h3 (k + 1) (by omega) (by omega)).1
    have e' : s.2.1 (i + 1) * 2 ^ 2 ^ fbc x N + s.2.2.1 (i + 1) = s.2.1 (k + 1) * 2 ^ 2 ^ fbc x N + s.2.2.1 (k + 1) := e
    have d1 := wz_dm (was := s.2.1 (i + 1)) b1
    have d2 := wz_dm (was := s.2.1 (k + 1)) b2
    rw [e'] at d1
    exact h4 (i + 1) (k + 1) (by omega) (by omega) (by omega) ⟨d1.1.symm.trans d2.1, d1.2.symm.trans d2.2⟩
