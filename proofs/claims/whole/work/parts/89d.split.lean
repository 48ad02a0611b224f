/-! ===== read: one parting of the pairs (plain) ===== -/
def ffst (p : Nat → Bool) : Nat → Option Nat
  | 0 => none
  | n + 1 => match ffst p n with
    | some k => some k
    | none => if p n = true then some n else none
theorem ffst_succ (p : Nat → Bool) (n : Nat) : ffst p (n + 1) = match ffst p n with
    | some k => some k
    | none => if p n = true then some n else none := rfl
theorem ffst_some {p : Nat → Bool} {k : Nat} : ∀ n, ffst p n = some k → k < n ∧ p k = true
  | 0, h => by cases h
  | n + 1, h => by
    rw [ffst_succ] at h
    cases q : ffst p n with
    | some i =>
      rw [q] at h
      cases h
      have := ffst_some n q
      exact ⟨by omega, this.2⟩
    | none =>
      rw [q] at h
      simp only at h
      by_cases r : p n = true
      · rw [if_pos r] at h
        cases h
        exact ⟨Nat.lt_succ_self _, r⟩
      · rw [if_neg r] at h; cases h
theorem ffst_none {p : Nat → Bool} : ∀ n, ffst p n = none → ∀ i, i < n → p i = false
  | 0, _, i, hi => by omega
  | n + 1, h, i, hi => by
    rw [ffst_succ] at h
    cases q : ffst p n with
    | some i => rw [q] at h; cases h
    | none =>
      rw [q] at h
      simp only at h
      by_cases r : p n = true
      · rw [if_pos r] at h; cases h
      · by_cases e : i = n
        · rw [e]
          cases hb : p n with
          | true => exact absurd hb r
          | false => rfl
        · exact ffst_none n q i (by omega)
theorem ffst_non {p : Nat → Bool} : ∀ n, (∀ i, i < n → p i = false) → ffst p n = none
  | 0, _ => rfl
  | n + 1, h => by
    rw [ffst_succ, ffst_non n (fun i hi => h i (by omega))]
    simp only
    rw [if_neg]
    rw [h n (Nat.lt_succ_self _)]
    exact fun z => Bool.noConfusion z
theorem ffst_of {p : Nat → Bool} {k : Nat} (hk : p k = true) (h : ∀ i, i < k → p i = false) : ∀ n, k < n → ffst p n = some k
  | 0, hn => by omega
  | n + 1, hn => by
    rw [ffst_succ]
    by_cases e : k = n
    · subst e
      rw [ffst_non k h]
      simp only
      rw [if_pos hk]
    · rw [ffst_of hk h n (by omega)]
/-- alike as far as the first e events -/
def lkn (g ld : Nat → Nat) (a b : Nat) : Nat → Bool
  | 0 => decide (g a = g b)
  | e + 1 => lkn g ld a b e && decide (g (ld (4 * a + e)) = g (ld (4 * b + e)))
theorem lkn_iff {g ld : Nat → Nat} {a b : Nat} : ∀ e, lkn g ld a b e = true ↔ g a = g b ∧ ∀ i, i < e → g (ld (4 * a + i)) = g (ld (4 * b + i))
  | 0 => by
    show decide _ = true ↔ _
    rw [decide_eq_true_eq]
    exact ⟨fun h => ⟨h, fun i hi => by omega⟩, fun h => h.1⟩
  | e + 1 => by
    show (lkn g ld a b e && decide _) = true ↔ _
    rw [Bool.and_eq_true, lkn_iff e, decide_eq_true_eq]
    constructor
    · rintro ⟨⟨h1, h2⟩, h3⟩
      refine ⟨h1, fun i hi => ?_⟩
      by_cases q : i = e
      · rw [q]; exact h3
      · exact h2 i (by omega)
    · rintro ⟨h1, h2⟩
      exact ⟨⟨h1, fun i hi => h2 i (by omega)⟩, h2 e (by omega)⟩
theorem lkn_fall {g ld : Nat → Nat} {a b e : Nat} (h : lkn g ld a b e = false) : ∀ k, lkn g ld a b (e + k) = false
  | 0 => h
  | k + 1 => by
    show (lkn g ld a b (e + k) && _) = false
    rw [lkn_fall h k, Bool.false_and]
theorem lkn_tr {g ld : Nat → Nat} {a b c e : Nat} (h1 : lkn g ld a b e = true) (h2 : lkn g ld b c e = true) : lkn g ld a c e = true := by
  rw [lkn_iff] at h1 h2 ⊢
  exact ⟨h1.1.trans h2.1, fun i hi => (h1.2 i hi).trans (h2.2 i hi)⟩
theorem lkn_sy {g ld : Nat → Nat} {a b e : Nat} (h1 : lkn g ld a b e = true) : lkn g ld b a e = true := by
  rw [lkn_iff] at h1 ⊢
  exact ⟨h1.1.symm, fun i hi => (h1.2 i hi).symm⟩
theorem lkn_rf {g ld : Nat → Nat} {a e : Nat} : lkn g ld a a e = true := by
  rw [lkn_iff]
  exact ⟨rfl, fun _ _ => rfl⟩
/-- how many groups, their first pairs, the group of a pair -/
abbrev GSt := Nat × (Nat → Nat) × (Nat → Nat)
def gst (g ld : Nat → Nat) (r : Nat) (s : GSt) : GSt :=
  match ffst (fun k => lkn g ld (s.2.1 k) r 4) s.1 with
  | some k => (s.1, s.2.1, fun i => if i = r then k else s.2.2 i)
  | none => (s.1 + 1, (fun k => if k = s.1 then r else s.2.1 k), fun i => if i = r then s.1 else s.2.2 i)
def gsq (g ld : Nat → Nat) : Nat → GSt
  | 0 => (0, fun _ => 0, fun _ => 0)
  | r + 1 => gst g ld r (gsq g ld r)
def GWq (g ld : Nat → Nat) (r : Nat) (s : GSt) : Prop :=
  (∀ i, i < r → s.2.2 i < s.1 ∧ lkn g ld (s.2.1 (s.2.2 i)) i 4 = true) ∧ (∀ k, k < s.1 → s.2.1 k < r ∧ s.2.2 (s.2.1 k) = k) ∧ (∀ i k, i < k → k < s.1 → lkn g ld (s.2.1 i) (s.2.1 k) 4 = false)
theorem gst_some {g ld : Nat → Nat} {r k : Nat} {s : GSt} (h : ffst (fun k => lkn g ld (s.2.1 k) r 4) s.1 = some k) : gst g ld r s = (s.1, s.2.1, fun i => if i = r then k else s.2.2 i) := by
  unfold gst; rw [h]
theorem gst_none {g ld : Nat → Nat} {r : Nat} {s : GSt} (h : ffst (fun k => lkn g ld (s.2.1 k) r 4) s.1 = none) : gst g ld r s = (s.1 + 1, (fun k => if k = s.1 then r else s.2.1 k), fun i => if i = r then s.1 else s.2.2 i) := by
  unfold gst; rw [h]
theorem gst_ok {g ld : Nat → Nat} {r : Nat} {s : GSt} (h : GWq g ld r s) : GWq g ld (r + 1) (gst g ld r s) := by
  obtain ⟨h1, h2, h3⟩ := h
  cases q : ffst (fun k => lkn g ld (s.2.1 k) r 4) s.1 with
  | some k =>
    rw [gst_some q]
    obtain ⟨f1, f2⟩ := ffst_some _ q
    refine ⟨fun i hi => ?_, fun k' hk' => ?_, h3⟩
    · by_cases e : i = r
      · subst e
        simp only [if_true]
        exact ⟨f1, f2⟩
      · simp only [if_neg e]
        exact h1 i (by omega)
    · have := h2 k' hk'
      simp only
      rw [if_neg (by omega)]
      exact ⟨by omega, this.2⟩
  | none =>
    rw [gst_none q]
    have hn := ffst_none _ q
    refine ⟨fun i hi => ?_, fun k' hk' => ?_, fun i k hik hk => ?_⟩
    · by_cases e : i = r
      · subst e
        simp only [if_true]
        exact ⟨Nat.lt_succ_self _, lkn_rf⟩
      · have := h1 i (by omega)
        simp only [if_neg e]
        rw [if_neg (by omega)]
        exact ⟨by omega, this.2⟩
    · have hk2 : k' < s.1 + 1 := hk'
      by_cases e : k' = s.1
      · subst e
        simp only [if_true]
        exact ⟨Nat.lt_succ_self _, trivial⟩
      · have := h2 k' (by omega)
        simp only [if_neg e]
        rw [if_neg (by omega)]
        exact ⟨by omega, this.2⟩
    · have hk2 : k < s.1 + 1 := hk
      simp only
      rw [if_neg (by omega)]
      by_cases e : k = s.1
      · rw [if_pos e]; exact hn i (by omega)
      · rw [if_neg e]; exact h3 i k hik (by omega)
theorem gsq_ok (g ld : Nat → Nat) : ∀ r, GWq g ld r (gsq g ld r)
  | 0 => ⟨fun i hi => by omega, fun k hk => absurd hk (Nat.not_lt_zero k), fun i k hik hk => absurd hk (Nat.not_lt_zero k)⟩
  | r + 1 => gst_ok (gsq_ok g ld r)
theorem gsq_le1 (g ld : Nat → Nat) (r : Nat) : (gsq g ld r).1 ≤ (gsq g ld (r + 1)).1 ∧ (gsq g ld (r + 1)).1 ≤ (gsq g ld r).1 + 1 := by
  show (gsq g ld r).1 ≤ (gst g ld r (gsq g ld r)).1 ∧ (gst g ld r (gsq g ld r)).1 ≤ _
  cases q : ffst (fun k => lkn g ld ((gsq g ld r).2.1 k) r 4) (gsq g ld r).1 with
  | some k => rw [gst_some q]; exact ⟨Nat.le_refl _, Nat.le_succ _⟩
  | none => rw [gst_none q]; exact ⟨Nat.le_succ _, Nat.le_refl _⟩
theorem gsq_le (g ld : Nat → Nat) (r : Nat) : ∀ k, (gsq g ld r).1 ≤ (gsq g ld (r + k)).1
  | 0 => Nat.le_refl _
  | k + 1 => Nat.le_trans (gsq_le g ld r k) (gsq_le1 g ld (r + k)).1
theorem gsq_len (g ld : Nat → Nat) : ∀ r, (gsq g ld r).1 ≤ r
  | 0 => Nat.le_refl 0
  | r + 1 => by
    have h1 := (gsq_le1 g ld r).2
    have h2 := gsq_len g ld r
    omega
/-- in one group: alike -/
theorem gsq_iff {g ld : Nat → Nat} {c a b : Nat} (ha : a < c) (hb : b < c) : (gsq g ld c).2.2 a = (gsq g ld c).2.2 b ↔ lkn g ld a b 4 = true := by
  obtain ⟨h1, h2, h3⟩ := gsq_ok g ld c
  have ra := h1 a ha
  have rb := h1 b hb
  constructor
  · intro e
    rw [e] at ra
    exact lkn_tr (lkn_sy ra.2) rb.2
  · intro e
    have h4 : lkn g ld ((gsq g ld c).2.1 ((gsq g ld c).2.2 a)) ((gsq g ld c).2.1 ((gsq g ld c).2.2 b)) 4 = true := lkn_tr (lkn_tr ra.2 e) (lkn_sy rb.2)
    rcases Nat.lt_trichotomy ((gsq g ld c).2.2 a) ((gsq g ld c).2.2 b) with q | q | q
    · rw [h3 _ _ q rb.1] at h4; cases h4
    · exact q
    · have h5 := lkn_sy h4
      rw [h3 _ _ q ra.1] at h5; cases h5
/-- the partings one behind another -/
def gri (kp : Nat → Bool) (ld : Nat → Nat) (c : Nat) : Nat → Nat → Nat
  | 0 => fun r => if kp r = true then 1 else 0
  | i + 1 => (gsq (gri kp ld c i) ld c).2.2
def grs (kp : Nat → Bool) (ld : Nat → Nat) (c i : Nat) : GSt := gsq (gri kp ld c i) ld c
theorem gri_succ (kp : Nat → Bool) (ld : Nat → Nat) (c i : Nat) : gri kp ld c (i + 1) = (grs kp ld c i).2.2 := rfl
def Gok (c : Nat) (ld : Nat → Nat) : Prop := 0 < c ∧ ∀ r e, r < c → e < 4 → ld (4 * r + e) < c
/-- the bound of the groups' numbers -/
theorem gri_lt {kp : Nat → Bool} {ld : Nat → Nat} {c i r : Nat} (hr : r < c) (h : ∀ k, k < i → (grs kp ld c k).1 ≤ 60) : gri kp ld c i r < 60 := by
  cases i with
  | zero =>
    show (if kp r = true then 1 else 0) < 60
    split <;> decide
  | succ i =>
    have h1 := ((gsq_ok (gri kp ld c i) ld c).1 r hr).1
    have h2 := h i (Nat.lt_succ_self _)
    exact Nat.lt_of_lt_of_le h1 h2
theorem grs_pos {kp : Nat → Bool} {ld : Nat → Nat} {c i : Nat} (hc : 0 < c) : 0 < (grs kp ld c i).1 := by
  have h1 := ((gsq_ok (gri kp ld c i) ld c).1 0 hc).1
  exact Nat.lt_of_le_of_lt (Nat.zero_le _) h1
/-- each parting keeps apart what the one before does -/
theorem gri_fine {kp : Nat → Bool} {ld : Nat → Nat} {c i a b : Nat} (ha : a < c) (hb : b < c) (h : gri kp ld c (i + 1) a = gri kp ld c (i + 1) b) : gri kp ld c i a = gri kp ld c i b ∧ ∀ e, e < 4 → gri kp ld c i (ld (4 * a + e)) = gri kp ld c i (ld (4 * b + e)) :=
  (lkn_iff 4).mp ((gsq_iff ha hb).mp h)
theorem gri_fine_of {kp : Nat → Bool} {ld : Nat → Nat} {c i a b : Nat} (ha : a < c) (hb : b < c) (h0 : gri kp ld c i a = gri kp ld c i b) (h : ∀ e, e < 4 → gri kp ld c i (ld (4 * a + e)) = gri kp ld c i (ld (4 * b + e))) : gri kp ld c (i + 1) a = gri kp ld c (i + 1) b :=
  (gsq_iff ha hb).mpr ((lkn_iff 4).mpr ⟨h0, h⟩)
theorem gri_kept {kp : Nat → Bool} {ld : Nat → Nat} {c a b : Nat} (ha : a < c) (hb : b < c) : ∀ i, gri kp ld c i a = gri kp ld c i b → kp a = kp b
  | 0, h => by
    have h' : (if kp a = true then 1 else 0) = (if kp b = true then 1 else 0) := h
    cases q : kp a <;> cases r : kp b <;> rw [q, r] at h' <;> first | rfl | (exact absurd h' (by decide))
  | i + 1, h => gri_kept ha hb i (gri_fine ha hb h).1
/-- the first pair of a group of the parting before, in the next one -/
theorem grs_inj {kp : Nat → Bool} {ld : Nat → Nat} {c i k k' : Nat} (hk : k < (grs kp ld c i).1) (hk' : k' < (grs kp ld c i).1) (h : gri kp ld c (i + 2) ((grs kp ld c i).2.1 k) = gri kp ld c (i + 2) ((grs kp ld c i).2.1 k')) : k = k' := by
  obtain ⟨h1, h2, h3⟩ := gsq_ok (gri kp ld c i) ld c
  have a := h2 k hk
  have b := h2 k' hk'
  have e := (gri_fine a.1 b.1 h).1
  rw [gri_succ] at e
  exact a.2.symm.trans (e.trans b.2)
theorem grs_mono {kp : Nat → Bool} {ld : Nat → Nat} {c i : Nat} : (grs kp ld c i).1 ≤ (grs kp ld c (i + 1)).1 := by
  obtain ⟨h1, h2, h3⟩ := gsq_ok (gri kp ld c i) ld c
  refine fb_holes (grs kp ld c (i + 1)).1 (grs kp ld c i).1 (fun k => gri kp ld c (i + 2) ((grs kp ld c i).2.1 k)) (fun k hk => ?_) (fun i' k hik hk => ?_)
  · exact ((gsq_ok (gri kp ld c (i + 1)) ld c).1 _ (h2 k hk).1).1
  · intro e
    have := grs_inj (by omega) hk e
    omega
/-- as many groups: nothing was parted -/
theorem grs_stop {kp : Nat → Bool} {ld : Nat → Nat} {c i a b : Nat} (hs : (grs kp ld c (i + 1)).1 = (grs kp ld c i).1) (ha : a < c) (hb : b < c) (h : gri kp ld c (i + 1) a = gri kp ld c (i + 1) b) : gri kp ld c (i + 2) a = gri kp ld c (i + 2) b := by
  obtain ⟨h1, h2, h3⟩ := gsq_ok (gri kp ld c i) ld c
  obtain ⟨j1, j2, j3⟩ := gsq_ok (gri kp ld c (i + 1)) ld c
  -- each new group holds the first pair of an old one
  have onto : ∀ y, y < (grs kp ld c i).1 → ∃ k, k < (grs kp ld c i).1 ∧ gri kp ld c (i + 2) ((grs kp ld c i).2.1 k) = y := by
    intro y hy
    by_cases q : ∃ k, k < (grs kp ld c i).1 ∧ gri kp ld c (i + 2) ((grs kp ld c i).2.1 k) = y
    · exact q
    · exfalso
      have := fb_holes (grs kp ld c i).1 ((grs kp ld c i).1 + 1) (fun k => if k = (grs kp ld c i).1 then y else gri kp ld c (i + 2) ((grs kp ld c i).2.1 k)) (fun k hk => ?_) (fun a b hab hb => ?_)
      · omega
      · by_cases e : k = (grs kp ld c i).1
        · simp only [if_pos e]; exact hy
        · simp only [if_neg e]
          have := (j1 _ (h2 k (show k < (grs kp ld c i).1 by omega)).1).1
          rw [← hs]
          exact this
      · have ea : ¬ a = (grs kp ld c i).1 := by omega
        simp only [if_neg ea]
        by_cases e : b = (grs kp ld c i).1
        · simp only [if_pos e]
          exact fun z => q ⟨a, by omega, z⟩
        · simp only [if_neg e]
          intro z
          have := grs_inj (i := i) (by omega) (by omega) z
          omega
  have ga : gri kp ld c (i + 2) a < (grs kp ld c i).1 := by rw [← hs]; exact (j1 a ha).1
  have gb : gri kp ld c (i + 2) b < (grs kp ld c i).1 := by rw [← hs]; exact (j1 b hb).1
  obtain ⟨ka, p1, p2⟩ := onto _ ga
  obtain ⟨kb, q1, q2⟩ := onto _ gb
  have ea := (gri_fine (h2 ka p1).1 ha p2).1
  have eb := (gri_fine (h2 kb q1).1 hb q2).1
  have e1 : ka = gri kp ld c (i + 1) a := (h2 ka p1).2.symm.trans ea
  have e2 : kb = gri kp ld c (i + 1) b := (h2 kb q1).2.symm.trans eb
  have : ka = kb := by rw [e1, e2, h]
  rw [← p2, ← q2, this]
