/-! ===== read: the groups numbered (plain) ===== -/
/-- how many, the number of a group, the group of a number, where each step leads -/
abbrev NSt := Nat × (Nat → Option Nat) × (Nat → Nat) × (Nat → Nat)
def nst (tr : Nat → Nat → Nat) (j : Nat) (s : NSt) : NSt :=
  match s.2.1 (tr (s.2.2.1 (j / 4)) (j % 4)) with
  | some t => (s.1, s.2.1, s.2.2.1, fun i => if i = j then t else s.2.2.2 i)
  | none => (s.1 + 1, (fun k => if k = tr (s.2.2.1 (j / 4)) (j % 4) then some s.1 else s.2.1 k), (fun i => if i = s.1 then tr (s.2.2.1 (j / 4)) (j % 4) else s.2.2.1 i), fun i => if i = j then s.1 else s.2.2.2 i)
def nsq (tr : Nat → Nat → Nat) (g0 : Nat) : Nat → NSt
  | 0 => (1, (fun k => if k = g0 then some 0 else none), (fun _ => g0), fun _ => 0)
  | j + 1 => nst tr j (nsq tr g0 j)
theorem nst_some {tr : Nat → Nat → Nat} {j t : Nat} {s : NSt} (h : s.2.1 (tr (s.2.2.1 (j / 4)) (j % 4)) = some t) : nst tr j s = (s.1, s.2.1, s.2.2.1, fun i => if i = j then t else s.2.2.2 i) := by
  unfold nst; rw [h]
theorem nst_none {tr : Nat → Nat → Nat} {j : Nat} {s : NSt} (h : s.2.1 (tr (s.2.2.1 (j / 4)) (j % 4)) = none) : nst tr j s = (s.1 + 1, (fun k => if k = tr (s.2.2.1 (j / 4)) (j % 4) then some s.1 else s.2.1 k), (fun i => if i = s.1 then tr (s.2.2.1 (j / 4)) (j % 4) else s.2.2.1 i), fun i => if i = j then s.1 else s.2.2.2 i) := by
  unfold nst; rw [h]
def Nok (K g0 : Nat) (tr : Nat → Nat → Nat) : Prop := K ≤ 60 ∧ g0 < K ∧ ∀ k e, k < K → e < 4 → tr k e < K
def NWq (K g0 : Nat) (tr : Nat → Nat → Nat) (j : Nat) (s : NSt) : Prop :=
  1 ≤ s.1 ∧ s.2.2.1 0 = g0 ∧ (∀ i, i < s.1 → s.2.2.1 i < K ∧ s.2.1 (s.2.2.1 i) = some i) ∧ (∀ k t, s.2.1 k = some t → t < s.1 ∧ s.2.2.1 t = k) ∧ ∀ j', j' < j → s.2.2.2 j' < s.1 ∧ s.2.2.1 (s.2.2.2 j') = tr (s.2.2.1 (j' / 4)) (j' % 4)
theorem nwq_0 {K g0 : Nat} {tr : Nat → Nat → Nat} (h : Nok K g0 tr) : NWq K g0 tr 0 (nsq tr g0 0) := by
  refine ⟨Nat.le_refl 1, rfl, fun i hi => ?_, fun k t ht => ?_, fun j' h => by omega⟩
  · have hi' : i < 1 := hi
    have : i = 0 := by omega
    subst this
    refine ⟨h.2.1, ?_⟩
    show (if g0 = g0 then some 0 else none) = some 0
    rw [if_pos rfl]
  · have ht' : (if k = g0 then some 0 else none) = some t := ht
    by_cases q : k = g0
    · rw [if_pos q] at ht'
      cases ht'
      exact ⟨Nat.one_pos, q.symm⟩
    · rw [if_neg q] at ht'; cases ht'
theorem nwq_len {K g0 j : Nat} {tr : Nat → Nat → Nat} {s : NSt} (h : NWq K g0 tr j s) : s.1 ≤ K := by
  obtain ⟨h1, h2, h3, h4, h5⟩ := h
  refine fb_holes K s.1 s.2.2.1 (fun i hi => (h3 i hi).1) (fun i k hik hk e => ?_)
  have a := (h3 i (by omega)).2
  have b := (h3 k hk).2
  rw [e, b] at a
  cases a
  omega
theorem nst_old {tr : Nat → Nat → Nat} {j : Nat} {s : NSt} : s.1 ≤ (nst tr j s).1 ∧ (nst tr j s).1 ≤ s.1 + 1 ∧ (∀ i, i < s.1 → (nst tr j s).2.2.1 i = s.2.2.1 i) ∧ ∀ k, k ≠ j → (nst tr j s).2.2.2 k = s.2.2.2 k := by
  cases q : s.2.1 (tr (s.2.2.1 (j / 4)) (j % 4)) with
  | some t =>
    rw [nst_some q]
    exact ⟨Nat.le_refl _, Nat.le_succ _, fun i _ => rfl, fun k hk => by simp only [if_neg hk]⟩
  | none =>
    rw [nst_none q]
    refine ⟨Nat.le_succ _, Nat.le_refl _, fun i hi => ?_, fun k hk => by simp only [if_neg hk]⟩
    simp only
    rw [if_neg (by omega)]
theorem nst_ok {K g0 j : Nat} {tr : Nat → Nat → Nat} {s : NSt} (hN : Nok K g0 tr) (h : NWq K g0 tr j s) (hj : j / 4 < s.1) : NWq K g0 tr (j + 1) (nst tr j s) := by
  obtain ⟨h1, h2, h3, h4, h5⟩ := h
  have htr : tr (s.2.2.1 (j / 4)) (j % 4) < K := hN.2.2 _ _ (h3 _ hj).1 (Nat.mod_lt _ (by decide))
  cases q : s.2.1 (tr (s.2.2.1 (j / 4)) (j % 4)) with
  | some t =>
    rw [nst_some q]
    refine ⟨h1, h2, h3, h4, fun j' hj' => ?_⟩
    obtain ⟨t1, t2⟩ := h4 _ _ q
    by_cases e : j' = j
    · subst e
      simp only [if_true]
      exact ⟨t1, t2⟩
    · simp only [if_neg e]
      exact h5 j' (by omega)
  | none =>
    rw [nst_none q]
    generalize hw : tr (s.2.2.1 (j / 4)) (j % 4) = w at *
    refine ⟨Nat.succ_pos _, ?_, fun i hi => ?_, fun k t ht => ?_, fun j' hj' => ?_⟩
    · simp only
      rw [if_neg (by omega)]
      exact h2
    · have hi' : i < s.1 + 1 := hi
      simp only
      by_cases e : i = s.1
      · rw [if_pos e, if_pos rfl, e]
        exact ⟨htr, rfl⟩
      · rw [if_neg e]
        have := h3 i (by omega)
        refine ⟨this.1, ?_⟩
        rw [if_neg (fun z => ?_)]
        · exact this.2
        · rw [← z, this.2] at q
          cases q
    · simp only at ht ⊢
      by_cases e : k = w
      · rw [if_pos e] at ht
        cases ht
        exact ⟨Nat.lt_succ_self _, by rw [if_pos rfl, e]⟩
      · rw [if_neg e] at ht
        obtain ⟨t1, t2⟩ := h4 k t ht
        exact ⟨by omega, by rw [if_neg (by omega)]; exact t2⟩
    · simp only
      by_cases e : j' = j
      · subst e
        rw [if_pos rfl, if_pos rfl, if_neg (by omega), hw]
        exact ⟨Nat.lt_succ_self _, rfl⟩
      · rw [if_neg e]
        obtain ⟨t1, t2⟩ := h5 j' (by omega)
        refine ⟨by omega, ?_⟩
        rw [if_neg (by omega), t2]
        by_cases u : j' / 4 = s.1
        · omega
        · rw [if_neg u]
/-- no step went beyond -/
def Nmn (tr : Nat → Nat → Nat) (g0 j : Nat) : Prop := ∀ j', j' < j → j' / 4 < (nsq tr g0 j').1
theorem nsq_end {tr : Nat → Nat → Nat} {g0 J K : Nat} (h1 : 4 * (nsq tr g0 J).1 = J) (m1 : Nmn tr g0 J) (h2 : 4 * (nsq tr g0 K).1 = K) (m2 : Nmn tr g0 K) : J = K := by
  rcases Nat.lt_trichotomy J K with q | q | q
  · have := m2 J q; omega
  · exact q
  · have := m1 K q; omega
