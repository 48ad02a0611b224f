/-! ===== the state that both sides keep, and what joins them ===== -/
theorem sp_hasBit {w k : Nat} {x : Int64} {i : Int32} {σ : Sg} {Q : Int32 → Sg → Prop} (hx : x = lN w) (hw : w < 2 ^ 64) (hi : i = nI k) (hk : k < 64) (h : Q (bI (w.testBit k)) σ) : wp_X8_hasBit x i σ Q := by
  subst hx hi
  have e1 : lUSHR (lN w) (nI k) &&& lN 1 = lN (w / 2 ^ k % 2) := wb_bit hw hk
  have e2 : w.testBit k = decide (w / 2 ^ k % 2 = 1) := by rw [Nat.testBit_eq_decide_div_mod_eq]
  unfold wp_X8_hasBit
  rw [e1]
  rw [e2] at h
  have h2 : w / 2 ^ k % 2 < 2 := Nat.mod_lt _ (by decide)
  generalize hz : w / 2 ^ k % 2 = z at h h2 ⊢
  match z, h2 with
  | 0, _ => exact ⟨fun _ => h, fun z => absurd z (by decide)⟩
  | 1, _ => exact ⟨fun z => absurd (by decide) z, fun _ => h⟩
theorem lgc_lt {x y : Int64} : lg_cmp x y < nI 0 ↔ x < y := lg_cmp_lt x y
theorem lgc_gt {x y : Int64} : nI 0 < lg_cmp x y ↔ y < x := lg_cmp_gt x y
theorem lgc_eq {x y : Int64} : lg_cmp x y = nI 0 ↔ x = y := lg_cmp_eq x y
/-- one of the numbers below n -/
def inN (x : Int32) (n : Nat) : Bool := decide (0 ≤ x.toInt ∧ x.toInt < n)
theorem inN_of {x : Int32} {n : Nat} (h : inN x n = true) : ∃ k, k < n ∧ x = nI k := by
  have h := of_decide_eq_true h
  rcases ni_cases x with h2 | ⟨k, hk, rfl⟩
  · rw [Int32.lt_iff_toInt_lt] at h2
    have h0 : (nI 0).toInt = 0 := by decide
    omega
  · rw [nI_toInt hk] at h
    exact ⟨k, by omega, rfl⟩
theorem inN_nI {k n : Nat} (h : k < 2 ^ 31) : inN (nI k) n = decide (k < n) := by
  unfold inN
  rw [nI_toInt h]
  by_cases h2 : k < n
  · rw [decide_eq_true h2]; exact decide_eq_true (by omega)
  · rw [decide_eq_false h2]; exact decide_eq_false (by omega)
theorem inN_neg {x : Int32} {n : Nat} (h : x < nI 0) : inN x n = false := by
  unfold inN
  rw [Int32.lt_iff_toInt_lt] at h
  have h0 : (nI 0).toInt = 0 := by decide
  exact decide_eq_false (by omega)
theorem sp_guard {N : Nat} {x : Int32} {σ : Sg} {Q : Int32 → Sg → Prop} (hN : N < 2 ^ 31) (h : Q (bI (inN x N)) σ) : (x < nI 0 → Q (nI 0) σ) ∧ (¬ x < nI 0 → ((nI N ≤ x → Q (nI 0) σ) ∧ (¬ nI N ≤ x → Q (nI 1) σ))) := by
  refine sp_lim N hN (fun z => ?_) (fun k hk e => ?_)
  · rcases z with z | ⟨k, h1, h2, rfl⟩
    · rw [inN_neg z] at h; exact h
    · rw [inN_nI h2, decide_eq_false (by omega)] at h; exact h
  · subst e
    rw [inN_nI (by omega), decide_eq_true hk] at h
    exact h
theorem sp_isEvent {x : Int32} {σ : Sg} {Q : Int32 → Sg → Prop} (h : Q (bI (inN x 4)) σ) : wp_X8_isEvent x σ Q := sp_guard (by decide) h
theorem sp_isVerdict {x : Int32} {σ : Sg} {Q : Int32 → Sg → Prop} (h : Q (bI (inN x 4)) σ) : wp_X8_isVerdict x σ Q := sp_guard (by decide) h
theorem sp_isKey {x : Int32} {σ : Sg} {Q : Int32 → Sg → Prop} (h : Q (bI (inN x 16)) σ) : wp_X8_isKey x σ Q := sp_guard (by decide) h
theorem sp_isRow {x : Int32} {σ : Sg} {Q : Int32 → Sg → Prop} (h : Q (bI (inN x 26)) σ) : wp_X8_isRow x σ Q := by
  have h1 := sp_guard (N := 26) (by decide) h
  refine ⟨h1.1, fun z => ?_⟩
  have h2 := h1.2 z
  refine ⟨fun y => h2.1 ?_, fun y => h2.2 ?_⟩
  · rw [Int32.lt_iff_toInt_lt] at y
    rw [Int32.le_iff_toInt_le]
    have e1 : (nI 25).toInt = 25 := by decide
    have e2 : (nI 26).toInt = 26 := by decide
    omega
  · rw [Int32.lt_iff_toInt_lt] at y
    rw [Int32.le_iff_toInt_le]
    have e1 : (nI 25).toInt = 25 := by decide
    have e2 : (nI 26).toInt = 26 := by decide
    omega
theorem sp_in {x : Int32} {m : Nat} {y z : Int64} {σ : Sg} {Q : Int32 → Sg → Prop} (hy : y = lN 0) (hz : z = lN m) (hm : m + 1 < 2 ^ 31) (h : Q (bI (inN x (m + 1))) σ) : wp_X9_in (Int32.toInt64 x) y z σ Q := by
  subst hy hz
  unfold wp_X9_in
  rw [lgc_lt, lgc_gt, Int64.lt_iff_toInt_lt, Int64.lt_iff_toInt_lt, Int32.toInt_toInt64]
  have e0 : (lN 0).toInt = 0 := by decide
  have e1 : (lN m).toInt = m := lN_toInt (by omega)
  rw [e0, e1]
  have hi : inN x (m + 1) = decide (0 ≤ x.toInt ∧ x.toInt < (m + 1 : Nat)) := rfl
  refine ⟨fun q => ?_, fun q => ⟨fun r => ?_, fun r => ?_⟩⟩
  · rw [hi, decide_eq_false (by omega)] at h; exact h
  · rw [hi, decide_eq_false (by omega)] at h; exact h
  · rw [hi, decide_eq_true (by omega)] at h; exact h
theorem sp_MisKey {x : Int32} {σ : Sg} {Q : Int32 → Sg → Prop} (h : Q (bI (inN x 16)) σ) : wp_X9_isKey x σ Q := sp_in rfl rfl (by decide) ⟨bI_bl _, h⟩
theorem sp_MisState {x : Int32} {n : Nat} {σ : Sg} {Q : Int32 → Sg → Prop} (hn : gF σ 10 39 = nI n) (h0 : 0 < n) (h1 : n ≤ 60) (h : Q (bI (inN x n)) σ) : wp_X9_isState x σ Q := by
  unfold wp_X9_isState
  have e : (Int32.toInt64 (gF σ 10 39 - nI 1)) = lN (n - 1) := by
    rw [hn, pk_sub (by omega), nI_l (by omega)]
  refine sp_in rfl e (by omega) ?_
  have e2 : n - 1 + 1 = n := by omega
  rw [e2]
  exact ⟨bI_bl _, h⟩
theorem sp_isThere {n : Nat} {σ : Sg} {Q : Int32 → Sg → Prop} (hn : gF σ 6 4 = nI n) (h1 : n ≤ 60) (h : Q (bI (decide (0 < n))) σ) : wp_X7_isThere σ Q := by
  unfold wp_X7_isThere
  refine pk_le n 0 (fun z => ?_) (fun z => ?_) hn rfl
  · rw [decide_eq_false (by omega)] at h; exact h
  · rw [decide_eq_true (by omega)] at h; exact h
theorem sp_isTherek {n : Nat} {σ : Sg} {Q : Int32 → Sg → Prop} (hn : gF σ 7 4 = nI n) (h1 : n ≤ 60) (h : Q (bI (decide (0 < n))) σ) : wp_X7_isTherek σ Q := by
  unfold wp_X7_isTherek
  refine pk_le n 0 (fun z => ?_) (fun z => ?_) hn rfl
  · rw [decide_eq_false (by omega)] at h; exact h
  · rw [decide_eq_true (by omega)] at h; exact h
theorem sp_has {x : Int32} {n : Nat} {σ : Sg} {Q : Int32 → Sg → Prop} (hn : gF σ 6 4 = nI n) (h1 : n ≤ 60) (h : Q (bI (inN x n)) σ) : wp_X7_has x σ Q := by
  unfold wp_X7_has
  rw [hn]
  exact sp_guard (by omega) h
theorem bI_br {b : Bool} {A B : Prop} (h0 : b = false → A) (h1 : b = true → B) : (bI b = nI 0 → A) ∧ (¬ bI b = nI 0 → B) := by
  cases b
  · exact ⟨fun _ => h0 rfl, fun z => absurd rfl z⟩
  · exact ⟨fun z => absurd z (by decide), fun _ => h1 rfl⟩
theorem bI_rb {b : Bool} {A B : Prop} (h1 : b = true → A) (h0 : b = false → B) : (¬ bI b = nI 0 → A) ∧ (bI b = nI 0 → B) := (bI_br h0 h1).symm
/-- the machine: how many states, where they lead, their verdicts -/
def wk (to : Nat → Nat → Nat) : Nat → Nat → Nat → Prop
  | 0, s, t => t = s
  | d + 1, s, t => ∃ e, e < 4 ∧ wk to d (to s e) t
def isDst (to : Nat → Nat → Nat) (vd : Nat → Nat) (s v : Nat) : Option Nat → Prop
  | none => ∀ d t, wk to d s t → ¬ vd t = v
  | some d => (∃ t, wk to d s t ∧ vd t = v) ∧ ∀ d' t, d' < d → wk to d' s t → ¬ vd t = v
def oI : Option Nat → Int32
  | none => -9
  | some d => nI d
def wy (to : Nat → Nat → Nat) (vd : Nat → Nat) : Nat → Nat → Nat
  | 0, s => vd s % 2
  | m + 1, s => wy to vd m (to s 0) + wy to vd m (to s 1) + wy to vd m (to s 2) + wy to vd m (to s 3)
def PMa (to : Nat → Nat → Nat) (vd : Nat → Nat) (n : Nat) : Prop := n ≤ 60 ∧ (∀ s, s < n → vd s < 4 ∧ ∀ e, e < 4 → to s e < n) ∧ ∀ s, s < n → 2 ≤ vd s → ∀ e, e < 4 → to s e = s
def PXa (σ : Sg) (n : Nat) (to : Nat → Nat → Nat) (vd : Nat → Nat) (ds : Nat → Nat → Option Nat) : Prop :=
  gF σ 6 4 = nI n ∧ (∀ s, s < n → gA σ 36 s = nI (vd s) ∧ (∀ e, e < 4 → gA σ 35 (s * 4 + e) = nI (to s e)) ∧ (∀ v, v < 4 → gA σ 37 (s * 4 + v) = oI (ds s v) ∧ isDst to vd s v (ds s v) ∧ ∀ d, ds s v = some d → d < 60) ∧ ∀ m, m ≤ 25 → gL σ 38 (m * 60 + s) = lN (wy to vd m s))
def PMo (σ : Sg) (n : Nat) (to : Nat → Nat → Nat) (vd : Nat → Nat) : Prop :=
  gF σ 10 39 = nI n ∧ gF σ 10 38 = bI (decide (0 < n)) ∧ ∀ s, s < n → gA σ 73 s = nI (vd s) ∧ gA σ 72 s = bI (decide (vd s % 2 = 1)) ∧ ∀ e, e < 4 → gA σ 71 (4 * s + e) = nI (to s e)
def PXk (σ : Sg) (n : Nat) (to : Nat → Nat → Nat) (vd : Nat → Nat) : Prop :=
  gF σ 7 4 = nI n ∧ n ≤ 60 ∧ ∀ s, s < n → gA σ 40 s = nI (vd s) ∧ vd s < 4 ∧ ∀ e, e < 4 → gA σ 39 (s * 4 + e) = nI (to s e) ∧ to s e < n
def PMk (σ : Sg) (n : Nat) (to : Nat → Nat → Nat) (vd : Nat → Nat) : Prop :=
  gF σ 10 51 = bI (decide (0 < n)) ∧ ∀ s, s < n → gA σ 83 s = bI (decide (vd s % 2 = 1)) ∧ ∀ e, e < 4 → gA σ 82 (4 * s + e) = nI (to s e)
def PKe (σ : Sg) (n : Nat) (mk : Nat → Nat) : Prop :=
  ∀ k, k < 16 → gL σ 45 k = lN (mk k) ∧ mk k < 2 ^ n ∧ gA σ 46 k = gA σ 81 k ∧ ∀ s, s < 60 → gA σ 79 (60 * k + s) = bI ((mk k).testBit s)
def sby (n : Nat) : Int32 := (nI n).toInt8.toInt32
def PTa (σ : Sg) (nb : Nat) (tp : Nat → Nat) : Prop :=
  nb ≤ 60 ∧ gF σ 0 1 = nI nb ∧ gF σ 10 1 = nI nb ∧ ∀ i, i < nb → tp i < 256 ∧ gA σ 11 i = nI (tp i) ∧ gA σ 47 i = sby (tp i)
def PLe (σ : Sg) : Prop := (gR σ 5 0 = 29 ∧ gR σ 5 1 = 30) ∨ (gR σ 5 0 = 30 ∧ gR σ 5 1 = 29)
def Inv (σ : Sg) : Prop := ∃ nb tp n to vd ds mk n' to' vd', PTa σ nb tp ∧ gF σ 0 2 = gF σ 10 2 ∧ PMa to vd n ∧ PXa σ n to vd ds ∧ PMo σ n to vd ∧ PKe σ n mk ∧ PXk σ n' to' vd' ∧ PMk σ n' to' vd' ∧ PLe σ
/-- what a call of both sides must come to -/
def Both (a : Sg → (Int32 → Sg → Prop) → Prop) (b : Sg → (Int32 → Sg → Prop) → Prop) : Prop := ∀ σ, Inv σ → a σ (fun r σ1 => b σ1 (fun r' σ2 => r = r' ∧ Inv σ2))
theorem inv_0 : Inv σ0 := by
  refine ⟨0, fun _ => 0, 0, fun _ _ => 0, fun _ => 0, fun _ _ => none, fun _ => 0, 0, fun _ _ => 0, fun _ => 0, ⟨by omega, rfl, rfl, fun i h => by omega⟩, rfl, ⟨by omega, fun s h => by omega, fun s h => by omega⟩, ⟨rfl, fun s h => by omega⟩, ⟨rfl, rfl, fun s h => by omega⟩, fun k _ => ⟨rfl, Nat.one_pos, rfl, fun s _ => ?_⟩, ⟨rfl, by omega, fun s h => by omega⟩, ⟨rfl, fun s h => by omega⟩, Or.inl ⟨rfl, rfl⟩⟩
  rw [Nat.zero_testBit]
  rfl
