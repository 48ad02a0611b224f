/-! ===== the whole world behind both constructors ===== -/
def wPos : List Nat := [0, 2, 3, 11, 15, 23, 30, 35, 40, 43, 46, 1, 10, 4, 5, 6, 7, 8, 9, 12, 13, 14, 16, 17, 18, 19, 20, 21, 22, 24, 25, 26, 27, 28, 29, 31, 32, 33, 34, 36, 37, 38, 39, 41, 42, 44, 45, 47, 48, 49, 50, 51, 52, 53, 54, 55, 56, 57, 58, 59, 60, 61, 62, 63, 64, 65, 66, 67, 68, 69, 70, 71, 72, 73, 74, 75, 76, 77, 78, 79, 80, 81, 82, 83, 84, 85, 86]
def adW (x0 : Nat) (u : Nat → Nat) (m0 : Nat) (w : Nat → Nat) : Nat → Nat := fun i => [x0, (u 1), (u 2), (u 10), (u 14), (u 22), (u 29), (u 34), (u 39), (u 42), m0, (u 0), (u 9), (u 3), (u 4), (u 5), (u 6), (u 7), (u 8), (u 11), (u 12), (u 13), (u 15), (u 16), (u 17), (u 18), (u 19), (u 20), (u 21), (u 23), (u 24), (u 25), (u 26), (u 27), (u 28), (u 30), (u 31), (u 32), (u 33), (u 35), (u 36), (u 37), (u 38), (u 40), (u 41), (u 43), (u 44), (w 0), (w 1), (w 2), (w 3), (w 4), (w 5), (w 6), (w 7), (w 8), (w 9), (w 10), (w 11), (w 12), (w 13), (w 14), (w 15), (w 16), (w 17), (w 18), (w 19), (w 20), (w 21), (w 22), (w 23), (w 24), (w 25), (w 26), (w 27), (w 28), (w 29), (w 30), (w 31), (w 32), (w 33), (w 34), (w 35), (w 36), (w 37), (w 38), (w 39)].getD i 0
def σ0 : Sg := (fun o k => if o = 8 ∧ k = 6 then (-9 : Int32) else nI 0, fun _ _ => nI 0, fun _ _ => 0, fun o k => if o = 5 ∧ k = 0 then 29 else if o = 5 ∧ k = 1 then 30 else if o = 1 ∧ k = 1 then 12 else 0)
set_option maxHeartbeats 8000000 in
set_option maxRecDepth 100000 in
theorem w0_at (cy : Nat → ClassId) (x0 : Nat) (u : Nat → Nat) (m0 : Nat) (w : Nat → Nat) : ∀ i, i < 87 → (fin_X8 cy x0 u ++ fin_X9 cy m0 w)[wPos.getD i 0]? = some (adW x0 u m0 w i, wE (adW x0 u m0 w) cy σ0 i)
  | 0, _ => rfl
  | 1, _ => rfl
  | 2, _ => rfl
  | 3, _ => rfl
  | 4, _ => rfl
  | 5, _ => rfl
  | 6, _ => rfl
  | 7, _ => rfl
  | 8, _ => rfl
  | 9, _ => rfl
  | 10, _ => rfl
  | 11, _ => rfl
  | 12, _ => rfl
  | 13, _ => rfl
  | 14, _ => rfl
  | 15, _ => rfl
  | 16, _ => rfl
  | 17, _ => rfl
  | 18, _ => rfl
  | 19, _ => rfl
  | 20, _ => rfl
  | 21, _ => rfl
  | 22, _ => rfl
  | 23, _ => rfl
  | 24, _ => rfl
  | 25, _ => rfl
  | 26, _ => rfl
  | 27, _ => rfl
  | 28, _ => rfl
  | 29, _ => rfl
  | 30, _ => rfl
  | 31, _ => rfl
  | 32, _ => rfl
  | 33, _ => rfl
  | 34, _ => rfl
  | 35, _ => rfl
  | 36, _ => rfl
  | 37, _ => rfl
  | 38, _ => rfl
  | 39, _ => rfl
  | 40, _ => rfl
  | 41, _ => rfl
  | 42, _ => rfl
  | 43, _ => rfl
  | 44, _ => rfl
  | 45, _ => rfl
  | 46, _ => rfl
  | 47, _ => rfl
  | 48, _ => rfl
  | 49, _ => rfl
  | 50, _ => rfl
  | 51, _ => rfl
  | 52, _ => rfl
  | 53, _ => rfl
  | 54, _ => rfl
  | 55, _ => rfl
  | 56, _ => rfl
  | 57, _ => rfl
  | 58, _ => rfl
  | 59, _ => rfl
  | 60, _ => rfl
  | 61, _ => rfl
  | 62, _ => rfl
  | 63, _ => rfl
  | 64, _ => rfl
  | 65, _ => rfl
  | 66, _ => rfl
  | 67, _ => rfl
  | 68, _ => rfl
  | 69, _ => rfl
  | 70, _ => rfl
  | 71, _ => rfl
  | 72, _ => rfl
  | 73, _ => rfl
  | 74, _ => rfl
  | 75, _ => rfl
  | 76, _ => rfl
  | 77, _ => rfl
  | 78, _ => rfl
  | 79, _ => rfl
  | 80, _ => rfl
  | 81, _ => rfl
  | 82, _ => rfl
  | 83, _ => rfl
  | 84, _ => rfl
  | 85, _ => rfl
  | 86, _ => rfl
  | i + 87, h => absurd h (by omega)
theorem wPos_inj : ∀ i, i < 87 → ∀ j, j < 87 → wPos.getD i 0 = wPos.getD j 0 → i = j := by decide +kernel
theorem w0_P {D : va_G} {cy : Nat → ClassId} {x0 m0 : Nat} {u w : Nat → Nat} {H : Heap} (h : va_P D vwCl (fin_X8 cy x0 u ++ fin_X9 cy m0 w) H) : va_P D vwCl (wld (adW x0 u m0 w) cy σ0) H := by
  intro k q hk
  by_cases hl : k < NW
  · rw [wld_get hl] at hk
    cases hk
    exact h _ _ (w0_at cy x0 u m0 w k hl)
  · have h2 : (wld (adW x0 u m0 w) cy σ0).length ≤ k := by simp [wld]; omega
    rw [List.getElem?_eq_none h2] at hk
    cases hk
theorem w0_A {b0 : Nat} {cy : Nat → ClassId} {x0 m0 : Nat} {u w : Nat → Nat} (h : va_D (fun q => b0 ≤ q) (fin_X8 cy x0 u ++ fin_X9 cy m0 w)) : AdOk (adW x0 u m0 w) b0 :=
  ⟨fun i j hi hj hij => wPos_inj i hi j hj (h.1 _ _ _ _ (w0_at cy x0 u m0 w i hi) (w0_at cy x0 u m0 w j hj) hij), fun i hi => h.2 _ _ (w0_at cy x0 u m0 w i hi)⟩
