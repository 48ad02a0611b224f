/-! ===== against, apart: the calls ===== -/
theorem Cb.eq {x y : Int32} {p : Prop} (h1 : Cb x p) (h2 : Cb y p) : x = y := by
  obtain ⟨v, a, b⟩ := h1
  obtain ⟨w, c, d⟩ := h2
  have : v = w := by cases v <;> cases w <;> simp_all
  rw [a, c, this]
def rlt (a b c : Bool) : Int32 := if b = false ∧ c = false then nI 1 else if a = false then nI 2 else if b = false then nI 3 else if c = false then nI 4 else nI 0
theorem sp_relation {a b c : Bool} {σ : Sg} {Q : Int32 → Sg → Prop} (h3 : gF σ 8 3 = bI a) (h4 : gF σ 8 4 = bI b) (h5 : gF σ 8 5 = bI c) (h : Q (rlt a b c) σ) : wp_X3_relation σ Q := by
  unfold wp_X3_relation wp_X3_relation_16
  rw [h3, h4, h5]
  cases a <;> cases b <;> cases c
  all_goals first
    | exact ⟨fun z => absurd rfl z, fun _ => ⟨fun z => absurd rfl z, fun _ => h⟩⟩
    | exact ⟨fun z => absurd rfl z, fun _ => ⟨fun _ => ⟨fun z => absurd rfl z, fun _ => h⟩, fun z => absurd z (by decide)⟩⟩
    | exact ⟨fun z => absurd rfl z, fun _ => ⟨fun _ => ⟨fun _ => ⟨fun z => absurd rfl z, fun _ => h⟩, fun z => absurd z (by decide)⟩, fun z => absurd z (by decide)⟩⟩
    | exact ⟨fun _ => ⟨fun z => absurd rfl z, fun _ => h⟩, fun z => absurd z (by decide)⟩
    | exact ⟨fun _ => ⟨fun _ => ⟨fun _ => ⟨fun _ => h, fun z => absurd rfl z⟩, fun z => absurd z (by decide)⟩, fun z => absurd z (by decide)⟩, fun z => absurd z (by decide)⟩
    | exact ⟨fun _ => ⟨fun _ => ⟨fun _ => ⟨fun z => absurd z (by decide), fun _ => h⟩, fun z => absurd z (by decide)⟩, fun z => absurd z (by decide)⟩, fun z => absurd z (by decide)⟩
theorem sp_Mrel {a b c : Bool} {σ : Sg} {Q : Int32 → Sg → Prop} (h : Q (rlt a b c) σ) : wp_X9_against_139 (bI a) (bI b) (bI c) Q σ := by
  unfold wp_X9_against_139 wp_X9_against_151
  cases a <;> cases b <;> cases c
  all_goals first
    | exact ⟨fun z => absurd rfl z, fun _ => ⟨fun z => absurd rfl z, fun _ => h⟩⟩
    | exact ⟨fun z => absurd rfl z, fun _ => ⟨fun _ => ⟨fun z => absurd rfl z, fun _ => h⟩, fun z => absurd z (by decide)⟩⟩
    | exact ⟨fun z => absurd rfl z, fun _ => ⟨fun _ => ⟨fun _ => ⟨fun z => absurd rfl z, fun _ => h⟩, fun z => absurd z (by decide)⟩, fun z => absurd z (by decide)⟩⟩
    | exact ⟨fun _ => ⟨fun z => absurd rfl z, fun _ => h⟩, fun z => absurd z (by decide)⟩
    | exact ⟨fun _ => ⟨fun _ => ⟨fun _ => ⟨fun _ => h, fun z => absurd z (by decide)⟩, fun z => absurd z (by decide)⟩, fun z => absurd z (by decide)⟩, fun z => absurd z (by decide)⟩
    | exact ⟨fun _ => ⟨fun _ => ⟨fun _ => ⟨fun z => absurd rfl z, fun _ => h⟩, fun z => absurd z (by decide)⟩, fun z => absurd z (by decide)⟩, fun z => absurd z (by decide)⟩
theorem inv_m {σ0 σ : Sg} {nb n n' : Nat} {tp : Nat → Nat} {to to' : Nat → Nat → Nat} {vd vd' : Nat → Nat} {ds : Nat → Nat → Option Nat} {mk : Nat → Nat} (fr : Fr [8, 10] [43, 44, 84, 85, 86] σ0 σ) (g10 : ∀ k, k ≠ 55 → gF σ 10 k = gF σ0 10 k) (hT : PTa σ0 nb tp) (hF : gF σ0 0 2 = gF σ0 10 2) (hM : PMa to vd n) (hX : PXa σ0 n to vd ds) (hO : PMo σ0 n to vd) (hK : PKe σ0 n mk) (hXk : PXk σ0 n' to' vd') (hMk : PMk σ0 n' to' vd') (hL : PLe σ0) : Inv σ := by
  refine ⟨nb, tp, n, to, vd, ds, mk, n', to', vd', ?_, ?_, hM, ?_, ?_, ?_, ?_, ?_, ?_⟩
  · unfold PTa at hT ⊢
    rw [fr.F (by decide), g10 1 (by decide), fr.A (by decide), fr.A (by decide)]
    exact hT
  · rw [fr.F (by decide), g10 2 (by decide)]; exact hF
  · exact hX.fr (fr.F (by decide)) (fr.A (by decide)) (fr.A (by decide)) (fr.A (by decide)) (fr.L (by decide))
  · unfold PMo at hO ⊢
    rw [g10 39 (by decide), g10 38 (by decide), fr.A (by decide), fr.A (by decide), fr.A (by decide)]
    exact hO
  · exact hK.fr (fr.L (by decide)) (fr.A (by decide)) (fr.A (by decide)) (fr.A (by decide))
  · exact hXk.fr (fr.F (by decide)) (fr.A (by decide)) (fr.A (by decide))
  · unfold PMk at hMk ⊢
    rw [g10 51 (by decide), fr.A (by decide), fr.A (by decide)]
    exact hMk
  · exact hL.fr (fr.R (by decide))
/-- flags of the first k pairs -/
def Flk (ka kb : Nat → Bool) (u v : Bool) (b : BQ2) (k : Nat) : Prop := ∃ i, i < k ∧ ka (b.2.1 i / 60) = u ∧ kb (b.2.1 i % 60) = v
theorem Flk_succ {ka kb : Nat → Bool} {u v x y z w : Bool} {b : BQ2} {k : Nat} (hx : x = true ↔ Flk ka kb u v b k) (hy : ka (b.2.1 k / 60) = y) (hz : kb (b.2.1 k % 60) = z) (hw : w = (x || ((y == u) && (z == v)))) : w = true ↔ Flk ka kb u v b (k + 1) := by
  rw [hw, Bool.or_eq_true, hx, Bool.and_eq_true, beq_iff_eq, beq_iff_eq]
  unfold Flk
  constructor
  · rintro (⟨i, h1, h2⟩ | ⟨h1, h2⟩)
    · exact ⟨i, by omega, h2⟩
    · exact ⟨k, by omega, by rw [hy, h1], by rw [hz, h2]⟩
  · rintro ⟨i, h1, h2, h3⟩
    by_cases q : i = k
    · subst q
      exact Or.inr ⟨hy.symm.trans h2, hz.symm.trans h3⟩
    · exact Or.inl ⟨i, by omega, h2, h3⟩
theorem sp_Magainst {σ0 σ : Sg} {n n' : Nat} {vd vd' : Nat → Nat} {b : BQ2} {a1 a2 a3 : Bool} {Q : Int32 → Sg → Prop} (hn : n ≤ 60) (hn' : n' ≤ 60) (hW : Wb n n' 3601 b) (hR : RMm σ0 σ b) (h72 : ∀ s, s < n → gA σ 72 s = bI (decide (vd s % 2 = 1))) (h83 : ∀ s, s < n' → gA σ 83 s = bI (decide (vd' s % 2 = 1))) (h1 : a1 = true ↔ Flb (fun s => decide (vd s % 2 = 1)) (fun s => decide (vd' s % 2 = 1)) true true b) (h2 : a2 = true ↔ Flb (fun s => decide (vd s % 2 = 1)) (fun s => decide (vd' s % 2 = 1)) true false b) (h3 : a3 = true ↔ Flb (fun s => decide (vd s % 2 = 1)) (fun s => decide (vd' s % 2 = 1)) false true b) (h : Q (rlt a1 a2 a3) σ) : ∃ f, wl_X9_against_30 (fun z1 z2 z3 σ9 => wp_X9_against_139 z1 z2 z3 Q σ9) Q f (nI 0) (nI 0) (nI 0) (nI 0) σ := by
  have hl := hW.len hn
  refine lq3 (fun f k (x y z : Bool) => wl_X9_against_30 (fun z1 z2 z3 σ9 => wp_X9_against_139 z1 z2 z3 Q σ9) Q f (bI x) (bI y) (bI z) (nI k) σ) (fun k x y z => (x = true ↔ Flk (fun s => decide (vd s % 2 = 1)) (fun s => decide (vd' s % 2 = 1)) true true b k) ∧ (y = true ↔ Flk (fun s => decide (vd s % 2 = 1)) (fun s => decide (vd' s % 2 = 1)) true false b k) ∧ (z = true ↔ Flk (fun s => decide (vd s % 2 = 1)) (fun s => decide (vd' s % 2 = 1)) false true b k)) b.1 ?_ ?_ false false false ?_
  · intro f x y z ⟨e1, e2, e3⟩
    show wb_X9_against_30 _ _ _ _ _ _ _ _
    unfold wb_X9_against_30
    rw [hR.2.2.1]
    refine pk_le b.1 b.1 (fun _ => ?_) (fun z => by omega)
    have q1 : x = a1 := by have := e1.trans h1.symm; cases x <;> cases a1 <;> simp_all
    have q2 : y = a2 := by have := e2.trans h2.symm; cases y <;> cases a2 <;> simp_all
    have q3 : z = a3 := by have := e3.trans h3.symm; cases z <;> cases a3 <;> simp_all
    rw [q1, q2, q3]
    exact sp_Mrel h
  · intro f k x y z hk ⟨e1, e2, e3⟩ hs2
    show wb_X9_against_30 _ _ _ _ _ _ _ _
    have hb := hW.1 k hk
    obtain ⟨q1, q2⟩ := hR.2.2.2.1 k hk
    unfold wb_X9_against_30
    rw [hR.2.2.1, nI_clamp (by omega), q1, iDIV60 (by omega), iREM60 (by omega), nI_clamp (by omega), nI_clamp (by omega), h72 _ hb.1, h83 _ hb.2.1]
    refine pk_le b.1 k (fun z => by omega) (fun _ => ⟨vp_in_nI (by show k < 3600; omega) (by decide), vp_in_nI (by show _ < 60; omega) (by decide), ?_⟩)
    intro x5 e5
    refine ⟨vp_in_nI (by show k < 3600; omega) (by decide), vp_in_nI (by show _ < 60; omega) (by decide), ?_⟩
    intro x6 e6
    subst e5 e6
    generalize hA : decide (vd (b.2.1 k / 60) % 2 = 1) = A
    generalize hB : decide (vd' (b.2.1 k % 60) % 2 = 1) = B
    have s1 : ∀ w, w = (x || ((A == true) && (B == true))) → _ := fun w hw => Flk_succ (w := w) e1 hA hB hw
    have s2 : ∀ w, w = (y || ((A == true) && (B == false))) → _ := fun w hw => Flk_succ (w := w) e2 hA hB hw
    have s3 : ∀ w, w = (z || ((A == false) && (B == true))) → _ := fun w hw => Flk_succ (w := w) e3 hA hB hw
    have t3 : ∀ x' y', (x' = true ↔ Flk (fun s => decide (vd s % 2 = 1)) (fun s => decide (vd' s % 2 = 1)) true true b (k + 1)) → (y' = true ↔ Flk (fun s => decide (vd s % 2 = 1)) (fun s => decide (vd' s % 2 = 1)) true false b (k + 1)) → wp_X9_against_112 (bI x') (bI z) (nI k) (bI A) (bI B) (bI y') (wl_X9_against_30 (fun z1 z2 z3 σ9 => wp_X9_against_139 z1 z2 z3 Q σ9) Q f) Q σ := by
      intro x' y' hx' hy'
      have fin : ∀ w : Bool, w = (z || ((A == false) && (B == true))) → wp_X9_against_132 (bI x') (bI y') (nI k) (bI w) (wl_X9_against_30 (fun z1 z2 z3 σ9 => wp_X9_against_139 z1 z2 z3 Q σ9) Q f) Q σ := by
        intro w hw x ex
        rw [ex, nI_add]
        exact hs2 x' y' w ⟨hx', hy', s3 w hw⟩
      refine bI_rb (fun q => fin true (by rw [q]; rfl)) (fun q => bI_rb (fun r => fin false (by rw [q, r]; rfl)) (fun r => bI_br (fun t => fin false (by rw [q, r, t]; rfl)) (fun t => fin true (by rw [q, r, t]; rfl))))
    have t2 : ∀ x', (x' = true ↔ Flk (fun s => decide (vd s % 2 = 1)) (fun s => decide (vd' s % 2 = 1)) true true b (k + 1)) → wp_X9_against_92 (bI y) (bI z) (nI k) (bI A) (bI B) (bI x') (wl_X9_against_30 (fun z1 z2 z3 σ9 => wp_X9_against_139 z1 z2 z3 Q σ9) Q f) Q σ := by
      intro x' hx'
      have fin : ∀ w : Bool, w = (y || ((A == true) && (B == false))) → wp_X9_against_112 (bI x') (bI z) (nI k) (bI A) (bI B) (bI w) (wl_X9_against_30 (fun z1 z2 z3 σ9 => wp_X9_against_139 z1 z2 z3 Q σ9) Q f) Q σ := fun w hw => t3 x' w hx' (s2 w hw)
      refine bI_rb (fun q => fin true (by rw [q]; rfl)) (fun q => bI_br (fun r => fin false (by rw [q, r]; rfl)) (fun r => bI_rb (fun t => fin false (by rw [q, r, t]; rfl)) (fun t => fin true (by rw [q, r, t]; rfl))))
    have fin : ∀ w : Bool, w = (x || ((A == true) && (B == true))) → wp_X9_against_92 (bI y) (bI z) (nI k) (bI A) (bI B) (bI w) (wl_X9_against_30 (fun z1 z2 z3 σ9 => wp_X9_against_139 z1 z2 z3 Q σ9) Q f) Q σ := fun w hw => t2 w (s1 w hw)
    exact bI_rb (fun q => fin true (by rw [q]; rfl)) (fun q => bI_br (fun r => fin false (by rw [q, r]; rfl)) (fun r => bI_br (fun t => fin false (by rw [q, r, t]; rfl)) (fun t => fin true (by rw [q, r, t]; rfl))))
  · refine ⟨?_, ?_, ?_⟩ <;> exact ⟨fun z => Bool.noConfusion z, fun ⟨i, hi, _⟩ => absurd hi (Nat.not_lt_zero i)⟩
/-- the guards of both calls -/
theorem sp_both {σ : Sg} {n n' : Nat} {A B : Prop} (h38 : gF σ 10 38 = bI (decide (0 < n))) (h51 : gF σ 10 51 = bI (decide (0 < n'))) (hb : ¬ (0 < n ∧ 0 < n') → B) (ha : 0 < n → 0 < n' → A) : (gF σ 10 38 = nI 0 → B) ∧ (¬ gF σ 10 38 = nI 0 → ((¬ gF σ 10 51 = nI 0 → A) ∧ (gF σ 10 51 = nI 0 → B))) := by
  rw [h38, h51]
  refine bI_br (fun z => hb (fun w => ?_)) (fun z => bI_rb (fun y => ha (of_decide_eq_true z) (of_decide_eq_true y)) (fun y => hb (fun w => ?_)))
  · exact absurd w.1 (of_decide_eq_false z)
  · exact absurd w.2 (of_decide_eq_false y)
theorem op_against : Both wp_X8_against wp_X9_against := by
  intro σ I
  obtain ⟨nb, tp, n, to, vd, ds, mk, n', to', vd', hT, hF, hM, hX, hO, hK, hXk, hMk, hL⟩ := id I
  have hT' : Tb n' to' := ⟨hXk.2.1, fun s hs e he => ((hXk.2.2 s hs).2.2 e he).2⟩
  have neg : ¬ (0 < n ∧ 0 < n') → wp_X9_against σ (fun r' σ2 => (-3 : Int32) = r' ∧ Inv σ2) := fun hn => sp_both hO.2.1 hMk.1 (fun _ => ⟨rfl, I⟩) (fun a b => absurd ⟨a, b⟩ hn)
  refine sp_isThere hX.1 hM.1 (bI_br (fun z => neg (fun w => absurd w.1 (of_decide_eq_false z))) (fun z => sp_isTherek hXk.1 hXk.2.1 (bI_rb (fun y => ?_) (fun y => neg (fun w => absurd w.2 (of_decide_eq_false y))))))
  have h0 : 0 < n := of_decide_eq_true z
  have h0' : 0 < n' := of_decide_eq_true y
  refine sp_meetX hM hX hXk h0 h0' (fun σ1 hR hW => ?_)
  obtain ⟨fr, _, _, _, ⟨v3, i3, j3⟩, ⟨v4, i4, j4⟩, ⟨v5, i5, j5⟩, _⟩ := hR
  refine sp_relation i3 i4 i5 ?_
  have hO1 : PMo σ1 n to vd := hO.fr (fr.F (by decide)) (fr.A (by decide)) (fr.A (by decide)) (fr.A (by decide))
  have hMk1 : PMk σ1 n' to' vd' := hMk.fr (fr.F (by decide)) (fr.A (by decide)) (fr.A (by decide))
  refine sp_both hO1.2.1 hMk1.1 (fun w => absurd ⟨h0, h0'⟩ w) (fun _ _ => sp_pairUp hM hO1 hT' hMk1 h0 h0' (fun σ2 hR2 hW2 => ?_))
  refine sp_Magainst hM.1 hXk.2.1 hW2 hR2 (fun s hs => by rw [hR2.1.A (by decide)]; exact (hO1.2.2 s hs).2.1) (fun s hs => by rw [hR2.1.A (by decide)]; exact (hMk1.2 s hs).1) j3 j4 j5 ⟨rfl, ?_⟩
  exact inv_m ((fr.mono (by simp) (by simp)).tr (hR2.1.mono (by simp) (by simp))) (fun k hk => by rw [hR2.2.1 k hk, fr.F (by decide)]) hT hF hM hX hO hK hXk hMk hL
theorem op_apart : Both wp_X8_apart wp_X9_apart := by
  intro σ I
  obtain ⟨nb, tp, n, to, vd, ds, mk, n', to', vd', hT, hF, hM, hX, hO, hK, hXk, hMk, hL⟩ := id I
  have hn := hM.1
  have hn' := hXk.2.1
  have hT' : Tb n' to' := ⟨hXk.2.1, fun s hs e he => ((hXk.2.2 s hs).2.2 e he).2⟩
  have neg : ¬ (0 < n ∧ 0 < n') → wp_X9_apart σ (fun r' σ2 => (-3 : Int32) = r' ∧ Inv σ2) := fun hn => sp_both hO.2.1 hMk.1 (fun _ => ⟨rfl, I⟩) (fun a b => absurd ⟨a, b⟩ hn)
  refine sp_isThere hX.1 hM.1 (bI_br (fun z => neg (fun w => absurd w.1 (of_decide_eq_false z))) (fun z => sp_isTherek hXk.1 hXk.2.1 (bI_rb (fun y => ?_) (fun y => neg (fun w => absurd w.2 (of_decide_eq_false y))))))
  have h0 : 0 < n := of_decide_eq_true z
  have h0' : 0 < n' := of_decide_eq_true y
  refine sp_meetX hM hX hXk h0 h0' (fun σ1 hR hW => ?_)
  obtain ⟨fr, _, _, _, _, _, _, hsh⟩ := hR
  unfold wp_X3_shortestApart
  generalize gF σ1 8 6 = r at hsh
  have hO1 : PMo σ1 n to vd := hO.fr (fr.F (by decide)) (fr.A (by decide)) (fr.A (by decide)) (fr.A (by decide))
  have hMk1 : PMk σ1 n' to' vd' := hMk.fr (fr.F (by decide)) (fr.A (by decide)) (fr.A (by decide))
  refine sp_both hO1.2.1 hMk1.1 (fun w => absurd ⟨h0, h0'⟩ w) (fun _ _ => sp_pairUp hM hO1 hT' hMk1 h0 h0' (fun σ2 hR2 hW2 => ?_))
  have hI : Inv σ2 := inv_m ((fr.mono (by simp) (by simp)).tr (hR2.1.mono (by simp) (by simp))) (fun k hk => by rw [hR2.2.1 k hk, fr.F (by decide)]) hT hF hM hX hO hK hXk hMk hL
  have hl := hW2.len hM.1
  have h72 : ∀ s, s < n → gA σ2 72 s = bI (decide (vd s % 2 = 1)) := fun s hs => by rw [hR2.1.A (by decide)]; exact (hO1.2.2 s hs).2.1
  have h83 : ∀ s, s < n' → gA σ2 83 s = bI (decide (vd' s % 2 = 1)) := fun s hs => by rw [hR2.1.A (by decide)]; exact (hMk1.2 s hs).1
  generalize BFq to to' = b at hsh hR2 hW2 hl
  have hbi : ∀ u v : Bool, bI u = bI v ↔ u = v := fun u v => by cases u <;> cases v <;> decide
  -- one look
  have look : ∀ k, k < b.1 → ∀ (K : Int32 → Sg → Prop) (K2 : Int32 → Sg → Prop) (P : Int32 → Sg → Prop), (decide (vd (b.2.1 k / 60) % 2 = 1) = decide (vd' (b.2.1 k % 60) % 2 = 1) → K (nI (k + 1)) σ2) → (¬ decide (vd (b.2.1 k / 60) % 2 = 1) = decide (vd' (b.2.1 k % 60) % 2 = 1) → K2 (nI k) σ2) → wb_X9_apart_23 (nI k) K K2 P σ2 := by
    intro k hk K K2 P hy hn
    have hb := hW2.1 k hk
    obtain ⟨q1, q2⟩ := hR2.2.2.2.1 k hk
    unfold wb_X9_apart_23
    rw [hR2.2.2.1, nI_clamp (by omega), q1, iDIV60 (by omega), iREM60 (by omega), nI_clamp (by omega), nI_clamp (by omega), h72 _ hb.1, h83 _ hb.2.1, hbi]
    refine pk_le b.1 k (fun z => by omega) (fun _ => ⟨vp_in_nI (by show k < 3600; omega) (by decide), vp_in_nI (by show _ < 60; omega) (by decide), vp_in_nI (by show k < 3600; omega) (by decide), vp_in_nI (by show _ < 60; omega) (by decide), fun e => ?_, fun e => hn e⟩)
    intro x ex
    rw [ex, nI_add]
    exact hy e
  rcases hsh with ⟨i, h1, h2, h3, h4⟩ | ⟨h1, h2⟩
  · refine loop_0 (σ := Unit) (fun f k _ => wl_X9_apart_23 (fun z1 σ9 => wp_X9_apart_62 z1 _ σ9) _ f (nI k) σ2) (fun _ _ => True) i () trivial ?_ ?_
    · intro f _ _
      show wb_X9_apart_23 _ _ _ _ _
      refine look i h1 _ _ _ (fun e => absurd e h2) (fun _ => ?_)
      refine ⟨vp_in_nI (by show i < 3600; omega) (by decide), ?_, hI⟩
      rw [nI_clamp (by omega), (hR2.2.2.2.1 i h1).2]; exact h4
    · intro f k _ hk _ hs2
      show wb_X9_apart_23 _ _ _ _ _
      exact look k (by omega) _ _ _ (fun _ => hs2 () trivial) (fun e => absurd (h3 k hk) e)
  · refine loop_0 (σ := Unit) (fun f k _ => wl_X9_apart_23 (fun z1 σ9 => wp_X9_apart_62 z1 _ σ9) _ f (nI k) σ2) (fun _ _ => True) b.1 () trivial ?_ ?_
    · intro f _ _
      show wb_X9_apart_23 _ _ _ _ _
      unfold wb_X9_apart_23
      rw [hR2.2.2.1]
      exact pk_le b.1 b.1 (fun _ => ⟨h2, hI⟩) (fun z => by omega)
    · intro f k _ hk _ hs2
      show wb_X9_apart_23 _ _ _ _ _
      exact look k hk _ _ _ (fun _ => hs2 () trivial) (fun e => absurd (h1 k hk) e)
