/-! ===== two machines walked together ===== -/
abbrev BQ2 := Nat × (Nat → Nat) × (Nat → Nat)
def bad (b : BQ2) (p d : Nat) : BQ2 := if ∃ i, i < b.1 ∧ b.2.1 i = p then b else (b.1 + 1, (fun i => if i = b.1 then p else b.2.1 i), (fun i => if i = b.1 then d else b.2.2 i))
def bwk (to to' : Nat → Nat → Nat) (b : BQ2) (p d : Nat) : Nat → BQ2
  | 0 => b
  | e + 1 => bad (bwk to to' b p d e) (to (p / 60) e * 60 + to' (p % 60) e) d
def bqu (to to' : Nat → Nat → Nat) : Nat → Nat → BQ2 → BQ2
  | 0, _, b => b
  | f + 1, i, b => if i < b.1 then bqu to to' f (i + 1) (bwk to to' b (b.2.1 i) (b.2.2 i + 1) 4) else b
def Wb (n n' m : Nat) (b : BQ2) : Prop := (∀ i, i < b.1 → b.2.1 i / 60 < n ∧ b.2.1 i % 60 < n' ∧ b.2.2 i ≤ m) ∧ ∀ i j, i < j → j < b.1 → b.2.1 i ≠ b.2.1 j
theorem Wb.len {n n' m : Nat} {b : BQ2} (hn : n ≤ 60) (h : Wb n n' m b) : b.1 ≤ 3600 := fb_holes 3600 b.1 b.2.1 (fun i hi => by have := (h.1 i hi).1; omega) h.2
theorem Wb.mono {n n' m m' : Nat} {b : BQ2} (h : Wb n n' m b) (hm : m ≤ m') : Wb n n' m' b := ⟨fun i hi => ⟨(h.1 i hi).1, (h.1 i hi).2.1, Nat.le_trans (h.1 i hi).2.2 hm⟩, h.2⟩
theorem wb2_bad {n n' m p d : Nat} {b : BQ2} (h : Wb n n' m b) (h1 : p / 60 < n) (h2 : p % 60 < n') (hd : d ≤ m) : Wb n n' m (bad b p d) := by
  unfold bad
  split
  · exact h
  · rename_i hne
    refine ⟨fun i hi => ?_, fun i j hij hj => ?_⟩
    · by_cases q : i = b.1
      · simp only [if_pos q]; exact ⟨h1, h2, hd⟩
      · simp only [if_neg q]; exact h.1 i (by simp only at hi; omega)
    · simp only at hj
      by_cases q : j = b.1
      · simp only [if_pos q, if_neg (show ¬ i = b.1 by omega)]
        exact fun e => hne ⟨i, by omega, e⟩
      · simp only [if_neg q, if_neg (show ¬ i = b.1 by omega)]
        exact h.2 i j hij (by omega)
def Tb (n : Nat) (to : Nat → Nat → Nat) : Prop := n ≤ 60 ∧ ∀ s, s < n → ∀ e, e < 4 → to s e < n
theorem pq {x y : Nat} (h : y < 60) : (x * 60 + y) / 60 = x ∧ (x * 60 + y) % 60 = y := by omega
theorem wb2_bwk {n n' m p d : Nat} {to to' : Nat → Nat → Nat} {b : BQ2} (h : Wb n n' m b) (ht : Tb n to) (ht' : Tb n' to') (h1 : p / 60 < n) (h2 : p % 60 < n') (hd : d ≤ m) : ∀ e, e ≤ 4 → Wb n n' m (bwk to to' b p d e)
  | 0, _ => h
  | e + 1, he => by
    have l1 := ht.2 _ h1 e (by omega)
    have l2 := ht'.2 _ h2 e (by omega)
    have := ht'.1
    have q := pq (x := to (p / 60) e) (y := to' (p % 60) e) (by omega)
    exact wb2_bad (wb2_bwk h ht ht' h1 h2 hd e (by omega)) (by rw [q.1]; exact l1) (by rw [q.2]; exact l2) hd
theorem bad_old {b : BQ2} {p d i : Nat} (h : i < b.1) : i < (bad b p d).1 ∧ (bad b p d).2.1 i = b.2.1 i ∧ (bad b p d).2.2 i = b.2.2 i := by
  unfold bad
  split
  · exact ⟨h, rfl, rfl⟩
  · simp only [if_neg (show ¬ i = b.1 by omega)]
    exact ⟨by omega, trivial, trivial⟩
theorem bwk_old {to to' : Nat → Nat → Nat} {b : BQ2} {p d i : Nat} (h : i < b.1) : ∀ e, i < (bwk to to' b p d e).1 ∧ (bwk to to' b p d e).2.1 i = b.2.1 i ∧ (bwk to to' b p d e).2.2 i = b.2.2 i
  | 0 => ⟨h, rfl, rfl⟩
  | e + 1 => by
    have h1 := bwk_old (to := to) (to' := to') (p := p) (d := d) h e
    have h2 := bad_old (p := to (p / 60) e * 60 + to' (p % 60) e) (d := d) h1.1
    exact ⟨h2.1, h2.2.1.trans h1.2.1, h2.2.2.trans h1.2.2⟩
-- the class's look
def lk (va vb : Bool) (d : Int32) (σ : Sg) : Sg :=
  let σ1 := stF σ 8 3 (gF σ 8 3 ||| bI (va && vb))
  let σ2 := stF σ1 8 4 (gF σ1 8 4 ||| bI (va && !vb))
  let σ3 := stF σ2 8 5 (gF σ2 8 5 ||| bI (vb && !va))
  if va ≠ vb ∧ gF σ3 8 6 = -9 then stF σ3 8 6 d else σ3
theorem sp_look62 {va vb x f : Bool} {d : Int32} {σ : Sg} {Q : Sg → Prop} (hf : gF σ 8 5 = bI f) (h : Q (if va ≠ vb ∧ gF (stF σ 8 5 (gF σ 8 5 ||| bI x)) 8 6 = -9 then stF (stF σ 8 5 (gF σ 8 5 ||| bI x)) 8 6 d else stF σ 8 5 (gF σ 8 5 ||| bI x))) : wp_X3_look_62 (bI va) (bI vb) d (bI x) (gF σ 8 5) Q σ := by
  refine ⟨by rw [hf, bI_or]; exact bI_bl _, ?_⟩
  intro σ1 e1
  rw [← e1] at h
  have heq : bI va = bI vb ↔ va = vb := by cases va <;> cases vb <;> decide
  rw [heq]
  refine ⟨fun z => ?_, fun z => ⟨fun y => ?_, fun y σ2 e2 => ?_⟩⟩
  · rw [if_neg (fun w => w.1 z)] at h; exact h
  · rw [if_neg (fun w => y w.2)] at h; exact h
  · rw [if_pos ⟨z, y⟩] at h; rw [e2]; exact h
theorem sp_look {va vb f3 f4 f5 : Bool} {d : Int32} {σ : Sg} {Q : Sg → Prop} (h3 : gF σ 8 3 = bI f3) (h4 : gF σ 8 4 = bI f4) (h5 : gF σ 8 5 = bI f5) (h : Q (lk va vb d σ)) : wp_X3_look (bI va) (bI vb) d σ Q := by
  -- the last two
  have c : ∀ x y : Bool, x = (va && !vb) → y = (vb && !va) → ∀ σ1, gF σ1 8 4 = bI f4 → gF σ1 8 5 = bI f5 → Q (if va ≠ vb ∧ gF (stF (stF σ1 8 4 (gF σ1 8 4 ||| bI x)) 8 5 (gF (stF σ1 8 4 (gF σ1 8 4 ||| bI x)) 8 5 ||| bI y)) 8 6 = -9 then stF (stF (stF σ1 8 4 (gF σ1 8 4 ||| bI x)) 8 5 (gF (stF σ1 8 4 (gF σ1 8 4 ||| bI x)) 8 5 ||| bI y)) 8 6 d else stF (stF σ1 8 4 (gF σ1 8 4 ||| bI x)) 8 5 (gF (stF σ1 8 4 (gF σ1 8 4 ||| bI x)) 8 5 ||| bI y)) → wp_X3_look_40 (bI va) (bI vb) d (bI x) (gF σ1 8 4) Q σ1 := by
    intro x y hx hy σ1 g4 g5 hQ
    refine ⟨by rw [g4, bI_or]; exact bI_bl _, ?_⟩
    intro σ2 e2
    rw [← e2] at hQ
    have g5' : gF σ2 8 5 = bI f5 := by rw [e2, gF_stF, if_pos rfl, if_neg (by decide)]; exact g5
    have go := sp_look62 (va := va) (vb := vb) (x := y) (d := d) (Q := Q) g5' hQ
    refine bI_br (fun z => ?_) (fun z => bI_rb (fun w => ?_) (fun w => ?_))
    · rw [hy, z, Bool.false_and] at go; rw [z]; exact go
    · rw [hy, z, w] at go; rw [z, w]; exact go
    · rw [hy, z, w] at go; rw [z, w]; exact go
  have b : ∀ x : Bool, x = (va && vb) → wp_X3_look_18 (bI va) (bI vb) d (bI x) (gF σ 8 3) Q σ := by
    intro x hx
    refine ⟨by rw [h3, bI_or]; exact bI_bl _, ?_⟩
    intro σ1 e1
    have hQ : Q (lk va vb d σ) := h
    unfold lk at hQ
    rw [← hx] at hQ
    simp only [] at hQ
    rw [← e1] at hQ
    have g4 : gF σ1 8 4 = bI f4 := by rw [e1, gF_stF, if_pos rfl, if_neg (by decide)]; exact h4
    have g5 : gF σ1 8 5 = bI f5 := by rw [e1, gF_stF, if_pos rfl, if_neg (by decide)]; exact h5
    have go := c (va && !vb) (vb && !va) rfl rfl σ1 g4 g5 hQ
    refine bI_br (fun z => ?_) (fun z => bI_rb (fun w => ?_) (fun w => ?_))
    · rw [z] at go ⊢; exact go
    · rw [z, w] at go ⊢; exact go
    · rw [z, w] at go ⊢; exact go
  have go := b _ rfl
  refine bI_br (fun z => ?_) (fun z => bI_br (fun w => ?_) (fun w => ?_))
  · rw [z] at go ⊢; exact go
  · rw [z, w] at go ⊢; exact go
  · rw [z, w] at go ⊢; exact go
theorem lk_rd {va vb f3 f4 f5 : Bool} {d : Int32} {σ : Sg} (h3 : gF σ 8 3 = bI f3) (h4 : gF σ 8 4 = bI f4) (h5 : gF σ 8 5 = bI f5) : Fr [8] [] σ (lk va vb d σ) ∧ gF (lk va vb d σ) 8 2 = gF σ 8 2 ∧ gF (lk va vb d σ) 8 3 = bI (f3 || (va && vb)) ∧ gF (lk va vb d σ) 8 4 = bI (f4 || (va && !vb)) ∧ gF (lk va vb d σ) 8 5 = bI (f5 || (vb && !va)) ∧ gF (lk va vb d σ) 8 6 = if va ≠ vb ∧ gF σ 8 6 = -9 then d else gF σ 8 6 := by
  have hfr : Fr [8] [] σ (lk va vb d σ) := by
    unfold lk
    simp only []
    split
    · exact (((Fr.rf.stF (by simp)).stF (by simp)).stF (by simp)).stF (by simp)
    · exact ((Fr.rf.stF (by simp)).stF (by simp)).stF (by simp)
  refine ⟨hfr, ?_⟩
  unfold lk
  simp only [gF_stF, if_true, show ¬ (4 : Nat) = 3 by decide, show ¬ (5 : Nat) = 3 by decide, show ¬ (5 : Nat) = 4 by decide, show ¬ (6 : Nat) = 3 by decide, show ¬ (6 : Nat) = 4 by decide, show ¬ (6 : Nat) = 5 by decide, if_false]
  rw [h3, h4, h5, bI_or, bI_or, bI_or]
  split <;> simp [gF_stF]
