/-! ===== read: what a parse is ===== -/
abbrev NdT := Nat × Option Nat × Option Nat × Nat
abbrev PWt := List (Nat × Nat)
abbrev PSt := Nat × Nat × Bool × List NdT × List Nat × PWt
def pfx (c : Nat) : Bool := c == 33 || c == 78 || c == 87 || c == 71 || c == 70 || c == 89 || c == 72 || c == 79
def rnk (c : Nat) : Nat := if c = 85 ∨ c = 83 then 4 else if c = 38 then 3 else if c = 47 then 2 else if c = 62 then 1 else 0
def ltr (c : Nat) : Bool := (decide (97 ≤ c) && decide (c ≤ 100)) || c == 46
def rnode (nd : List NdT) (op : List Nat) (c w : Nat) : List NdT × List Nat := if pfx c = true then ((c, op.head?, none, w) :: nd, nd.length :: op.tail) else ((c, op.tail.head?, op.head?, w) :: nd, nd.length :: op.tail.tail)
def rdb (own c : Nat) : Bool := !(c == 40) && (decide (own < rnk c) || (decide (rnk c = own) && !(own == 4 || own == 1)))
def rdt (own : Nat) : PWt → List NdT → List Nat → List NdT × List Nat × PWt
  | [], nd, op => (nd, op, [])
  | (c, w) :: wt, nd, op => if rdb own c = true then rdt own wt (rnode nd op c w).1 (rnode nd op c w).2 else (nd, op, (c, w) :: wt)
def rdp : PWt → List NdT → List Nat → List NdT × List Nat × PWt
  | [], nd, op => (nd, op, [])
  | (c, w) :: wt, nd, op => if pfx c = true then rdp wt (rnode nd op c w).1 (rnode nd op c w).2 else (nd, op, (c, w) :: wt)
def rda : PWt → List NdT → List Nat → List NdT × List Nat
  | [], nd, op => (nd, op)
  | (c, w) :: wt, nd, op => rda wt (rnode nd op c w).1 (rnode nd op c w).2
def mayb (c opn : Nat) (wanted : Bool) : Bool := if wanted = true then ltr c || pfx c || (c == 40 && decide (opn ≤ 7)) else decide (0 < rnk c) || (c == 41 && decide (0 < opn))
def markb (c : Nat) : Bool := ltr c || pfx c || decide (0 < rnk c)
def pstp (k c : Nat) (s : PSt) : Option PSt :=
  if c = 32 then some s
  else if mayb c s.2.1 s.2.2.1 = false ∨ 9 < s.1 + (if markb c = true then 1 else 0) then none
  else if ltr c = true then some (s.1 + 1, s.2.1, false, rdp s.2.2.2.2.2 ((c, none, none, k) :: s.2.2.2.1) (s.2.2.2.1.length :: s.2.2.2.2.1))
  else if c = 41 then some (s.1, s.2.1 - 1, s.2.2.1, rdp (rdt 0 s.2.2.2.2.2 s.2.2.2.1 s.2.2.2.2.1).2.2.tail (rdt 0 s.2.2.2.2.2 s.2.2.2.1 s.2.2.2.2.1).1 (rdt 0 s.2.2.2.2.2 s.2.2.2.1 s.2.2.2.2.1).2.1)
  else if 0 < rnk c then some (s.1 + 1, s.2.1, true, (rdt (rnk c) s.2.2.2.2.2 s.2.2.2.1 s.2.2.2.2.1).1, (rdt (rnk c) s.2.2.2.2.2 s.2.2.2.1 s.2.2.2.2.1).2.1, (c, k) :: (rdt (rnk c) s.2.2.2.2.2 s.2.2.2.1 s.2.2.2.2.1).2.2)
  else some (s.1 + (if markb c = true then 1 else 0), s.2.1 + (if c = 40 then 1 else 0), true, s.2.2.2.1, s.2.2.2.2.1, (c, k) :: s.2.2.2.2.2)
def prn (tp : Nat → Nat) (nb : Nat) : Nat → PSt → Nat ⊕ List NdT
  | 0, s => if s.2.2.1 = true ∨ 0 < s.2.1 then .inl nb else .inr (rdt 0 s.2.2.2.2.2 s.2.2.2.1 s.2.2.2.2.1).1
  | f + 1, s => match pstp (nb - (f + 1)) (tp (nb - (f + 1))) s with
    | none => .inl (nb - (f + 1))
    | some s' => prn tp nb f s'
def PR (tp : Nat → Nat) (nb k : Nat) (s : PSt) : Nat ⊕ List NdT := prn tp nb (nb - k) s
theorem PR_step {tp : Nat → Nat} {nb k : Nat} {s s' : PSt} (hk : k < nb) (h : pstp k (tp k) s = some s') : PR tp nb k s = PR tp nb (k + 1) s' := by
  unfold PR
  obtain ⟨f, hf⟩ : ∃ f, nb - k = f + 1 := ⟨nb - k - 1, by omega⟩
  have e1 : nb - (f + 1) = k := by omega
  have e2 : nb - (k + 1) = f := by omega
  rw [hf, e2]
  show (match pstp (nb - (f + 1)) (tp (nb - (f + 1))) s with | none => Sum.inl (nb - (f + 1)) | some s' => prn tp nb f s') = _
  rw [e1, h]
theorem PR_fail {tp : Nat → Nat} {nb k : Nat} {s : PSt} (hk : k < nb) (h : pstp k (tp k) s = none) : PR tp nb k s = .inl k := by
  unfold PR
  obtain ⟨f, hf⟩ : ∃ f, nb - k = f + 1 := ⟨nb - k - 1, by omega⟩
  have e1 : nb - (f + 1) = k := by omega
  rw [hf]
  show (match pstp (nb - (f + 1)) (tp (nb - (f + 1))) s with | none => Sum.inl (nb - (f + 1)) | some s' => prn tp nb f s') = _
  rw [e1, h]
theorem PR_end {tp : Nat → Nat} {nb : Nat} {s : PSt} : PR tp nb nb s = if s.2.2.1 = true ∨ 0 < s.2.1 then .inl nb else .inr (rdt 0 s.2.2.2.2.2 s.2.2.2.1 s.2.2.2.2.1).1 := by
  unfold PR
  rw [Nat.sub_self]
  rfl
-- what holds of a state
def pend : PWt → Nat
  | [] => 0
  | x :: wt => (if x.1 = 40 then 0 else 1) + pend wt
def parn : PWt → Nat
  | [] => 0
  | x :: wt => (if x.1 = 40 then 1 else 0) + parn wt
def binn : PWt → Nat
  | [] => 0
  | x :: wt => (if x.1 = 40 ∨ pfx x.1 = true then 0 else 1) + binn wt
def kids : List NdT → List Nat
  | [] => []
  | x :: nd => x.2.1.toList ++ (x.2.2.1.toList ++ kids nd)
def futS (c : Nat) : Bool := c == 78 || c == 87 || c == 71 || c == 70 || c == 85
def pasS (c : Nat) : Bool := c == 89 || c == 72 || c == 79 || c == 83
def cbt : List NdT → Nat
  | [] => 0
  | x :: nd => (if futS x.1 || pasS x.1 then 1 else 0) + cbt nd
def kidsLt : List NdT → Prop
  | [] => True
  | x :: nd => (∀ l, x.2.1 = some l → l < nd.length) ∧ (∀ l, x.2.2.1 = some l → l < nd.length) ∧ x.1 < 256 ∧ x.2.2.2 < 60 ∧ kidsLt nd
def FTr (nd : List NdT) (op : List Nat) : Prop := ∀ x, op.count x + (kids nd).count x ≤ if x < nd.length then 1 else 0
def Gnd (nd : List NdT) (op : List Nat) : Prop := FTr nd op ∧ kidsLt nd ∧ (nd ≠ [] → cbt nd + 1 ≤ nd.length)
theorem Gnd_leaf {nd : List NdT} {op : List Nat} {c w : Nat} (h : Gnd nd op) (hc : c < 256) (hw : w < 60) (hl : futS c = false ∧ pasS c = false) : Gnd ((c, none, none, w) :: nd) (nd.length :: op) := by
  obtain ⟨h1, h2, h3⟩ := h
  refine ⟨fun x => ?_, ⟨fun l e => (by cases e), fun l e => (by cases e), hc, hw, h2⟩, fun _ => ?_⟩
  · have := h1 x
    show List.count x (nd.length :: op) + List.count x (kids nd) ≤ _
    rw [List.count_cons]
    simp only [List.length_cons, beq_iff_eq]
    split at this <;> split <;> split <;> omega
  · show (if futS c || pasS c then 1 else 0) + cbt nd + 1 ≤ nd.length + 1
    rw [hl.1, hl.2]
    by_cases q : nd = []
    · rw [q]; decide
    · have := h3 q
      simp only [Bool.or_self, Bool.false_eq_true, if_false]
      omega
theorem Gnd_ne {nd : List NdT} {op : List Nat} {b : Nat} (h : Gnd nd (b :: op)) : b < nd.length := by
  have := h.1 b
  rw [List.count_cons_self] at this
  split at this
  · assumption
  · omega
theorem Gnd_pre {nd : List NdT} {op : List Nat} {c w b : Nat} (h : Gnd nd (b :: op)) (hc : c < 256) (hw : w < 60) : Gnd ((c, some b, none, w) :: nd) (nd.length :: op) := by
  have hb := Gnd_ne h
  obtain ⟨h1, h2, h3⟩ := h
  refine ⟨fun x => ?_, ⟨fun l e => ?_, fun l e => (by cases e), hc, hw, h2⟩, fun _ => ?_⟩
  · have := h1 x
    show List.count x (nd.length :: op) + List.count x (b :: kids nd) ≤ _
    rw [List.count_cons] at this
    rw [List.count_cons, List.count_cons]
    simp only [List.length_cons, beq_iff_eq] at this ⊢
    split at this <;> split at this <;> split <;> split <;> omega
  · cases e; exact hb
  · have hne : nd ≠ [] := by intro e; rw [e] at hb; exact absurd hb (Nat.not_lt_zero _)
    have := h3 hne
    show (if futS c || pasS c then 1 else 0) + cbt nd + 1 ≤ nd.length + 1
    split <;> omega
theorem Gnd_bin {nd : List NdT} {op : List Nat} {c w a b : Nat} (h : Gnd nd (b :: a :: op)) (hc : c < 256) (hw : w < 60) : Gnd ((c, some a, some b, w) :: nd) (nd.length :: op) := by
  have hb := Gnd_ne h
  obtain ⟨h1, h2, h3⟩ := h
  have ha : a < nd.length := by
    have := h1 a
    rw [List.count_cons, List.count_cons_self] at this
    by_cases q : a < nd.length
    · exact q
    · rw [if_neg q] at this
      exfalso
      omega
  refine ⟨fun x => ?_, ⟨fun l e => ?_, fun l e => ?_, hc, hw, h2⟩, fun _ => ?_⟩
  · have := h1 x
    show List.count x (nd.length :: op) + List.count x (a :: b :: kids nd) ≤ _
    rw [List.count_cons, List.count_cons] at this
    rw [List.count_cons, List.count_cons, List.count_cons]
    simp only [List.length_cons, beq_iff_eq] at this ⊢
    split at this <;> split at this <;> split at this <;> split <;> split <;> omega
  · cases e; exact ha
  · cases e; exact hb
  · have hne : nd ≠ [] := by intro e; rw [e] at hb; exact absurd hb (Nat.not_lt_zero _)
    have := h3 hne
    show (if futS c || pasS c then 1 else 0) + cbt nd + 1 ≤ nd.length + 1
    split <;> omega
def wtok (wt : PWt) : Prop := ∀ x, x ∈ wt → x.1 < 256 ∧ x.2 < 60
theorem rnode_ok {nd : List NdT} {op : List Nat} {c w m : Nat} (h : Gnd nd op) (hl : op.length = (if pfx c = true then 0 else 1) + m + 1) (hc : c < 256) (hw : w < 60) : Gnd (rnode nd op c w).1 (rnode nd op c w).2 ∧ (rnode nd op c w).2.length = m + 1 ∧ (rnode nd op c w).1.length = nd.length + 1 := by
  unfold rnode
  by_cases q : pfx c = true
  · rw [if_pos q] at hl ⊢
    match op, hl with
    | b :: op, hl =>
      refine ⟨Gnd_pre h hc hw, ?_, rfl⟩
      simp only [List.length_cons, List.tail_cons] at hl ⊢
      omega
  · rw [if_neg q] at hl ⊢
    match op, hl with
    | [b], hl => simp only [List.length_cons, List.length_nil] at hl; omega
    | b :: a :: op, hl =>
      refine ⟨Gnd_bin h hc hw, ?_, rfl⟩
      simp only [List.length_cons, List.tail_cons] at hl ⊢
      omega
theorem rdt_ok {own : Nat} : ∀ (wt : PWt) (nd : List NdT) (op : List Nat), Gnd nd op → op.length = binn wt + 1 → wtok wt → Gnd (rdt own wt nd op).1 (rdt own wt nd op).2.1 ∧ (rdt own wt nd op).2.1.length = binn (rdt own wt nd op).2.2 + 1 ∧ wtok (rdt own wt nd op).2.2 ∧ (rdt own wt nd op).1.length + pend (rdt own wt nd op).2.2 = nd.length + pend wt ∧ parn (rdt own wt nd op).2.2 = parn wt
  | [], nd, op, h, hl, hw => ⟨h, hl, hw, rfl, rfl⟩
  | (c, w) :: wt, nd, op, h, hl, hw => by
    unfold rdt
    by_cases q : rdb own c = true
    · rw [if_pos q]
      have hc : ¬ c = 40 := by
        intro e; subst e
        have : rdb own 40 = false := rfl
        rw [this] at q; cases q
      have hcw := hw (c, w) (List.mem_cons_self ..)
      have hr := rnode_ok (m := binn wt) (c := c) (w := w) h (by
        rw [hl]
        simp only [binn]
        by_cases p : pfx c = true
        · rw [if_pos p, if_pos (Or.inr p)]
        · rw [if_neg p, if_neg (fun z => z.elim hc p)]) hcw.1 hcw.2
      have ih := rdt_ok (own := own) wt _ _ hr.1 hr.2.1 (fun x hx => hw x (List.mem_cons_of_mem _ hx))
      refine ⟨ih.1, ih.2.1, ih.2.2.1, ?_, ?_⟩
      · rw [ih.2.2.2.1, hr.2.2]
        simp only [pend, if_neg hc]
        omega
      · rw [ih.2.2.2.2]
        simp only [parn, if_neg hc]
        omega
    · rw [if_neg q]
      exact ⟨h, hl, hw, rfl, rfl⟩
theorem rdp_ok : ∀ (wt : PWt) (nd : List NdT) (op : List Nat), Gnd nd op → op.length = binn wt + 1 → wtok wt → Gnd (rdp wt nd op).1 (rdp wt nd op).2.1 ∧ (rdp wt nd op).2.1.length = binn (rdp wt nd op).2.2 + 1 ∧ wtok (rdp wt nd op).2.2 ∧ (rdp wt nd op).1.length + pend (rdp wt nd op).2.2 = nd.length + pend wt ∧ parn (rdp wt nd op).2.2 = parn wt
  | [], nd, op, h, hl, hw => ⟨h, hl, hw, rfl, rfl⟩
  | (c, w) :: wt, nd, op, h, hl, hw => by
    unfold rdp
    by_cases q : pfx c = true
    · rw [if_pos q]
      have hc : ¬ c = 40 := by
        intro e; subst e
        have : pfx 40 = false := rfl
        rw [this] at q; cases q
      have hcw := hw (c, w) (List.mem_cons_self ..)
      have hr := rnode_ok (m := binn wt) (c := c) (w := w) h (by
        rw [hl]
        simp only [binn]
        rw [if_pos q, if_pos (Or.inr q)]) hcw.1 hcw.2
      have ih := rdp_ok wt _ _ hr.1 hr.2.1 (fun x hx => hw x (List.mem_cons_of_mem _ hx))
      refine ⟨ih.1, ih.2.1, ih.2.2.1, ?_, ?_⟩
      · rw [ih.2.2.2.1, hr.2.2]
        simp only [pend, if_neg hc]
        omega
      · rw [ih.2.2.2.2]
        simp only [parn, if_neg hc]
        omega
    · rw [if_neg q]
      exact ⟨h, hl, hw, rfl, rfl⟩
