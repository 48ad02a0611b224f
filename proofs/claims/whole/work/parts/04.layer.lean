/-! ===== the layer: one world, one state, one row an instruction ===== -/
/-- the state: scalar fields by object and field; arrays of ints (booleans, bytes), of longs, by cell; which cell a mutable reference names -/
abbrev Sg : Type := (Nat → Nat → Int32) × (Nat → Nat → Int32) × (Nat → Nat → Int64) × (Nat → Nat → Nat)
def up2 {α : Type} (f : Nat → Nat → α) (o k : Nat) (v : α) : Nat → Nat → α := fun a b => if a = o then (if b = k then v else f a b) else f a b
def stF (σ : Sg) (o k : Nat) (v : Int32) : Sg := (up2 σ.1 o k v, σ.2)
def stA (σ : Sg) (a i : Nat) (v : Int32) : Sg := (σ.1, up2 σ.2.1 a i v, σ.2.2)
def stL (σ : Sg) (a i : Nat) (v : Int64) : Sg := (σ.1, σ.2.1, up2 σ.2.2.1 a i v, σ.2.2.2)
def stR (σ : Sg) (o k : Nat) (v : Nat) : Sg := (σ.1, σ.2.1, σ.2.2.1, up2 σ.2.2.2 o k v)
def gF (σ : Sg) (o k : Nat) : Int32 := σ.1 o k
def gA (σ : Sg) (a i : Nat) : Int32 := σ.2.1 a i
def gL (σ : Sg) (a i : Nat) : Int64 := σ.2.2.1 a i
def gR (σ : Sg) (o k : Nat) : Nat := σ.2.2.2 o k
def oc (o : Nat) : Nat := lyOC.getD o 0
def nF (o : Nat) : Nat := lyNF.getD o 0
def kd (o k : Nat) : Nat := (lyK.getD o []).getD k 9
def rfT (o k : Nat) : Nat := (lyR.getD o []).getD k 0
def aK (c : Nat) : Nat := lyAK.getD (c - 11) 9
def aN (c : Nat) : Nat := lyAL.getD (c - 11) 0
def fV (ad : Nat → Nat) (σ : Sg) (o k : Nat) : Value := if kd o k = 0 then .int (gF σ o k) else if kd o k = 1 then .ref (ad (rfT o k)) else .ref (ad (gR σ o k))
def oF (ad : Nat → Nat) (σ : Sg) (o : Nat) : List Value := (List.range (nF o)).map (fV ad σ o)
def wE (ad : Nat → Nat) (cy : Nat → ClassId) (σ : Sg) (c : Nat) : va_E := if c < 11 then .inr (oc c, oF ad σ c) else if aK c = 2 then .inl (cy 2, aN c, .inr (.inl (gL σ c))) else .inl (cy (aK c), aN c, .inl (gA σ c))
def wld (ad : Nat → Nat) (cy : Nat → ClassId) (σ : Sg) : va_W := (List.range NW).map (fun c => (ad c, wE ad cy σ c))
def ftK (k : Nat) : FieldType := if k = 0 then .int else if k = 1 then .boolean else if k = 2 then .long else .byte
def tysW (cy : Nat → ClassId) : List (ClassId × FieldType) := [(cy 0, .int), (cy 1, .boolean), (cy 2, .long), (cy 3, .byte)]
def AdOk (ad : Nat → Nat) (b0 : Nat) : Prop := (∀ i j, i < NW → j < NW → ad i = ad j → i = j) ∧ ∀ i, i < NW → b0 ≤ ad i
def clE (o : Nat) : vw_C := vwCl.getD (oc o) (RX0, TX0, 6)
theorem wld_get {ad : Nat → Nat} {cy : Nat → ClassId} {σ : Sg} {c : Nat} (h : c < NW) : (wld ad cy σ)[c]? = some (ad c, wE ad cy σ c) := by
  unfold wld
  rw [List.getElem?_map, List.getElem?_range h]
  rfl
theorem wld_set {ad : Nat → Nat} {cy : Nat → ClassId} {σ σ' : Sg} {c : Nat} {e : va_E} (he : wE ad cy σ' c = e) (ho : ∀ j, j < NW → j ≠ c → wE ad cy σ' j = wE ad cy σ j) : (wld ad cy σ).set c (ad c, e) = wld ad cy σ' := by
  refine List.ext_getElem? (fun k => ?_)
  by_cases hk : k < NW
  · by_cases hkc : k = c
    · subst hkc
      rw [List.getElem?_set_self (by simpa [wld] using hk), wld_get hk, he]
    · rw [List.getElem?_set_ne (Ne.symm hkc), wld_get hk, wld_get hk, ho k hk hkc]
  · have h1 : ((wld ad cy σ).set c (ad c, e)).length ≤ k := by simp [wld]; omega
    have h2 : (wld ad cy σ').length ≤ k := by simp [wld]; omega
    rw [List.getElem?_eq_none h1, List.getElem?_eq_none h2]
theorem wld_D {ad : Nat → Nat} {cy : Nat → ClassId} {b0 : Nat} (hA : AdOk ad b0) (σ : Sg) : va_D (fun q => b0 ≤ q) (wld ad cy σ) := by
  have key : ∀ (k : Nat) (q : Nat × va_E), (wld ad cy σ)[k]? = some q → k < NW ∧ q.1 = ad k := by
    intro k q h
    by_cases hk : k < NW
    · rw [wld_get hk] at h
      cases h
      exact ⟨hk, rfl⟩
    · have h2 : (wld ad cy σ).length ≤ k := by simp [wld]; omega
      rw [List.getElem?_eq_none h2] at h
      cases h
  refine ⟨fun i j p q hi hj hpq => ?_, fun k q hk => ?_⟩
  · obtain ⟨h1, h2⟩ := key i p hi
    obtain ⟨h3, h4⟩ := key j q hj
    exact hA.1 i j h1 h3 (by rw [← h2, ← h4]; exact hpq)
  · obtain ⟨h1, h2⟩ := key k q hk
    rw [h2]
    exact hA.2 k h1
theorem up2_same {α : Type} {f : Nat → Nat → α} {o k : Nat} {v : α} : up2 f o k v o k = v := by simp [up2]
theorem up2_row {α : Type} {f : Nat → Nat → α} {o k a : Nat} {v : α} (h : a ≠ o) : up2 f o k v a = f a := by
  funext b
  simp [up2, h]
theorem up2_upd {f : Nat → Nat → Int32} {o k : Nat} {v : Int32} : up2 f o k v o = upd (f o) k v := by
  funext b
  simp [up2, upd]
theorem up2_updL {f : Nat → Nat → Int64} {o k : Nat} {v : Int64} : up2 f o k v o = vp_updL (f o) k v := by
  funext b
  simp [up2, vp_updL]
theorem oF_set {ad : Nat → Nat} {σ σ' : Sg} {o k : Nat} (h : ∀ j, j ≠ k → fV ad σ' o j = fV ad σ o j) : (oF ad σ o).set k (fV ad σ' o k) = oF ad σ' o := by
  unfold oF
  refine List.ext_getElem? (fun j => ?_)
  by_cases hj : j < nF o
  · by_cases hjk : j = k
    · subst hjk
      rw [List.getElem?_set_self (by simpa using hj), List.getElem?_map, List.getElem?_range hj]
      rfl
    · rw [List.getElem?_set_ne (Ne.symm hjk), List.getElem?_map, List.getElem?_map, List.getElem?_range hj]
      simp [h j hjk]
  · rw [List.getElem?_eq_none (by simp; omega), List.getElem?_eq_none (by simp; omega)]
theorem wE_stA {ad : Nat → Nat} {cy : Nat → ClassId} {σ : Sg} {c i : Nat} {v : Int32} {j : Nat} (hj : j ≠ c) : wE ad cy (stA σ c i v) j = wE ad cy σ j := by
  unfold wE
  have h1 : gA (stA σ c i v) j = gA σ j := by
    funext b
    show up2 σ.2.1 c i v j b = σ.2.1 j b
    rw [up2_row hj]
  rw [h1]
  rfl
theorem wE_stL {ad : Nat → Nat} {cy : Nat → ClassId} {σ : Sg} {c i : Nat} {v : Int64} {j : Nat} (hj : j ≠ c) : wE ad cy (stL σ c i v) j = wE ad cy σ j := by
  unfold wE
  have h1 : gL (stL σ c i v) j = gL σ j := by
    funext b
    show up2 σ.2.2.1 c i v j b = σ.2.2.1 j b
    rw [up2_row hj]
  rw [h1]
  rfl
theorem fV_stF {ad : Nat → Nat} {σ : Sg} {o k : Nat} {v : Int32} {a b : Nat} (h : a ≠ o ∨ b ≠ k) : fV ad (stF σ o k v) a b = fV ad σ a b := by
  unfold fV
  have h1 : gF (stF σ o k v) a b = gF σ a b := by
    show up2 σ.1 o k v a b = σ.1 a b
    rcases h with h | h
    · rw [up2_row h]
    · simp [up2, h]
  rw [h1]
  rfl
theorem fV_stR {ad : Nat → Nat} {σ : Sg} {o k : Nat} {v : Nat} {a b : Nat} (h : a ≠ o ∨ b ≠ k) : fV ad (stR σ o k v) a b = fV ad σ a b := by
  unfold fV
  have h1 : gR (stR σ o k v) a b = gR σ a b := by
    show up2 σ.2.2.2 o k v a b = σ.2.2.2 a b
    rcases h with h | h
    · rw [up2_row h]
    · simp [up2, h]
  rw [h1]
  rfl
theorem wE_stF {ad : Nat → Nat} {cy : Nat → ClassId} {σ : Sg} {o k : Nat} {v : Int32} {j : Nat} (hj : j ≠ o) : wE ad cy (stF σ o k v) j = wE ad cy σ j := by
  unfold wE
  have h1 : oF ad (stF σ o k v) j = oF ad σ j := by
    unfold oF
    refine List.map_congr_left (fun b _ => fV_stF (Or.inl hj))
  rw [h1]
  rfl
theorem wE_stR {ad : Nat → Nat} {cy : Nat → ClassId} {σ : Sg} {o k : Nat} {v : Nat} {j : Nat} (hj : j ≠ o) : wE ad cy (stR σ o k v) j = wE ad cy σ j := by
  unfold wE
  have h1 : oF ad (stR σ o k v) j = oF ad σ j := by
    unfold oF
    refine List.map_congr_left (fun b _ => fV_stR (Or.inl hj))
  rw [h1]
  rfl
theorem wE_obj {ad : Nat → Nat} {cy : Nat → ClassId} {σ : Sg} {o : Nat} (h : o < 11) : wE ad cy σ o = .inr (oc o, oF ad σ o) := by
  unfold wE
  rw [if_pos h]
theorem wE_int {ad : Nat → Nat} {cy : Nat → ClassId} {σ : Sg} {c : Nat} (h : 11 ≤ c) (h2 : aK c ≠ 2) : wE ad cy σ c = .inl (cy (aK c), aN c, .inl (gA σ c)) := by
  unfold wE
  rw [if_neg (by omega), if_neg h2]
theorem wE_long {ad : Nat → Nat} {cy : Nat → ClassId} {σ : Sg} {c : Nat} (h : 11 ≤ c) (h2 : aK c = 2) : wE ad cy σ c = .inl (cy 2, aN c, .inr (.inl (gL σ c))) := by
  unfold wE
  rw [if_neg (by omega), if_pos h2]
-- ===== locals by place =====
def kill2 : Option Value → Option Value
  | some v => if v.category = 2 then none else some v
  | none => none
def lset1 : List (Option Value) → Nat → Value → List (Option Value)
  | [], _, _ => []
  | _ :: l, 0, v => some v :: l
  | o :: l, i + 1, v => (if i = 0 then kill2 o else o) :: lset1 l i v
def lset2 : List (Option Value) → Nat → Value → List (Option Value)
  | [], _, _ => []
  | _ :: l, 0, v => some v :: l.set 0 none
  | o :: l, i + 1, v => (if i = 0 then kill2 o else o) :: lset2 l i v
def lvl (loc : List (Option Value)) : List (Nat × Value) := (List.range loc.length).filterMap (fun i => match loc[i]? with | some (some v) => some (i, v) | _ => none)
theorem mem_lvl {loc : List (Option Value)} {i : Nat} {v : Value} : (i, v) ∈ lvl loc ↔ loc[i]? = some (some v) := by
  unfold lvl
  rw [List.mem_filterMap]
  constructor
  · rintro ⟨j, -, h⟩
    split at h
    · next w hw => cases h; exact hw
    · cases h
  · intro h
    refine ⟨i, List.mem_range.mpr (List.getElem?_eq_some_iff.mp h).1, ?_⟩
    rw [h]
theorem lset1_at : ∀ (l : List (Option Value)) (i : Nat) (v : Value) (j : Nat) (w : Value), (lset1 l i v)[j]? = some (some w) → (j = i ∧ w = v) ∨ (j ≠ i ∧ l[j]? = some (some w) ∧ ¬ (j + 1 = i ∧ w.category = 2))
  | [], i, v, j, w, h => by simp [lset1] at h
  | o :: l, 0, v, j, w, h => by
    cases j with
    | zero => simp [lset1] at h; exact Or.inl ⟨rfl, h.symm⟩
    | succ j => simp [lset1] at h; exact Or.inr ⟨by omega, by simpa using h, by omega⟩
  | o :: l, i + 1, v, j, w, h => by
    cases j with
    | zero =>
      refine Or.inr ⟨by omega, ?_, ?_⟩
      · simp only [lset1, List.getElem?_cons_zero, Option.some.injEq] at h ⊢
        split at h
        · cases o with
          | none => simp [kill2] at h
          | some x => simp only [kill2] at h; split at h <;> simp_all
        · exact h
      · rintro ⟨h1, h2⟩
        have hi : i = 0 := by omega
        subst hi
        simp only [lset1, List.getElem?_cons_zero, Option.some.injEq, if_pos] at h
        cases o with
        | none => simp [kill2] at h
        | some x => simp only [kill2] at h; split at h <;> simp_all
    | succ j =>
      simp only [lset1, List.getElem?_cons_succ] at h
      rcases lset1_at l i v j w h with ⟨h1, h2⟩ | ⟨h1, h2, h3⟩
      · exact Or.inl ⟨by omega, h2⟩
      · exact Or.inr ⟨by omega, by simpa using h2, fun ⟨a, b⟩ => h3 ⟨by omega, b⟩⟩
theorem lset2_at : ∀ (l : List (Option Value)) (i : Nat) (v : Value) (j : Nat) (w : Value), (lset2 l i v)[j]? = some (some w) → (j = i ∧ w = v) ∨ (j ≠ i ∧ j ≠ i + 1 ∧ l[j]? = some (some w) ∧ ¬ (j + 1 = i ∧ w.category = 2))
  | [], i, v, j, w, h => by simp [lset2] at h
  | o :: l, 0, v, j, w, h => by
    cases j with
    | zero => simp [lset2] at h; exact Or.inl ⟨rfl, h.symm⟩
    | succ j =>
      simp only [lset2, List.getElem?_cons_succ] at h
      cases j with
      | zero =>
        rw [List.getElem?_set] at h
        simp at h
      | succ j =>
        rw [List.getElem?_set_ne (by omega)] at h
        exact Or.inr ⟨by omega, by omega, by simpa using h, by omega⟩
  | o :: l, i + 1, v, j, w, h => by
    cases j with
    | zero =>
      refine Or.inr ⟨by omega, by omega, ?_, ?_⟩
      · simp only [lset2, List.getElem?_cons_zero, Option.some.injEq] at h ⊢
        split at h
        · cases o with
          | none => simp [kill2] at h
          | some x => simp only [kill2] at h; split at h <;> simp_all
        · exact h
      · rintro ⟨h1, h2⟩
        have hi : i = 0 := by omega
        subst hi
        simp only [lset2, List.getElem?_cons_zero, Option.some.injEq, if_pos] at h
        cases o with
        | none => simp [kill2] at h
        | some x => simp only [kill2] at h; split at h <;> simp_all
    | succ j =>
      simp only [lset2, List.getElem?_cons_succ] at h
      rcases lset2_at l i v j w h with ⟨h1, h2⟩ | ⟨h1, h2, h3, h4⟩
      · exact Or.inl ⟨by omega, h2⟩
      · exact Or.inr ⟨by omega, by omega, by simpa using h3, fun ⟨a, b⟩ => h4 ⟨by omega, b⟩⟩
def lvp (ls : Array Slot) (nL : Nat) (loc : List (Option Value)) : Prop := lv_has ls nL (lvl loc)
theorem lvp_at {ls : Array Slot} {nL : Nat} {loc : List (Option Value)} (h : lvp ls nL loc) {i : Nat} {v : Value} (hl : loc[i]? = some (some v)) : ls[i]? = some (.val v) := h.2.2 (i, v) (mem_lvl.mpr hl)
theorem lvp_of {ls : Array Slot} {nL : Nat} {loc : List (Option Value)} {l : List (Nat × Value)} (h : lv_has ls nL l) (hs : ∀ i v, loc[i]? = some (some v) → (i, v) ∈ l) : lvp ls nL loc := ⟨h.1, h.2.1, fun q hq => h.2.2 q (hs q.1 q.2 (mem_lvl.mp hq))⟩
theorem lvp_set1 {ls : Array Slot} {nL : Nat} {loc : List (Option Value)} {i : Nat} {v : Value} (h : lv_has ls nL ((i, v) :: (lvl loc).filter (fun q => !(q.1 == i) && !(q.1 + 1 == i && q.2.category == 2)))) : lvp ls nL (lset1 loc i v) := by
  refine lvp_of h (fun j w hj => ?_)
  rcases lset1_at loc i v j w hj with ⟨rfl, rfl⟩ | ⟨h1, h2, h3⟩
  · exact List.mem_cons_self
  · refine List.mem_cons_of_mem _ (List.mem_filter.mpr ⟨mem_lvl.mpr h2, ?_⟩)
    simp only [Bool.and_eq_true, Bool.not_eq_true', beq_eq_false_iff_ne, ne_eq, Bool.and_eq_false_iff]
    refine ⟨h1, ?_⟩
    by_cases ha : j + 1 = i
    · exact Or.inr (fun hb => h3 ⟨ha, hb⟩)
    · exact Or.inl ha
theorem lvp_set2 {ls : Array Slot} {nL : Nat} {loc : List (Option Value)} {i : Nat} {v : Value} (h : lv_has ls nL ((i, v) :: (lvl loc).filter (fun q => !(q.1 == i) && (!(q.1 == i + 1) && !(q.1 + 1 == i && q.2.category == 2))))) : lvp ls nL (lset2 loc i v) := by
  refine lvp_of h (fun j w hj => ?_)
  rcases lset2_at loc i v j w hj with ⟨rfl, rfl⟩ | ⟨h1, h2, h3, h4⟩
  · exact List.mem_cons_self
  · refine List.mem_cons_of_mem _ (List.mem_filter.mpr ⟨mem_lvl.mpr h3, ?_⟩)
    simp only [Bool.and_eq_true, Bool.not_eq_true', beq_eq_false_iff_ne, ne_eq, Bool.and_eq_false_iff]
    refine ⟨h1, h2, ?_⟩
    by_cases ha : j + 1 = i
    · exact Or.inr (fun hb => h4 ⟨ha, hb⟩)
    · exact Or.inl ha
def lmask : List (Option Value) → List Bool → List (Option Value)
  | o :: l, true :: b => o :: lmask l b
  | _ :: l, false :: b => none :: lmask l b
  | _, _ => []
theorem lmask_at : ∀ (l : List (Option Value)) (b : List Bool) (j : Nat) (w : Value), (lmask l b)[j]? = some (some w) → l[j]? = some (some w)
  | [], b, j, w, h => by cases b <;> simp [lmask] at h
  | o :: l, [], j, w, h => by simp [lmask] at h
  | o :: l, true :: b, j, w, h => by
    cases j with
    | zero => simpa [lmask] using h
    | succ j => simp only [lmask, List.getElem?_cons_succ] at h ⊢; exact lmask_at l b j w h
  | o :: l, false :: b, j, w, h => by
    cases j with
    | zero => simp [lmask] at h
    | succ j => simp only [lmask, List.getElem?_cons_succ] at h ⊢; exact lmask_at l b j w h
/-- the locals at a method's entry, by place -/
def lent : List Value → Nat → List (Option Value)
  | _, 0 => []
  | [], n + 1 => none :: lent [] n
  | v :: vs, n + 1 => if v.category = 2 then (match n with | 0 => [some v] | k + 1 => some v :: none :: lent vs k) else some v :: lent vs n
theorem lent_nil : ∀ (n i : Nat) (w : Value), (lent [] n)[i]? ≠ some (some w)
  | 0, i, w => by simp [lent]
  | n + 1, 0, w => by simp [lent]
  | n + 1, i + 1, w => by simp only [lent, List.getElem?_cons_succ]; exact lent_nil n i w
theorem lent_at : ∀ (vs : List Value) (n i : Nat) (w : Value) (b : Nat), (lent vs n)[i]? = some (some w) → (b + i, w) ∈ lv_args b vs
  | [], n, i, w, b, h => absurd h (lent_nil n i w)
  | v :: vs, 0, i, w, b, h => by simp [lent] at h
  | v :: vs, n + 1, i, w, b, h => by
    unfold lent at h
    split at h
    · next hc =>
      cases n with
      | zero =>
        cases i with
        | zero => simp at h; subst h; simp [lv_args]
        | succ i => simp at h
      | succ k =>
        match i, h with
        | 0, h => simp at h; subst h; simp [lv_args]
        | 1, h => simp at h
        | i + 2, h =>
          simp only [List.getElem?_cons_succ] at h
          have := lent_at vs k i w (b + 2) h
          simp only [lv_args, if_pos hc, List.mem_cons]
          refine Or.inr ?_
          have e : b + (i + 2) = b + 2 + i := by omega
          rw [e]
          exact this
    · next hc =>
      cases i with
      | zero => simp at h; subst h; simp [lv_args]
      | succ i =>
        simp only [List.getElem?_cons_succ] at h
        have := lent_at vs n i w (b + 1) h
        simp only [lv_args, if_neg hc, List.mem_cons]
        refine Or.inr ?_
        have e : b + (i + 1) = b + 1 + i := by omega
        rw [e]
        exact this
