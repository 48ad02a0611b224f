/-! ===== read: the reference's stacks ===== -/
def ndsA (s l r w : Nat → Int32) : List NdT → Prop
  | [] => True
  | x :: nd => (s nd.length = nI x.1 ∧ l nd.length = oI x.2.1 ∧ r nd.length = oI x.2.2.1 ∧ w nd.length = nI x.2.2.2) ∧ ndsA s l r w nd
def opsA (a : Nat → Int32) : List Nat → Prop
  | [] => True
  | x :: op => a op.length = nI x ∧ opsA a op
def wtsA (a b : Nat → Int32) : PWt → Prop
  | [] => True
  | x :: wt => (a wt.length = nI x.1 ∧ b wt.length = nI x.2) ∧ wtsA a b wt
theorem ndsA_c {s l r w s' l' r' w' : Nat → Int32} : ∀ (nd : List NdT), (∀ k, k < nd.length → s' k = s k ∧ l' k = l k ∧ r' k = r k ∧ w' k = w k) → ndsA s l r w nd → ndsA s' l' r' w' nd
  | [], _, _ => trivial
  | x :: nd, h, hh => by
    have h0 := h nd.length (Nat.lt_succ_self _)
    refine ⟨?_, ndsA_c nd (fun k hk => h k (Nat.lt_succ_of_lt hk)) hh.2⟩
    rw [h0.1, h0.2.1, h0.2.2.1, h0.2.2.2]
    exact hh.1
theorem opsA_c {a a' : Nat → Int32} : ∀ (op : List Nat), (∀ k, k < op.length → a' k = a k) → opsA a op → opsA a' op
  | [], _, _ => trivial
  | x :: op, h, hh => ⟨by rw [h op.length (Nat.lt_succ_self _)]; exact hh.1, opsA_c op (fun k hk => h k (Nat.lt_succ_of_lt hk)) hh.2⟩
theorem wtsA_c {a b a' b' : Nat → Int32} : ∀ (wt : PWt), (∀ k, k < wt.length → a' k = a k ∧ b' k = b k) → wtsA a b wt → wtsA a' b' wt
  | [], _, _ => trivial
  | x :: wt, h, hh => by
    have h0 := h wt.length (Nat.lt_succ_self _)
    refine ⟨?_, wtsA_c wt (fun k hk => h k (Nat.lt_succ_of_lt hk)) hh.2⟩
    rw [h0.1, h0.2]
    exact hh.1
def RPn (σ0 σ : Sg) (nd : List NdT) (op : List Nat) (wt : PWt) : Prop :=
  Fr [10] [48, 49, 50, 51, 52, 53, 54] σ0 σ ∧ (∀ k, k ∉ [4, 9, 11] → gF σ 10 k = gF σ0 10 k) ∧ gF σ 10 4 = nI nd.length ∧ gF σ 10 9 = nI op.length ∧ gF σ 10 11 = nI wt.length ∧ ndsA (gA σ 48) (gA σ 49) (gA σ 50) (gA σ 51) nd ∧ opsA (gA σ 52) op ∧ wtsA (gA σ 53) (gA σ 54) wt
theorem sp_isPrefix {c : Nat} {x : Int32} {σ : Sg} {Q : Int32 → Sg → Prop} (hx : x = nI c) (hc : c < 256) (h : Q (bI (pfx c)) σ) : wp_X9_isPrefix x σ Q := by
  subst hx
  unfold wp_X9_isPrefix wp_X9_isPrefix_48
  refine pk_eq c 33 (fun e => by subst e; exact h) (fun n1 => ?_)
  refine pk_eq c 78 (fun e => by subst e; exact h) (fun n2 => ?_)
  refine pk_eq c 87 (fun e => by subst e; exact h) (fun n3 => ?_)
  refine pk_eq c 71 (fun e => by subst e; exact h) (fun n4 => ?_)
  refine pk_eq c 70 (fun e => by subst e; exact h) (fun n5 => ?_)
  refine pk_eq c 89 (fun e => by subst e; exact h) (fun n6 => ?_)
  refine pk_eq c 72 (fun e => by subst e; exact h) (fun n7 => ?_)
  refine (pk_eq c 79 (fun e => by subst e; exact h) (fun n8 => ?_)).symm
  have : pfx c = false := by
    unfold pfx
    simp only [beq_eq_false_iff_ne.mpr n1, beq_eq_false_iff_ne.mpr n2, beq_eq_false_iff_ne.mpr n3, beq_eq_false_iff_ne.mpr n4, beq_eq_false_iff_ne.mpr n5, beq_eq_false_iff_ne.mpr n6, beq_eq_false_iff_ne.mpr n7, beq_eq_false_iff_ne.mpr n8, Bool.or_self]
  rw [this] at h
  exact h
theorem sp_rank {c : Nat} {x : Int32} {σ : Sg} {Q : Int32 → Sg → Prop} (hx : x = nI c) (hc : c < 256) (h : Q (nI (rnk c)) σ) : wp_X9_rank x σ Q := by
  subst hx
  unfold wp_X9_rank wp_X9_rank_12
  refine pk_eq c 85 (fun e => by subst e; exact h) (fun n1 => ?_)
  refine (pk_eq c 83 (fun e => by subst e; exact h) (fun n2 => ?_)).symm
  refine (pk_eq c 38 (fun e => by subst e; exact h) (fun n3 => ?_)).symm
  refine (pk_eq c 47 (fun e => by subst e; exact h) (fun n4 => ?_)).symm
  refine (pk_eq c 62 (fun e => by subst e; exact h) (fun n5 => ?_)).symm
  have : rnk c = 0 := by
    unfold rnk
    rw [if_neg (fun z => z.elim n1 n2), if_neg n3, if_neg n4, if_neg n5]
  rw [this] at h
  exact h
theorem rnk_le (c : Nat) : rnk c ≤ 4 := by
  unfold rnk
  split
  · omega
  · split
    · omega
    · split
      · omega
      · split <;> omega
theorem sp_node {σ0 σ : Sg} {nd : List NdT} {op : List Nat} {wt : PWt} {c w : Nat} {l r : Option Nat} {x y z u : Int32} {Q : Sg → Prop} (hx : x = nI c) (hy : y = oI l) (hz : z = oI r) (hu : u = nI w) (hR : RPn σ0 σ nd op wt) (hn : nd.length < 9) (ho : op.length < 16) (h : ∀ σ1, RPn σ0 σ1 ((c, l, r, w) :: nd) (nd.length :: op) wt → Q σ1) : wp_X9_node x y z u σ Q := by
  subst hx hy hz hu
  obtain ⟨fr, g, h4, h9, h11, hnd, hop, hwt⟩ := hR
  unfold wp_X9_node
  rw [h4, nI_clamp (by omega)]
  refine ⟨vp_in_nI (by show _ < 9; exact hn) (by decide), ?_⟩
  intro σ1 e1
  have k1 : gF σ1 = gF σ := by rw [e1]; rfl
  rw [k1, h4, nI_clamp (by omega)]
  refine ⟨vp_in_nI (by show _ < 9; exact hn) (by decide), ?_⟩
  intro σ2 e2
  have k2 : gF σ2 = gF σ := by rw [e2]; exact k1
  rw [k2, h4, nI_clamp (by omega)]
  refine ⟨vp_in_nI (by show _ < 9; exact hn) (by decide), ?_⟩
  intro σ3 e3
  have k3 : gF σ3 = gF σ := by rw [e3]; exact k2
  rw [k3, h4, nI_clamp (by omega)]
  refine ⟨vp_in_nI (by show _ < 9; exact hn) (by decide), ?_⟩
  intro σ4 e4
  have k4 : gF σ4 = gF σ := by rw [e4]; exact k3
  rw [k4, h4, h9, nI_clamp (by omega)]
  refine ⟨vp_in_nI (by show _ < 16; exact ho) (by decide), ?_⟩
  intro σ5 e5 σ6 e6 σ7 e7
  have k5 : gF σ5 = gF σ := by rw [e5]; exact k4
  rw [k5, h9, nI_add] at e6
  have k64 : gF σ6 10 4 = nI nd.length := by rw [e6, gF_stF, if_pos rfl, if_neg (by decide), k5]; exact h4
  rw [k64, nI_add] at e7
  have a48 : ∀ k, gA σ7 48 k = if k = nd.length then nI c else gA σ 48 k := by
    intro k
    rw [e7, gA_stF, e6, gA_stF, e5, gA_stA_row (by decide), e4, gA_stA_row (by decide), e3, gA_stA_row (by decide), e2, gA_stA_row (by decide), e1, gA_stA, if_pos rfl]
  have a49 : ∀ k, gA σ7 49 k = if k = nd.length then oI l else gA σ 49 k := by
    intro k
    rw [e7, gA_stF, e6, gA_stF, e5, gA_stA_row (by decide), e4, gA_stA_row (by decide), e3, gA_stA_row (by decide), e2, gA_stA, if_pos rfl, e1, gA_stA_row (by decide)]
  have a50 : ∀ k, gA σ7 50 k = if k = nd.length then oI r else gA σ 50 k := by
    intro k
    rw [e7, gA_stF, e6, gA_stF, e5, gA_stA_row (by decide), e4, gA_stA_row (by decide), e3, gA_stA, if_pos rfl, e2, gA_stA_row (by decide), e1, gA_stA_row (by decide)]
  have a51 : ∀ k, gA σ7 51 k = if k = nd.length then nI w else gA σ 51 k := by
    intro k
    rw [e7, gA_stF, e6, gA_stF, e5, gA_stA_row (by decide), e4, gA_stA, if_pos rfl, e3, gA_stA_row (by decide), e2, gA_stA_row (by decide), e1, gA_stA_row (by decide)]
  have a52 : ∀ k, gA σ7 52 k = if k = op.length then nI nd.length else gA σ 52 k := by
    intro k
    rw [e7, gA_stF, e6, gA_stF, e5, gA_stA, if_pos rfl, e4, gA_stA_row (by decide), e3, gA_stA_row (by decide), e2, gA_stA_row (by decide), e1, gA_stA_row (by decide)]
  have a53 : gA σ7 53 = gA σ 53 := by
    rw [e7, gA_stF, e6, gA_stF, e5, gA_stA_row (by decide), e4, gA_stA_row (by decide), e3, gA_stA_row (by decide), e2, gA_stA_row (by decide), e1, gA_stA_row (by decide)]
  have a54 : gA σ7 54 = gA σ 54 := by
    rw [e7, gA_stF, e6, gA_stF, e5, gA_stA_row (by decide), e4, gA_stA_row (by decide), e3, gA_stA_row (by decide), e2, gA_stA_row (by decide), e1, gA_stA_row (by decide)]
  have f10 : ∀ k, gF σ7 10 k = if k = 4 then nI (nd.length + 1) else if k = 9 then nI (op.length + 1) else gF σ 10 k := by
    intro k
    rw [e7, gF_stF, if_pos rfl, e6, gF_stF, if_pos rfl, k5]
  have fr7 : Fr [10] [48, 49, 50, 51, 52, 53, 54] σ σ7 := by
    rw [e7, e6, e5, e4, e3, e2, e1]
    exact ((((((Fr.rf.stA (by simp)).stA (by simp)).stA (by simp)).stA (by simp)).stA (by simp)).stF (by simp)).stF (by simp)
  refine h σ7 ⟨fr.tr fr7, fun k hk => ?_, ?_, ?_, ?_, ⟨⟨?_, ?_, ?_, ?_⟩, ?_⟩, ⟨?_, ?_⟩, ?_⟩
  · simp only [List.mem_cons, List.not_mem_nil, or_false, not_or] at hk
    rw [f10, if_neg hk.1, if_neg hk.2.1]
    exact g k (by simp [hk])
  · rw [f10, if_pos rfl]; rfl
  · rw [f10, if_neg (by decide), if_pos rfl]; rfl
  · rw [f10, if_neg (by decide), if_neg (by decide)]; exact h11
  · rw [a48, if_pos rfl]
  · rw [a49, if_pos rfl]
  · rw [a50, if_pos rfl]
  · rw [a51, if_pos rfl]
  · refine ndsA_c nd (fun k hk => ?_) hnd
    rw [a48, a49, a50, a51, if_neg (by omega), if_neg (by omega), if_neg (by omega), if_neg (by omega)]
    exact ⟨rfl, rfl, rfl, rfl⟩
  · rw [a52, if_pos rfl]
  · exact opsA_c op (fun k hk => by rw [a52, if_neg (by omega)]) hop
  · rw [a53, a54]; exact hwt
theorem sp_push {σ0 σ : Sg} {nd : List NdT} {op : List Nat} {wt : PWt} {c w : Nat} {x y : Int32} {Q : Sg → Prop} (hx : x = nI c) (hy : y = nI w) (hR : RPn σ0 σ nd op wt) (hn : wt.length < 64) (h : ∀ σ1, RPn σ0 σ1 nd op ((c, w) :: wt) → Q σ1) : wp_X9_push x y σ Q := by
  subst hx hy
  obtain ⟨fr, g, h4, h9, h11, hnd, hop, hwt⟩ := hR
  unfold wp_X9_push
  rw [h11, nI_clamp (by omega)]
  refine ⟨vp_in_nI (by show _ < 64; exact hn) (by decide), ?_⟩
  intro σ1 e1
  have k1 : gF σ1 = gF σ := by rw [e1]; rfl
  rw [k1, h11, nI_clamp (by omega)]
  refine ⟨vp_in_nI (by show _ < 64; exact hn) (by decide), ?_⟩
  intro σ2 e2 σ3 e3
  have k2 : gF σ2 = gF σ := by rw [e2]; exact k1
  rw [k2, h11, nI_add] at e3
  have f10 : ∀ k, gF σ3 10 k = if k = 11 then nI (wt.length + 1) else gF σ 10 k := by
    intro k
    rw [e3, gF_stF, if_pos rfl, k2]
  have a53 : ∀ k, gA σ3 53 k = if k = wt.length then nI c else gA σ 53 k := by
    intro k
    rw [e3, gA_stF, e2, gA_stA_row (by decide), e1, gA_stA, if_pos rfl]
  have a54 : ∀ k, gA σ3 54 k = if k = wt.length then nI w else gA σ 54 k := by
    intro k
    rw [e3, gA_stF, e2, gA_stA, if_pos rfl, e1, gA_stA_row (by decide)]
  have ao : ∀ q, q ≠ 53 → q ≠ 54 → gA σ3 q = gA σ q := by
    intro q q1 q2
    rw [e3, gA_stF, e2, gA_stA_row q2, e1, gA_stA_row q1]
  have fr3 : Fr [10] [48, 49, 50, 51, 52, 53, 54] σ σ3 := by
    rw [e3, e2, e1]
    exact ((Fr.rf.stA (by simp)).stA (by simp)).stF (by simp)
  refine h σ3 ⟨fr.tr fr3, fun k hk => ?_, ?_, ?_, ?_, ?_, ?_, ⟨⟨?_, ?_⟩, ?_⟩⟩
  · simp only [List.mem_cons, List.not_mem_nil, or_false, not_or] at hk
    rw [f10, if_neg hk.2.2]
    exact g k (by simp [hk])
  · rw [f10, if_neg (by decide)]; exact h4
  · rw [f10, if_neg (by decide)]; exact h9
  · rw [f10, if_pos rfl]; rfl
  · rw [ao 48 (by decide) (by decide), ao 49 (by decide) (by decide), ao 50 (by decide) (by decide), ao 51 (by decide) (by decide)]; exact hnd
  · rw [ao 52 (by decide) (by decide)]; exact hop
  · rw [a53, if_pos rfl]
  · rw [a54, if_pos rfl]
  · exact wtsA_c wt (fun k hk => by rw [a53, a54, if_neg (by omega), if_neg (by omega)]; exact ⟨rfl, rfl⟩) hwt
theorem sp_reduce {σ0 σ : Sg} {nd : List NdT} {op : List Nat} {wt : PWt} {c w m : Nat} {Q : Sg → Prop} (hR : RPn σ0 σ nd op ((c, w) :: wt)) (hc : c < 256) (hn : nd.length < 9) (hw : wt.length < 64) (ho : op.length = (if pfx c = true then 0 else 1) + m + 1) (hm : m < 14) (h : ∀ σ1, RPn σ0 σ1 (rnode nd op c w).1 (rnode nd op c w).2 wt → Q σ1) : wp_X9_reduce σ Q := by
  obtain ⟨fr, g, h4, h9, h11, hnd, hop, hwt⟩ := hR
  obtain ⟨b, op1, rfl⟩ : ∃ b op1, op = b :: op1 := by
    match op, ho with
    | b :: op1, _ => exact ⟨b, op1, rfl⟩
  have hl1 : op1.length = (if pfx c = true then 0 else 1) + m := by simp only [List.length_cons] at ho; omega
  have hb15 : op1.length < 16 := by rw [hl1]; split <;> omega
  intro σ1 e1 σ2 e2
  simp only [List.length_cons] at h9 h11
  rw [h11, pk_sub (by omega), Nat.add_sub_cancel] at e1
  have k19 : gF σ1 10 9 = nI (op1.length + 1) := by rw [e1, gF_stF, if_pos rfl, if_neg (by decide)]; exact h9
  rw [k19, pk_sub (by omega), Nat.add_sub_cancel] at e2
  have f10 : ∀ k, gF σ2 10 k = if k = 9 then nI op1.length else if k = 11 then nI wt.length else gF σ 10 k := by
    intro k
    rw [e2, gF_stF, if_pos rfl, e1, gF_stF, if_pos rfl]
  have aA : gA σ2 = gA σ := by rw [e2, e1]; rfl
  have fr2 : Fr [10] [48, 49, 50, 51, 52, 53, 54] σ σ2 := by
    rw [e2, e1]
    exact (Fr.rf.stF (by simp)).stF (by simp)
  have q9 : gF σ2 10 9 = nI op1.length := by rw [f10, if_pos rfl]
  have q11 : gF σ2 10 11 = nI wt.length := by rw [f10, if_neg (by decide), if_pos rfl]
  have q4 : gF σ2 10 4 = nI nd.length := by rw [f10, if_neg (by decide), if_neg (by decide)]; exact h4
  clear e1 e2 k19
  rw [q9, q11, nI_clamp (by omega), nI_clamp (by omega), aA, hwt.1.1]
  refine ⟨vp_in_nI (by show _ < 16; exact hb15) (by decide), ?_⟩
  intro x29 e29
  rw [hop.1] at e29
  subst e29
  have hg2 : ∀ k, k ∉ [4, 9, 11] → gF σ2 10 k = gF σ0 10 k := by
    intro k hk
    have hk2 := hk
    simp only [List.mem_cons, List.not_mem_nil, or_false, not_or] at hk2
    rw [f10, if_neg hk2.2.1, if_neg hk2.2.2]
    exact g k hk
  refine ⟨vp_in_nI (by show _ < 64; exact hw) (by decide), sp_isPrefix rfl hc (bI_br (fun z => ?_) (fun z => ?_))⟩
  · rw [z] at hl1
    simp only [Bool.false_eq_true, if_false] at hl1
    obtain ⟨a, op2, rfl⟩ : ∃ a op2, op1 = a :: op2 := by
      match op1, hl1 with
      | [], hl1 => simp only [List.length_nil] at hl1; omega
      | a :: op2, _ => exact ⟨a, op2, rfl⟩
    simp only [List.length_cons] at q9 hl1 hb15
    intro σ5 e5
    rw [q9, pk_sub (by omega), Nat.add_sub_cancel] at e5
    have g10 : ∀ k, gF σ5 10 k = if k = 9 then nI op2.length else gF σ2 10 k := by
      intro k
      rw [e5, gF_stF, if_pos rfl]
    have bA : gA σ5 = gA σ := by rw [e5]; exact aA
    have fr5 : Fr [10] [48, 49, 50, 51, 52, 53, 54] σ0 σ5 := by
      rw [e5]
      exact (fr.tr fr2).stF (by simp)
    clear e5
    have p11 : gF σ5 10 11 = nI wt.length := by rw [g10, if_neg (by decide), q11]
    have p9 : gF σ5 10 9 = nI op2.length := by rw [g10, if_pos rfl]
    rw [p11, p9, nI_clamp (by omega), nI_clamp (by omega), bA, hwt.1.1, hwt.1.2, hop.2.1]
    refine ⟨vp_in_nI (by show _ < 64; exact hw) (by decide), vp_in_nI (by show _ < 16; omega) (by decide), vp_in_nI (by show _ < 64; exact hw) (by decide), ?_⟩
    refine sp_node (c := c) (w := w) (l := some a) (r := some b) (nd := nd) (op := op2) (wt := wt) (σ0 := σ0) rfl rfl rfl rfl ⟨fr5, ?_, ?_, p9, p11, ?_, ?_, ?_⟩ hn (by omega) (fun σ6 h6 => h σ6 ?_)
    · intro k hk
      have hk2 := hk
      simp only [List.mem_cons, List.not_mem_nil, or_false, not_or] at hk2
      rw [g10, if_neg hk2.2.1]
      exact hg2 k hk
    · rw [g10, if_neg (by decide)]; exact q4
    · rw [bA]; exact hnd
    · rw [bA]; exact hop.2.2
    · rw [bA]; exact hwt.2
    · unfold rnode
      rw [z]
      exact h6
  · rw [z] at hl1
    rw [q11, nI_clamp (by omega), aA, hwt.1.1, hwt.1.2]
    refine ⟨vp_in_nI (by show _ < 64; exact hw) (by decide), vp_in_nI (by show _ < 64; exact hw) (by decide), ?_⟩
    refine sp_node (c := c) (w := w) (l := some b) (r := none) (nd := nd) (op := op1) (wt := wt) (σ0 := σ0) rfl rfl rfl rfl ⟨fr.tr fr2, hg2, q4, q9, q11, ?_, ?_, ?_⟩ hn hb15 (fun σ6 h6 => h σ6 ?_)
    · rw [aA]; exact hnd
    · rw [aA]; exact hop.2
    · rw [aA]; exact hwt.2
    · unfold rnode
      rw [z]
      exact h6
