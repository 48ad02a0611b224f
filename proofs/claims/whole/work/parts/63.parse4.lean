/-! ===== read: the reference's parse, a byte ===== -/
def PIp (s : PSt) : Prop := Gnd s.2.2.2.1 s.2.2.2.2.1 ∧ s.2.2.2.2.1.length = binn s.2.2.2.2.2 + (if s.2.2.1 = true then 0 else 1) ∧ wtok s.2.2.2.2.2 ∧ s.2.2.2.1.length + pend s.2.2.2.2.2 = s.1 ∧ s.1 ≤ 9 ∧ parn s.2.2.2.2.2 = s.2.1 ∧ s.2.1 ≤ 8
theorem PIp.li {told opn : Nat} {nd : List NdT} {op : List Nat} {wt : PWt} (h : PIp (told, opn, false, nd, op, wt)) : LIp nd op wt := by
  obtain ⟨h1, h2, h3, h4, h5, h6, h7⟩ := h
  simp only at h1 h2 h3 h4 h5 h6 h7
  exact ⟨h1, h2, h3, by omega, by omega⟩
theorem ltr_no {c : Nat} (h : ltr c = true) : futS c = false ∧ pasS c = false ∧ pfx c = false ∧ rnk c = 0 ∧ ¬ c = 40 ∧ ¬ c = 41 ∧ ¬ c = 32 := by
  have hc : c < 101 := by
    unfold ltr at h
    simp only [Bool.or_eq_true, Bool.and_eq_true, decide_eq_true_eq, beq_iff_eq] at h
    omega
  have all : ∀ c, c < 101 → ltr c = true → futS c = false ∧ pasS c = false ∧ pfx c = false ∧ rnk c = 0 ∧ ¬ c = 40 ∧ ¬ c = 41 ∧ ¬ c = 32 := by decide +kernel
  exact all c hc h
theorem rnk_pos {c : Nat} (h : 0 < rnk c) : ¬ c = 40 ∧ ¬ c = 41 ∧ pfx c = false ∧ ltr c = false ∧ markb c = true := by
  have hc : c < 86 := by
    unfold rnk at h
    by_cases q : c = 85 ∨ c = 83
    · omega
    · rw [if_neg q] at h
      by_cases q1 : c = 38
      · omega
      · rw [if_neg q1] at h
        by_cases q2 : c = 47
        · omega
        · rw [if_neg q2] at h
          by_cases q3 : c = 62
          · omega
          · rw [if_neg q3] at h; omega
  have all : ∀ c, c < 86 → 0 < rnk c → ¬ c = 40 ∧ ¬ c = 41 ∧ pfx c = false ∧ ltr c = false ∧ markb c = true := by decide +kernel
  exact all c hc h
theorem parn_pos_mem {wt : PWt} {own : Nat} {nd : List NdT} {op : List Nat} (h : 0 < parn wt) : rdb own 40 = false → (∃ w wt', (rdt 0 wt nd op).2.2 = (40, w) :: wt') := by
  intro _
  induction wt generalizing nd op with
  | nil => simp [parn] at h
  | cons x wt ih =>
    obtain ⟨c, w⟩ := x
    rw [rdt_cons]
    by_cases q : c = 40
    · subst q
      exact ⟨w, wt, rfl⟩
    · simp only [parn, if_neg q] at h
      have hb : rdb 0 c = true := by
        unfold rdb
        rw [beq_eq_false_iff_ne.mpr q]
        by_cases r : 0 < rnk c
        · rw [decide_eq_true r]; rfl
        · rw [decide_eq_false r, decide_eq_true (show rnk c = 0 by omega)]; rfl
      rw [if_pos hb]
      exact ih (by omega)
theorem rdt0_nil {wt : PWt} (nd : List NdT) (op : List Nat) (h : parn wt = 0) : (rdt 0 wt nd op).2.2 = [] := by
  induction wt generalizing nd op with
  | nil => rfl
  | cons x wt ih =>
    obtain ⟨c, w⟩ := x
    rw [rdt_cons]
    by_cases q : c = 40
    · simp only [parn, if_pos q] at h; omega
    · simp only [parn, if_neg q] at h
      have hb : rdb 0 c = true := by
        unfold rdb
        rw [beq_eq_false_iff_ne.mpr q]
        by_cases r : 0 < rnk c
        · rw [decide_eq_true r]; rfl
        · rw [decide_eq_false r, decide_eq_true (show rnk c = 0 by omega)]; rfl
      rw [if_pos hb]
      exact ih _ _ (by omega)
theorem pstp_ok {k c : Nat} {s s' : PSt} (hs : PIp s) (hk : k < 60) (hc : c < 256) (h : pstp k c s = some s') : PIp s' := by
  obtain ⟨told, opn, wanted, nd, op, wt⟩ := s
  obtain ⟨h1, h2, h3, h4, h5, h6, h7⟩ := hs
  simp only at h1 h2 h3 h4 h5 h6 h7
  unfold pstp at h
  simp only at h
  by_cases q32 : c = 32
  · rw [if_pos q32] at h
    cases h
    exact ⟨h1, h2, h3, h4, h5, h6, h7⟩
  rw [if_neg q32] at h
  by_cases qm : mayb c opn wanted = false ∨ 9 < told + (if markb c = true then 1 else 0)
  · rw [if_pos qm] at h; cases h
  rw [if_neg qm] at h
  have hmay : mayb c opn wanted = true := by cases q : mayb c opn wanted with | false => exact absurd (Or.inl q) qm | true => rfl
  have htold : ¬ 9 < told + (if markb c = true then 1 else 0) := fun z => qm (Or.inr z)
  by_cases ql : ltr c = true
  · rw [if_pos ql] at h
    obtain ⟨n1, n2, n3, n4, n5, n6, n7⟩ := ltr_no ql
    have hw : wanted = true := by
      cases q : wanted with
      | true => rfl
      | false =>
        rw [q] at hmay
        unfold mayb at hmay
        rw [n4, beq_eq_false_iff_ne.mpr n6] at hmay
        cases hmay
    have hmk : markb c = true := by unfold markb; rw [ql]; rfl
    rw [if_pos hmk] at htold
    rw [hw] at h2
    simp only [if_true, Nat.add_zero] at h2
    have hg := Gnd_leaf (w := k) h1 hc hk ⟨n1, n2⟩
    have hr := rdp_ok wt _ _ hg (by simp only [List.length_cons]; omega) h3
    cases h
    refine ⟨hr.1, hr.2.1, hr.2.2.1, ?_, by simp only; omega, by rw [← h6]; exact hr.2.2.2.2, h7⟩
    simp only
    rw [hr.2.2.2.1]
    simp only [List.length_cons]
    omega
  rw [if_neg ql] at h
  have qlf : ltr c = false := by cases q : ltr c with | false => rfl | true => exact absurd q ql
  by_cases q41 : c = 41
  · rw [if_pos q41] at h
    have hw : wanted = false := by
      cases q : wanted with
      | false => rfl
      | true => rw [q, q41] at hmay; cases hmay
    have hop : 0 < opn := by
      rw [hw, q41] at hmay
      unfold mayb at hmay
      simp only [Bool.false_eq_true, if_false] at hmay
      have : decide (0 < rnk 41) = false := by decide
      rw [this] at hmay
      simpa using hmay
    rw [hw] at h2
    have hr := rdt_ok (own := 0) wt nd op h1 h2 h3
    obtain ⟨w, wt', he⟩ := parn_pos_mem (own := 0) (nd := nd) (op := op) (wt := wt) (by omega) rfl
    rw [he] at hr h
    obtain ⟨r1, r2, r3, r4, r5⟩ := hr
    simp only [binn, pend, parn, if_pos, true_or, Nat.zero_add] at r2 r4 r5
    simp only [List.tail_cons] at h
    have hr2 := rdp_ok wt' _ _ r1 r2 (fun x hx => r3 x (List.mem_cons_of_mem _ hx))
    cases h
    refine ⟨hr2.1, by rw [hw]; exact hr2.2.1, hr2.2.2.1, ?_, h5, ?_, by simp only; omega⟩
    · simp only
      rw [hr2.2.2.2.1]; omega
    · simp only
      rw [hr2.2.2.2.2]; omega
  rw [if_neg q41] at h
  by_cases qr : 0 < rnk c
  · rw [if_pos qr] at h
    obtain ⟨n1, n2, n3, n4, n5⟩ := rnk_pos qr
    have hw : wanted = false := by
      cases q : wanted with
      | false => rfl
      | true =>
        rw [q] at hmay
        unfold mayb at hmay
        rw [n3, n4, beq_eq_false_iff_ne.mpr n1] at hmay
        cases hmay
    rw [hw] at h2
    rw [if_pos n5] at htold
    have hr := rdt_ok (own := rnk c) wt nd op h1 h2 h3
    cases h
    refine ⟨hr.1, ?_, ?_, ?_, by simp only; omega, ?_, h7⟩
    · simp only [binn, if_true]
      rw [if_neg (fun z => z.elim n1 (fun z => by rw [n3] at z; cases z)), hr.2.1]
      omega
    · intro x hx
      rcases List.mem_cons.mp hx with e | e
      · rw [e]; exact ⟨hc, hk⟩
      · exact hr.2.2.1 x e
    · simp only [pend, if_neg n1]
      have := hr.2.2.2.1
      omega
    · simp only [parn, if_neg n1]
      have := hr.2.2.2.2
      omega
  rw [if_neg qr] at h
  have hw : wanted = true := by
    cases q : wanted with
    | true => rfl
    | false =>
      rw [q] at hmay
      unfold mayb at hmay
      rw [decide_eq_false qr, beq_eq_false_iff_ne.mpr q41] at hmay
      cases hmay
  rw [hw] at hmay h2
  unfold mayb at hmay
  simp only [if_true, qlf, Bool.false_or, Bool.or_eq_true, Bool.and_eq_true, beq_iff_eq, decide_eq_true_eq] at hmay
  cases h
  by_cases q40 : c = 40
  · subst q40
    have m40 : markb 40 = false := by decide
    have p40 : pfx 40 = false := by decide
    rcases hmay with z | ⟨_, z⟩
    · rw [p40] at z; cases z
    refine ⟨h1, ?_, ?_, ?_, ?_, ?_, ?_⟩
    · simp only [binn, if_true, true_or]
      simp only [if_true] at h2
      omega
    · intro x hx
      rcases List.mem_cons.mp hx with e | e
      · rw [e]; exact ⟨hc, hk⟩
      · exact h3 x e
    · simp only [pend, m40, if_true, Bool.false_eq_true, if_false]
      omega
    · simp only [m40, Bool.false_eq_true, if_false]
      omega
    · simp only [parn, if_true]; omega
    · simp only [if_true]; omega
  · have hp : pfx c = true := by
      rcases hmay with z | ⟨z, _⟩
      · exact z
      · exact absurd z q40
    have hmk : markb c = true := by unfold markb; rw [hp, Bool.or_true]; rfl
    rw [if_pos hmk] at htold
    refine ⟨h1, ?_, ?_, ?_, ?_, ?_, ?_⟩
    · simp only [binn, if_true, hp, or_true]
      simp only [if_true] at h2
      omega
    · intro x hx
      rcases List.mem_cons.mp hx with e | e
      · rw [e]; exact ⟨hc, hk⟩
      · exact h3 x e
    · simp only [pend, if_neg q40, hmk, if_true]
      omega
    · simp only [hmk, if_true]
      omega
    · simp only [parn, if_neg q40]; omega
    · simp only [if_neg q40]; exact h7
