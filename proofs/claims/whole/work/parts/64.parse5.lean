/-! ===== read: the reference's parse, all ===== -/
theorem sby_and {n : Nat} (h : n < 256) : sby n &&& nI 255 = nI n := by
  have all : ∀ n, n < 256 → sby n &&& nI 255 = nI n := by decide +kernel
  exact all n h
theorem nI_gt {a b : Nat} (ha : a < 2 ^ 31) (hb : b < 2 ^ 31) {A B : Prop} (f : b < a → A) (g : a ≤ b → B) : (¬ nI a ≤ nI b → A) ∧ (nI a ≤ nI b → B) := by
  rw [nI_leI ha hb]
  exact ⟨fun z => f (by omega), g⟩
theorem sp_byte {σ0 σ : Sg} {k c nb : Nat} {s : PSt} {K24 : Int32 → Int32 → Int32 → Int32 → Sg → Prop} {K205 : Int32 → Sg → Prop} {K342 : Int32 → Int32 → Sg → Prop} {Q : Int32 → Sg → Prop} (hs : PIp s) (hR : RPn σ0 σ s.2.2.2.1 s.2.2.2.2.1 s.2.2.2.2.2) (hk : k < nb) (hnb : nb ≤ 60) (hc : c < 256) (h1 : gF σ 10 1 = nI nb) (h47 : gA σ 47 k = sby c) (hfail : pstp k c s = none → K205 (nI k) σ) (hgo : ∀ s' σ', pstp k c s = some s' → RPn σ0 σ' s'.2.2.2.1 s'.2.2.2.2.1 s'.2.2.2.2.2 → K24 (nI s'.1) (nI s'.2.1) (bI s'.2.2.1) (nI (k + 1)) σ') : wb_X9_parse_24 (nI s.1) (nI s.2.1) (bI s.2.2.1) (nI k) K24 K205 K342 Q σ := by
  have hok := fun s' => pstp_ok (s' := s') hs (show k < 60 by omega) hc
  obtain ⟨told, opn, wanted, nd, op, wt⟩ := s
  have hs0 := hs
  obtain ⟨i1, i2, i3, i4, i5, i6, i7⟩ := hs
  simp only at i1 i2 i3 i4 i5 i6 i7 hR ⊢
  have hlen := len_pp wt
  unfold wb_X9_parse_24
  rw [h1, nI_clamp (by omega), h47]
  refine pk_le nb k (fun z => by omega) (fun _ => ⟨vp_in_nI (by show k < 60; omega) (by decide), ?_⟩)
  intro x44 e44
  rw [sby_and hc] at e44
  subst e44
  have rkl := rnk_le c
  -- behind the guards
  have p192 : c ≠ 32 → ∀ t : Nat, t = (if mayb c opn wanted && markb c then 1 else 0) → wp_X9_parse_192 (nI opn) (bI wanted) (nI k) (nI c) (bI (ltr c)) (bI (mayb c opn wanted)) (nI t) (nI told) K24 K205 Q σ := by
    intro q32 t ht x193 e193
    rw [nI_add] at e193
    subst e193
    have hp := hfail
    unfold pstp at hp hgo
    simp only [if_neg q32] at hp hgo
    refine bI_br (fun z => hp (if_pos (Or.inl z))) (fun z => ?_)
    rw [z, Bool.true_and] at ht
    refine pk_le (told + t) 9 (fun h9 => ?_) (fun h9 => hp (if_pos (Or.inr (by rw [← ht]; exact h9)))) rfl rfl (by rw [ht]; split <;> omega)
    have hng : ¬ (mayb c opn wanted = false ∨ 9 < told + (if markb c = true then 1 else 0)) := by
      rw [z, ← ht]
      exact fun w => w.elim (fun w => by cases w) (fun w => by omega)
    simp only [if_neg hng] at hgo
    clear hp hfail hng
    refine bI_br (fun hl => ?_) (fun hl => ?_)
    · simp only [hl, Bool.false_eq_true, if_false] at hgo
      refine (pk_eq c 41 (fun q41 => ?_) (fun q41 => ?_)).symm
      · subst q41
        have m41 : markb 41 = false := by decide
        rw [m41] at ht
        simp only [Bool.false_eq_true, if_false] at ht
        subst ht
        have hw : wanted = false := by
          cases q : wanted with
          | false => rfl
          | true => rw [q] at z; cases z
        have hop : 0 < opn := by
          rw [hw] at z
          unfold mayb at z
          simp only [Bool.false_eq_true, if_false] at z
          have : decide (0 < rnk 41) = false := by decide
          rw [this] at z
          simpa using z
        rw [hw] at hs0 hgo ⊢
        simp only [if_true] at hgo
        have hli := PIp.li hs0
        refine sp_reduceTo (c := 0) rfl (by decide) hR hli (fun σ1 r1 => ?_)
        have hr0 : rnk 0 = 0 := by decide
        rw [hr0] at r1
        have hr := rdt_ok (own := 0) wt nd op hli.1 hli.2.1 hli.2.2.1
        obtain ⟨w, wt', he⟩ := parn_pos_mem (own := 0) (nd := nd) (op := op) (wt := wt) (by omega) rfl
        rw [he] at hr hgo r1
        obtain ⟨r1', r2', r3', r4', r5'⟩ := hr
        simp only [binn, pend, parn, if_pos, true_or, Nat.zero_add] at r2' r4' r5'
        simp only [List.tail_cons] at hgo
        obtain ⟨t1, t2, t3, t4, t5, t6, t7, t8⟩ := r1
        simp only [List.length_cons] at t5
        have hlw := len_pp wt'
        intro σ5 e5 x256 e256
        rw [t5, pk_sub (by omega), Nat.add_sub_cancel] at e5
        have e256' : x256 = nI (opn - 1) := by
          rw [e256]
          have := pk_sub (a := opn) (b := 1) (by omega)
          rw [← this, Int32.sub_eq_add_neg]
          rfl
        subst e256'
        have hR5 : RPn σ0 σ5 (rdt 0 wt nd op).1 (rdt 0 wt nd op).2.1 wt' := by
          refine ⟨?_, ?_, ?_, ?_, ?_, ?_, ?_, ?_⟩
          · rw [e5]; exact t1.stF (by simp)
          · intro j hj
            have hj2 := hj
            simp only [List.mem_cons, List.not_mem_nil, or_false, not_or] at hj2
            rw [e5, gF_stF, if_pos rfl, if_neg hj2.2.2]
            exact t2 j hj
          · rw [e5, gF_stF, if_pos rfl, if_neg (by decide)]; exact t3
          · rw [e5, gF_stF, if_pos rfl, if_neg (by decide)]; exact t4
          · rw [e5, gF_stF, if_pos rfl, if_pos rfl]
          · rw [e5]; exact t6
          · rw [e5]; exact t7
          · rw [e5]; exact t8.2
        refine sp_prefixes hR5 ⟨r1', r2', fun x hx => r3' x (List.mem_cons_of_mem _ hx), by omega, by omega⟩ (fun σ6 r6 => ?_)
        intro x ex
        rw [ex, nI_add]
        exact hgo _ σ6 rfl r6
      · simp only [if_neg q41] at hgo
        refine sp_rank rfl hc ?_
        refine pk_le (rnk c) 0 (fun hr0 => ?_) (fun hr0 => ?_)
        · simp only [if_neg (show ¬ 0 < rnk c by omega)] at hgo
          have hw : wanted = true := by
            cases q : wanted with
            | true => rfl
            | false =>
              rw [q] at z
              unfold mayb at z
              rw [decide_eq_false (show ¬ 0 < rnk c by omega), beq_eq_false_iff_ne.mpr q41] at z
              cases z
          refine sp_push rfl rfl hR (by omega) (fun σ1 r1 => ?_)
          have fin : ∀ u : Nat, u = (if c = 40 then 1 else 0) → wp_X9_parse_297 (nI (told + t)) (nI k) (nI u) (nI opn) K24 Q σ1 := by
            intro u hu x ex
            rw [nI_add] at ex
            subst ex
            refine ⟨1, ?_⟩
            show wb_X9_parse_301 _ _ _ _ _ _ _ _
            refine ⟨fun _ => ?_, fun z => absurd z (by decide)⟩
            intro x ex
            rw [ex, nI_add]
            have := hgo _ σ1 rfl r1
            rw [ht, hu]
            exact this
          refine (pk_eq c 40 (fun e => fin 1 (by rw [if_pos e])) (fun e => fin 0 (by rw [if_neg e]))).symm
        · simp only [if_pos hr0] at hgo
          obtain ⟨n1, n2, n3, n4, n5⟩ := rnk_pos hr0
          rw [if_pos n5] at ht
          subst ht
          have hw : wanted = false := by
            cases q : wanted with
            | false => rfl
            | true =>
              rw [q] at z
              unfold mayb at z
              rw [n3, n4, beq_eq_false_iff_ne.mpr n1] at z
              cases z
          rw [hw] at hs0
          have hli := PIp.li hs0
          refine sp_reduceTo rfl hc hR hli (fun σ1 r1 => ?_)
          have hr := rdt_ok (own := rnk c) wt nd op hli.1 hli.2.1 hli.2.2.1
          have hlw := len_pp (rdt (rnk c) wt nd op).2.2
          refine sp_push rfl rfl r1 (by omega) (fun σ2 r2 => ?_)
          refine (pk_eq c 40 (fun e => absurd e n1) (fun _ => ?_)).symm
          intro x ex
          rw [nI_add] at ex
          subst ex
          refine ⟨1, ?_⟩
          show wb_X9_parse_301 _ _ _ _ _ _ _ _
          refine ⟨fun _ => ?_, fun z => absurd z (by decide)⟩
          intro x ex
          rw [ex, nI_add]
          exact hgo _ σ2 rfl r2
    · simp only [hl, if_true] at hgo
      obtain ⟨n1, n2, n3, n4, n5, n6, n7⟩ := ltr_no hl
      have hmk : markb c = true := by unfold markb; rw [hl]; rfl
      rw [if_pos hmk] at ht
      subst ht
      have hw : wanted = true := by
        cases q : wanted with
        | true => rfl
        | false =>
          rw [q] at z
          unfold mayb at z
          rw [n4, beq_eq_false_iff_ne.mpr n6] at z
          cases z
      rw [hw] at i2
      simp only [if_true, Nat.add_zero] at i2
      have hbl := binn_le wt
      refine sp_node (l := none) (r := none) rfl rfl rfl rfl hR (by omega) (by omega) (fun σ1 r1 => ?_)
      refine sp_prefixes r1 ⟨Gnd_leaf i1 hc (by omega) ⟨n1, n2⟩, by simp only [List.length_cons]; omega, i3, by simp only [List.length_cons]; omega, by omega⟩ (fun σ2 r2 => ?_)
      intro x ex
      rw [ex, nI_add]
      exact hgo _ σ2 rfl r2
  have p174 : c ≠ 32 → wp_X9_parse_174 (nI told) (nI opn) (bI wanted) (nI k) (nI c) (bI (ltr c)) (bI (markb c)) (bI (mayb c opn wanted)) K24 K205 Q σ := by
    intro q32
    have go := p192 q32
    refine bI_br (fun z => ?_) (fun z => bI_br (fun y => ?_) (fun y => ?_))
    · have := go 0 (by rw [z]; rfl)
      rw [z] at this ⊢; exact this
    · have := go 0 (by rw [y, Bool.and_false]; rfl)
      rw [z] at this ⊢; exact this
    · have := go 1 (by rw [y, z]; rfl)
      rw [z] at this ⊢; exact this
  have p100 : wp_X9_parse_100 (nI told) (nI opn) (bI wanted) (nI k) (nI c) (bI (ltr c)) (bI (markb c)) K24 K205 Q σ := by
    refine (pk_eq c 32 (fun q32 => ?_) (fun q32 => ?_)).symm
    · have e : pstp k c (told, opn, wanted, nd, op, wt) = some (told, opn, wanted, nd, op, wt) := if_pos q32
      intro x ex
      rw [ex, nI_add]
      exact hgo _ σ e hR
    · have go := p174 q32
      have yes : mayb c opn wanted = true → wp_X9_parse_174 (nI told) (nI opn) (bI wanted) (nI k) (nI c) (bI (ltr c)) (bI (markb c)) (nI 1) K24 K205 Q σ := by
        intro e; rw [e] at go; exact go
      have no : mayb c opn wanted = false → wp_X9_parse_174 (nI told) (nI opn) (bI wanted) (nI k) (nI c) (bI (ltr c)) (bI (markb c)) (nI 0) K24 K205 Q σ := by
        intro e; rw [e] at go; exact go
      refine bI_br (fun hw => ?_) (fun hw => ?_)
      · subst hw
        refine sp_rank rfl hc (pk_lt 0 (rnk c) (fun q => yes ?_) (fun q => ?_))
        · unfold mayb; rw [decide_eq_true q]; rfl
        · refine (pk_eq c 41 (fun e => ?_) (fun e => no ?_)).symm
          · refine pk_le opn 0 (fun y => no ?_) (fun y => yes ?_)
            · unfold mayb
              rw [decide_eq_false (show ¬ 0 < rnk c by omega), decide_eq_false (show ¬ 0 < opn by omega), Bool.and_false]; rfl
            · unfold mayb
              rw [e, decide_eq_true y, Bool.and_true]
              simp
          · unfold mayb
            rw [decide_eq_false (show ¬ 0 < rnk c by omega), beq_eq_false_iff_ne.mpr e]; rfl
      · subst hw
        refine bI_rb (fun z => yes ?_) (fun z => ?_)
        · unfold mayb; rw [z]; rfl
        · refine sp_isPrefix rfl hc (bI_rb (fun y => yes ?_) (fun y => ?_))
          · unfold mayb; rw [y, Bool.or_true]; rfl
          · refine (pk_eq c 40 (fun e => pk_lt 7 opn (fun w => no ?_) (fun w => yes ?_)) (fun e => no ?_)).symm
            · unfold mayb
              rw [z, y, decide_eq_false (show ¬ opn ≤ 7 by omega), Bool.and_false]; rfl
            · unfold mayb
              rw [e, decide_eq_true w]
              simp
            · unfold mayb
              rw [z, y, beq_eq_false_iff_ne.mpr e]; rfl
  have p95 : markb c = true → wp_X9_parse_95 (nI told) (nI opn) (bI wanted) (nI k) (nI c) (bI (ltr c)) K24 K205 Q σ := by
    intro e; rw [e] at p100; exact p100
  have p72 : wp_X9_parse_72 (nI told) (nI opn) (bI wanted) (nI k) (nI c) (bI (ltr c)) K24 K205 Q σ := by
    refine bI_rb (fun z => p95 (by unfold markb; rw [z]; rfl)) (fun z => sp_isPrefix rfl hc (bI_rb (fun y => p95 (by unfold markb; rw [y, Bool.or_true]; rfl)) (fun y => sp_rank rfl hc (pk_le (rnk c) 0 (fun w => ?_) (fun w => p95 ?_)))))
    · have : markb c = false := by unfold markb; rw [z, y, decide_eq_false (show ¬ 0 < rnk c by omega)]; rfl
      rw [this] at p100; exact p100
    · unfold markb; rw [decide_eq_true w, Bool.or_true]
  have l46 : ltr 46 = true := by decide
  have p60 : ¬ (97 ≤ c ∧ c ≤ 100) → wp_X9_parse_60 (nI told) (nI opn) (bI wanted) (nI k) (nI c) K24 K205 Q σ := by
    intro hn
    refine (pk_eq c 46 (fun e => ?_) (fun e => ?_)).symm
    · have : ltr c = true := by rw [e]; exact l46
      rw [this] at p72; exact p72
    · have : ltr c = false := by
        unfold ltr
        rw [beq_eq_false_iff_ne.mpr e, Bool.or_false, Bool.and_eq_false_iff]
        by_cases q : 97 ≤ c
        · exact Or.inr (decide_eq_false (by omega))
        · exact Or.inl (decide_eq_false q)
      rw [this] at p72; exact p72
  refine pk_lt c 97 (fun z => p60 (by omega)) (fun z => pk_le c 100 (fun y => ?_) (fun y => p60 (by omega)))
  have : ltr c = true := by
    unfold ltr
    rw [decide_eq_true z, decide_eq_true y]; rfl
  rw [this] at p72; exact p72
