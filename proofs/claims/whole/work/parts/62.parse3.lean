/-! ===== read: the reference's parse ===== -/
theorem rdt_cons {own c w : Nat} {wt : PWt} {nd : List NdT} {op : List Nat} : rdt own ((c, w) :: wt) nd op = if rdb own c = true then rdt own wt (rnode nd op c w).1 (rnode nd op c w).2 else (nd, op, (c, w) :: wt) := rfl
theorem rdp_cons {c w : Nat} {wt : PWt} {nd : List NdT} {op : List Nat} : rdp ((c, w) :: wt) nd op = if pfx c = true then rdp wt (rnode nd op c w).1 (rnode nd op c w).2 else (nd, op, (c, w) :: wt) := rfl
def LIp (nd : List NdT) (op : List Nat) (wt : PWt) : Prop := Gnd nd op ∧ op.length = binn wt + 1 ∧ wtok wt ∧ nd.length + pend wt ≤ 9 ∧ parn wt ≤ 8
theorem len_pp : ∀ wt : PWt, wt.length = pend wt + parn wt
  | [] => rfl
  | x :: wt => by
    simp only [List.length_cons, pend, parn]
    have := len_pp wt
    split <;> omega
theorem binn_le : ∀ wt : PWt, binn wt ≤ pend wt
  | [] => Nat.le_refl 0
  | x :: wt => by
    simp only [binn, pend]
    have := binn_le wt
    by_cases q : x.1 = 40
    · rw [if_pos (Or.inl q), if_pos q]; omega
    · rw [if_neg q]; split <;> omega
/-- one reduce, where it may be -/
theorem LIp_red {nd : List NdT} {op : List Nat} {wt : PWt} {c w : Nat} (h : LIp nd op ((c, w) :: wt)) (hc : ¬ c = 40) : LIp (rnode nd op c w).1 (rnode nd op c w).2 wt ∧ op.length = (if pfx c = true then 0 else 1) + binn wt + 1 ∧ nd.length < 9 ∧ wt.length < 64 ∧ binn wt < 14 ∧ c < 256 := by
  obtain ⟨h1, h2, h3, h4, h5⟩ := h
  have hcw := h3 (c, w) (List.mem_cons_self ..)
  have hl : op.length = (if pfx c = true then 0 else 1) + binn wt + 1 := by
    rw [h2]
    simp only [binn]
    by_cases p : pfx c = true
    · rw [if_pos p, if_pos (Or.inr p)]
    · rw [if_neg p, if_neg (fun z => z.elim hc p)]
  have hr := rnode_ok (m := binn wt) (c := c) (w := w) h1 hl hcw.1 hcw.2
  simp only [pend, parn, if_neg hc] at h4 h5
  have hlen := len_pp wt
  have hb := binn_le wt
  refine ⟨⟨hr.1, hr.2.1, fun x hx => h3 x (List.mem_cons_of_mem _ hx), ?_, by omega⟩, hl, by omega, by omega, by omega, hcw.1⟩
  rw [hr.2.2]; omega
theorem sp_reduceTo {σ0 σ : Sg} {nd : List NdT} {op : List Nat} {wt : PWt} {c : Nat} {x : Int32} {Q : Sg → Prop} (hx : x = nI c) (hc : c < 256) (hR : RPn σ0 σ nd op wt) (hL : LIp nd op wt) (h : ∀ σ1, RPn σ0 σ1 (rdt (rnk c) wt nd op).1 (rdt (rnk c) wt nd op).2.1 (rdt (rnk c) wt nd op).2.2 → Q σ1) : wp_X9_reduceTo x σ Q := by
  unfold wp_X9_reduceTo
  refine sp_rank hx hc ?_
  have hown := rnk_le c
  generalize rnk c = own at h hown
  -- the loop
  have lp : ∀ b : Bool, b = (own == 4 || own == 1) → wp_X9_reduceTo_20 (nI own) (bI b) Q σ := by
    intro b hb
    refine loop_m (σ := Sg × List NdT × List Nat × PWt) (fun n a => wl_X9_reduceTo_21 (nI own) (bI b) Q n a.1) (fun a => RPn σ0 a.1 a.2.1 a.2.2.1 a.2.2.2 ∧ LIp a.2.1 a.2.2.1 a.2.2.2 ∧ rdt own a.2.2.2 a.2.1 a.2.2.1 = rdt own wt nd op) (fun a => a.2.2.2.length) ?_ (σ, nd, op, wt) ⟨hR, hL, rfl⟩
    rintro n ⟨τ, nd1, op1, wt1⟩ ⟨hR1, hL1, hE⟩ hs
    simp only at hR1 hL1 hE hs ⊢
    show wb_X9_reduceTo_21 _ _ _ _ _
    unfold wb_X9_reduceTo_21
    have h11 := hR1.2.2.2.2.1
    match wt1, hR1, hL1, hE, hs, h11 with
    | [], hR1, hL1, hE, hs, h11 =>
      have h12 : gF τ 10 11 = nI 0 := h11
      rw [h12]
      refine pk_le 0 0 (fun _ => ?_) (fun z => by omega)
      refine h τ ?_
      rw [← hE]; exact hR1
    | (c1, w1) :: wt2, hR1, hL1, hE, hs, h11 =>
      have hlen := len_pp ((c1, w1) :: wt2)
      have hb2 := hL1.2.2.2.1
      have hb3 := hL1.2.2.2.2
      simp only [List.length_cons] at h11 hlen
      have hcw := hL1.2.2.1 (c1, w1) (List.mem_cons_self ..)
      simp only at hcw
      have h53 := hR1.2.2.2.2.2.2.2.1.1
      simp only at h53
      rw [h11, pk_sub (by omega), Nat.add_sub_cancel, nI_clamp (by omega), h53]
      refine pk_le (wt2.length + 1) 0 (fun z => by omega) (fun _ => ⟨vp_in_nI (by show _ < 64; omega) (by decide), ?_⟩)
      rw [rdt_cons] at hE
      have stop : rdb own c1 = false → Q τ := by
        intro z
        rw [z] at hE
        refine h τ ?_
        rw [← hE]
        exact hR1
      have go : rdb own c1 = true → ¬ c1 = 40 → wp_X9_reduceTo_84 (nI own) (bI b) (wl_X9_reduceTo_21 (nI own) (bI b) Q n) Q τ := by
        intro z hne
        rw [if_pos z] at hE
        obtain ⟨l1, l2, l3, l4, l5, l6⟩ := LIp_red hL1 hne
        exact sp_reduce hR1 l6 l3 l4 l2 l5 (fun σ1 r1 => hs (σ1, _, _, wt2) ⟨r1, l1, hE⟩ (Nat.lt_succ_self _))
      refine pk_eq c1 40 (fun e => stop (by rw [e]; rfl)) (fun ne => ⟨vp_in_nI (by show _ < 64; omega) (by decide), ?_⟩)
      have hrk := rnk_le c1
      have hne40 : (c1 == 40) = false := beq_eq_false_iff_ne.mpr ne
      refine sp_rank rfl hcw.1 (pk_lt own (rnk c1) (fun q => go ?_ ne) (fun q => ⟨?_, ?_⟩))
      · unfold rdb
        rw [hne40, decide_eq_true q]; rfl
      · rw [h11, pk_sub (by omega), Nat.add_sub_cancel]
        exact vp_in_nI (by show _ < 64; omega) (by decide)
      · rw [h11, pk_sub (by omega), Nat.add_sub_cancel, nI_clamp (by omega), h53]
        refine sp_rank rfl hcw.1 (pk_eq (rnk c1) own (fun e => ?_) (fun e => stop ?_)).symm
        · refine bI_rb (fun y => stop ?_) (fun y => go ?_ ne)
          · unfold rdb
            rw [hne40, decide_eq_false (show ¬ own < rnk c1 by omega), ← hb, y, Bool.not_true, Bool.and_false]; rfl
          · unfold rdb
            rw [hne40, decide_eq_false (show ¬ own < rnk c1 by omega), decide_eq_true e, ← hb, y]; rfl
        · unfold rdb
          rw [hne40, decide_eq_false (show ¬ own < rnk c1 by omega), decide_eq_false e]; rfl
  refine pk_eq own 4 (fun e => lp true (by rw [e]; rfl)) (fun n4 => (pk_eq own 1 (fun e => lp true (by rw [e]; rfl)) (fun n1 => lp false ?_)).symm)
  rw [beq_eq_false_iff_ne.mpr n4, beq_eq_false_iff_ne.mpr n1]; rfl
/-- the loop that puts the signs that stand ahead of one -/
theorem sp_prefixes {σ0 σ : Sg} {nd : List NdT} {op : List Nat} {wt : PWt} {v1 v2 v4 : Int32} {K : Sg → Prop} {Q : Int32 → Sg → Prop} (hR : RPn σ0 σ nd op wt) (hL : LIp nd op wt) (h : ∀ σ1, RPn σ0 σ1 (rdp wt nd op).1 (rdp wt nd op).2.1 (rdp wt nd op).2.2 → K σ1) : ∃ n, wl_X9_parse_301 v1 v2 (nI 0) v4 K Q n σ := by
  refine loop_m (σ := Sg × List NdT × List Nat × PWt) (fun n a => wl_X9_parse_301 v1 v2 (nI 0) v4 K Q n a.1) (fun a => RPn σ0 a.1 a.2.1 a.2.2.1 a.2.2.2 ∧ LIp a.2.1 a.2.2.1 a.2.2.2 ∧ rdp a.2.2.2 a.2.1 a.2.2.1 = rdp wt nd op) (fun a => a.2.2.2.length) ?_ (σ, nd, op, wt) ⟨hR, hL, rfl⟩
  rintro n ⟨τ, nd1, op1, wt1⟩ ⟨hR1, hL1, hE⟩ hs
  simp only at hR1 hL1 hE hs ⊢
  show wb_X9_parse_301 _ _ _ _ _ _ _ _
  unfold wb_X9_parse_301
  refine ⟨fun z => absurd rfl z, fun _ => ?_⟩
  have h11 := hR1.2.2.2.2.1
  match wt1, hR1, hL1, hE, hs, h11 with
  | [], hR1, hL1, hE, hs, h11 =>
    have h12 : gF τ 10 11 = nI 0 := h11
    rw [h12]
    refine pk_le 0 0 (fun _ => ?_) (fun z => by omega)
    refine h τ ?_
    rw [← hE]; exact hR1
  | (c1, w1) :: wt2, hR1, hL1, hE, hs, h11 =>
    have hlen := len_pp ((c1, w1) :: wt2)
    have hb2 := hL1.2.2.2.1
    have hb3 := hL1.2.2.2.2
    simp only [List.length_cons] at h11 hlen
    have hcw := hL1.2.2.1 (c1, w1) (List.mem_cons_self ..)
    simp only at hcw
    have h53 := hR1.2.2.2.2.2.2.2.1.1
    simp only at h53
    rw [h11, pk_sub (by omega), Nat.add_sub_cancel, nI_clamp (by omega), h53]
    refine pk_le (wt2.length + 1) 0 (fun z => by omega) (fun _ => ⟨vp_in_nI (by show _ < 64; omega) (by decide), ?_⟩)
    rw [rdp_cons] at hE
    refine sp_isPrefix rfl hcw.1 (bI_br (fun z => ?_) (fun z => ?_))
    · rw [z] at hE
      refine h τ ?_
      rw [← hE]
      exact hR1
    · rw [if_pos z] at hE
      have hne : ¬ c1 = 40 := by
        intro e; subst e
        have : pfx 40 = false := rfl
        rw [this] at z; cases z
      obtain ⟨l1, l2, l3, l4, l5, l6⟩ := LIp_red hL1 hne
      exact sp_reduce hR1 l6 l3 l4 l2 l5 (fun σ1 r1 => hs (σ1, _, _, wt2) ⟨r1, l1, hE⟩ (Nat.lt_succ_self _))
