/-! ===== read: the class's reader, the levels ===== -/
def cxp (m : Nat) (W : PWt) : Prop := ∀ c w W', W = (c, w) :: W' → pfx c = false ∧ rnk c ≤ m
def PRL (tp : Nat → Nat) (nb k told opn : Nat) (nd : List NdT) (op : List Nat) (wt : PWt) : Nat ⊕ List NdT := PR tp nb (k + 1) (told, opn, false, rdp wt nd op)
theorem rdt_app {own : Nat} {W : PWt} : ∀ (P : PWt) (nd : List NdT) (op : List Nat), (∀ x, x ∈ P → rdb own x.1 = true) → rdt own (P ++ W) nd op = rdt own W (rda P nd op).1 (rda P nd op).2
  | [], nd, op, _ => rfl
  | (c, w) :: P, nd, op, h => by
    show rdt own ((c, w) :: (P ++ W)) nd op = _
    rw [rdt_cons, if_pos (h (c, w) (List.mem_cons_self ..))]
    exact rdt_app P _ _ (fun x hx => h x (List.mem_cons_of_mem _ hx))
theorem rda_app {Q : PWt} : ∀ (P : PWt) (nd : List NdT) (op : List Nat), rda (P ++ Q) nd op = rda Q (rda P nd op).1 (rda P nd op).2
  | [], nd, op => rfl
  | (c, w) :: P, nd, op => rda_app P _ _
theorem rdt_stop {own m : Nat} {W : PWt} {nd : List NdT} {op : List Nat} (h : cxp m W) (hm : m < own ∨ own = 4 ∨ (own = 1 ∧ m = 1)) : rdt own W nd op = (nd, op, W) := by
  match W, h with
  | [], _ => rfl
  | (c, w) :: W', h =>
    obtain ⟨_, h2⟩ := h c w W' rfl
    have h4 := rnk_le c
    have : rdb own c = false := by
      unfold rdb
      rw [decide_eq_false (show ¬ own < rnk c by omega), Bool.false_or]
      by_cases q : rnk c = own
      · have e : (own == 4 || own == 1) = true := by
          rcases hm with a | a | a
          · omega
          · rw [a]; rfl
          · rw [a.1]; rfl
        rw [e, Bool.not_true, Bool.and_false, Bool.and_false]
      · rw [decide_eq_false q, Bool.false_and, Bool.and_false]
    rw [rdt_cons, if_neg (by rw [this]; decide)]
theorem rdp_stop {m : Nat} {W : PWt} {nd : List NdT} {op : List Nat} (h : cxp m W) : rdp W nd op = (nd, op, W) := by
  match W, h with
  | [], _ => rfl
  | (c, w) :: W', h =>
    obtain ⟨h1, _⟩ := h c w W' rfl
    rw [rdp_cons, if_neg (by rw [h1]; decide)]
/-- the pending signs of a level -/
def Pok (lev : Nat) (P : PWt) : Prop := ∀ x, x ∈ P → x.1 ≠ 40 ∧ lev ≤ rnk x.1
theorem pok_rdb {lev own : Nat} {P : PWt} (h : Pok lev P) (hl : own < lev ∨ (own = lev ∧ own ≠ 4 ∧ own ≠ 1)) : ∀ x, x ∈ P → rdb own x.1 = true := by
  intro x hx
  obtain ⟨h1, h2⟩ := h x hx
  unfold rdb
  rw [beq_eq_false_iff_ne.mpr h1]
  by_cases q : own < rnk x.1
  · rw [decide_eq_true q]; rfl
  · have e : rnk x.1 = own := by omega
    have n : (own == 4 || own == 1) = false := by
      rcases hl with a | a
      · omega
      · rw [beq_eq_false_iff_ne.mpr a.2.1, beq_eq_false_iff_ne.mpr a.2.2]; rfl
    rw [decide_eq_false q, decide_eq_true e, n]; rfl
/-- the token of a sign between two -/
theorem PR_op {tp : Nat → Nat} {nb k c told opn : Nat} {nd nd2 : List NdT} {op op2 : List Nat} {wt W : PWt} (hk : k < nb) (hc : tp k = c) (h0 : 0 < rnk c) (ht : told < 9) (hr : rdt (rnk c) wt nd op = (nd2, op2, W)) : PR tp nb k (told, opn, false, nd, op, wt) = PR tp nb (k + 1) (told + 1, opn, true, nd2, op2, (c, k) :: W) := by
  refine PR_step hk ?_
  rw [hc]
  obtain ⟨n1, n2, n3, n4, n5⟩ := rnk_pos h0
  have n32 : ¬ c = 32 := by intro e; rw [e] at h0; exact absurd h0 (by decide)
  unfold pstp
  simp only [if_neg n32]
  have hm : mayb c opn false = true := by unfold mayb; rw [decide_eq_true h0]; rfl
  rw [if_neg (by rw [hm, n5]; exact fun z => z.elim (fun z => by cases z) (fun z => by simp only [if_true] at z; omega)), if_neg (by rw [n4]; decide), if_neg n2, if_pos h0, hr]
theorem PR_lim {tp : Nat → Nat} {nb k c told opn : Nat} {nd : List NdT} {op : List Nat} {wt : PWt} (hk : k < nb) (hc : tp k = c) (h0 : 0 < rnk c) (ht : told = 9) : PR tp nb k (told, opn, false, nd, op, wt) = .inl k := by
  refine PR_fail hk ?_
  rw [hc]
  obtain ⟨n1, n2, n3, n4, n5⟩ := rnk_pos h0
  have n32 : ¬ c = 32 := by intro e; rw [e] at h0; exact absurd h0 (by decide)
  unfold pstp
  simp only [if_neg n32]
  rw [if_pos (Or.inr (by rw [n5, ht]; decide))]
/-- the specs -/
def SpR (σ0 : Sg) (nb : Nat) (tp : Nat → Nat) (lev m c0 j d : Nat) : Prop := ∀ σ k told opn nd O W Q, XRd σ0 σ nb k told opn nd → k ≤ nb → told ≤ 9 → opn ≤ 8 → nd.length + pend W = told → cxp m W → 6 * (8 - opn) + (9 - told) + c0 ≤ d → (∀ σ' k' told' nd' op' P nd2 r, XRd σ0 σ' nb k' told' opn nd2 → k' ≤ nb → told' ≤ 9 → told < told' → nd2.length + pend W = told' → PR tp nb k (told, opn, true, nd, O, W) = PR tp nb k' (told', opn, false, nd', op', P ++ W) → rda P nd' op' = (nd2, r :: O) → Pok lev P → (k' < nb → tp k' ≠ 32 ∧ rnk (tp k') < lev) → Q (nI r) σ') → (∀ σ' f v, FSr σ0 σ' f → PR tp nb k (told, opn, true, nd, O, W) = .inl f → Q v σ') → wpS d j σ Q
def SpO (σ0 : Sg) (nb : Nat) (tp : Nat → Nat) (c0 j d : Nat) : Prop := ∀ σ k told opn nd O W Q, XRd σ0 σ nb k told opn nd → k ≤ nb → told ≤ 9 → opn ≤ 8 → nd.length + pend W = told → (j = 5 → k < nb ∧ tp k = 40) → 6 * (8 - opn) + (9 - told) + c0 ≤ d → (∀ σ' k' told' nd2 r, XRd σ0 σ' nb (k' + 1) told' opn nd2 → k' < nb → told' ≤ 9 → told < told' → nd2.length + pend W = told' → PR tp nb k (told, opn, true, nd, O, W) = PRL tp nb k' told' opn nd2 (r :: O) W → Q (nI r) σ') → (∀ σ' f v, FSr σ0 σ' f → PR tp nb k (told, opn, true, nd, O, W) = .inl f → Q v σ') → wpS d j σ Q
theorem rnk3 {c : Nat} (h : rnk c < 4) (h2 : c ≠ 38) : rnk c < 3 := by
  unfold rnk at h ⊢
  split at h
  · omega
  · rename_i q
    rw [if_neg q, if_neg h2]
    split
    · omega
    · split <;> omega
theorem rnk2 {c : Nat} (h : rnk c < 3) (h2 : c ≠ 47) : rnk c < 2 := by
  unfold rnk at h ⊢
  split at h
  · omega
  · rename_i q
    rw [if_neg q]
    split at h
    · omega
    · rename_i q1
      rw [if_neg q1, if_neg h2]
      split <;> omega
theorem rnk1 {c : Nat} (h : rnk c < 2) (h2 : c ≠ 62) : rnk c < 1 := by
  unfold rnk at h ⊢
  split at h
  · omega
  · rename_i q
    rw [if_neg q]
    split at h
    · omega
    · rename_i q1
      rw [if_neg q1]
      split at h
      · omega
      · rename_i q2
        rw [if_neg q2, if_neg h2]
        omega
theorem rnk4 {c : Nat} (h1 : c ≠ 85) (h2 : c ≠ 83) : rnk c < 4 := by
  unfold rnk
  rw [if_neg (fun z => z.elim h1 h2)]
  split
  · omega
  · split
    · omega
    · split <;> omega
theorem same_k {tp : Nat → Nat} {k k2 nb : Nat} (h1 : k ≤ k2) (h2 : k2 ≤ nb) (hb : ∀ i, k ≤ i → i < k2 → tp i = 32) (hn : k < nb → tp k ≠ 32) (hk : k ≤ nb) : k2 = k := by
  by_cases q : k < k2
  · exact absurd (hb k (Nat.le_refl k) q) (hn (by omega))
  · omega
theorem sp_readPair {σ0 : Sg} {nb d : Nat} {tp : Nat → Nat} (hT : Tpe σ0 nb tp) (h4 : SpO σ0 nb tp 2 4 d) (h3 : SpR σ0 nb tp 4 4 3 3 d) : SpR σ0 nb tp 4 4 3 3 (d + 1) := by
  intro σ k told opn nd O W Q hX hk ht ho hl hcx hd hs hf
  show wp_X5_readPair (wpS d) σ Q
  refine h4 σ k told opn nd O W _ hX hk ht ho hl (fun z => absurd z (by decide)) (by omega) (fun σ1 k1 t1 nd1 r1 hX1 hk1 ht1 hlt1 hl1 hp1 => ?_) (fun σ1 f v hF hp => ?_)
  · have hp1' : PR tp nb k (told, opn, true, nd, O, W) = PR tp nb (k1 + 1) (t1, opn, false, nd1, r1 :: O, W) := by
      rw [hp1]; unfold PRL; rw [rdp_stop hcx]
    -- a U or an S taken at k2
    have go : ∀ c, (c = 85 ∨ c = 83) → ∀ σ2 k2, k2 < nb → tp k2 = c → t1 < 9 → (∀ s, PR tp nb (k1 + 1) s = PR tp nb k2 s) → XRd σ0 σ2 nb (k2 + 1) (t1 + 1) opn nd1 → gF σ2 1 6 = nI k2 → wp_X5_readPair_34 (wpS d) (nI r1) (nI c) Q σ2 := by
      intro c hc σ2 k2 a b e g hX2 h6
      have hr : rnk c = 4 := by rcases hc with q | q <;> rw [q] <;> rfl
      have hpf : pfx c = false := by rcases hc with q | q <;> rw [q] <;> rfl
      have h256 : c < 256 := by rcases hc with q | q <;> rw [q] <;> decide
      have n40 : ¬ c = 40 := by rcases hc with q | q <;> rw [q] <;> decide
      have hpo : PR tp nb k (told, opn, true, nd, O, W) = PR tp nb (k2 + 1) (t1 + 1, opn, true, nd1, r1 :: O, (c, k2) :: W) := by
        rw [hp1', g]
        exact PR_op a b (by rw [hr]; decide) e (by rw [hr]; exact rdt_stop hcx (Or.inr (Or.inl rfl)))
      refine ⟨fun _ => ?_, fun z => ?_⟩
      · intro x46 e46
        rw [h6] at e46
        subst e46
        have hnb := hT.1
        refine h3 σ2 (k2 + 1) (t1 + 1) opn nd1 (r1 :: O) ((c, k2) :: W) _ hX2 (by omega) (by omega) ho (by simp only [pend, if_neg n40]; omega) (fun c' w' W' q => by cases q; exact ⟨hpf, by rw [hr]; exact Nat.le_refl 4⟩) (by omega) (fun σ3 k3 t3 nd3 op3 P nd4 r3 hX3 hk3 ht3 hlt3 hl3 hp3 hra hPo hnx => ?_) (fun σ3 f v hF hp => ?_)
        · simp only [pend, if_neg n40] at hl3
          refine sp_made (c := c) (l := some r1) (r := some r3) (w := k2) hX3 rfl rfl rfl rfl (by omega) (fun σ4 hX4 => ?_)
          refine hs σ4 k3 t3 nd3 op3 (P ++ [(c, k2)]) ((c, some r1, some r3, k2) :: nd4) nd4.length hX4 hk3 ht3 (by omega) (by simp only [List.length_cons]; omega) ?_ ?_ ?_ hnx
          · rw [hpo, hp3, List.append_assoc]; rfl
          · rw [rda_app, hra]
            show rnode nd4 (r3 :: r1 :: O) c k2 = _
            unfold rnode
            rw [hpf]; rfl
          · intro x hx
            rcases List.mem_append.mp hx with q | q
            · exact hPo x q
            · have : x = (c, k2) := by simpa using q
              rw [this]; exact ⟨n40, by rw [hr]; exact Nat.le_refl 4⟩
        · exact sp_madeF hF (hf σ3 f _ hF (by rw [hpo]; exact hp))
      · exact absurd z.symm (neg_ne (by decide) (by omega))
    have dead : ∀ σ2 k2, FSr σ0 σ2 k2 → PR tp nb k (told, opn, true, nd, O, W) = .inl k2 → wp_X5_readPair_34 (wpS d) (nI r1) (-1) Q σ2 := by
      intro σ2 k2 hF hp
      exact ⟨fun z => absurd rfl z, fun _ => hf σ2 k2 _ hF hp⟩
    refine sp_takes (c := 85) hT hX1 (by omega) ht1 rfl (by decide) ?_ ?_ ?_
    · intro σ2 k2 _ a b e _ g hX2 h6
      exact br_f (by decide) (go 85 (Or.inl rfl) σ2 k2 a b e g hX2 h6)
    · intro σ2 k2 a b e g hF
      refine br_t rfl (sp_takesF hF (br_t rfl (dead σ2 k2 hF ?_)))
      rw [hp1', g]
      exact PR_lim a b (by decide) e
    · intro σ2 k2 a b e bl g hX2
      refine br_t rfl (sp_takes (c := 83) hT hX2 b ht1 rfl (by decide) ?_ ?_ ?_)
      · intro σ3 k3 _ a3 b3 e3 _ g3 hX3 h6
        exact br_f (by decide) (go 83 (Or.inr rfl) σ3 k3 a3 b3 e3 (fun s => by rw [g, g3]) hX3 h6)
      · intro σ3 k3 a3 b3 e3 g3 hF
        refine br_t rfl (dead σ3 k3 hF ?_)
        rw [hp1', g, g3]
        exact PR_lim a3 b3 (by decide) e3
      · intro σ3 k3 a3 b3 e3 bl3 g3 hX3
        have hk3 := same_k a3 b3 bl3 (fun w => (e w).1) b
        subst hk3
        refine br_t rfl ⟨fun z => absurd rfl z, fun _ => ?_⟩
        refine hs σ3 k3 t1 nd1 (r1 :: O) [] nd1 r1 hX3 b3 ht1 hlt1 hl1 (by rw [hp1', g]; rfl) rfl (fun x hx => by cases hx) (fun w => ⟨(e w).1, rnk4 (e w).2 (e3 w).2⟩)
  · refine sp_takesF hF (br_t rfl (sp_takesF hF (br_t rfl ⟨fun z => absurd rfl z, fun _ => hf σ1 f v hF hp⟩)))
