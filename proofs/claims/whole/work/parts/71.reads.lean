/-! ===== read: the class's reads ===== -/
theorem sp_readBracket {σ0 : Sg} {nb d : Nat} {tp : Nat → Nat} (hT : Tpe σ0 nb tp) (h0 : SpR σ0 nb tp 1 1 6 0 d) : SpO σ0 nb tp 1 5 (d + 1) := by
  intro σ k told opn nd O W Q hX hk ht ho hl h40 hd hs hf
  obtain ⟨hkn, hc⟩ := h40 rfl
  show wp_X5_readBracket (wpS d) σ Q
  obtain ⟨fr, x3, x4, x5, x7, x26, xn, x2, xr⟩ := id hX
  unfold wp_X5_readBracket
  rw [x5]
  have hnb := hT.1
  have f61 : ∀ v τ f, FSr σ0 τ f → PR tp nb k (told, opn, true, nd, O, W) = .inl f → wp_X5_readBracket_61 (wpS d) v Q τ := by
    intro v τ f hF hp τ1 e1 τ2 e2
    refine hf τ2 f v ⟨?_, ?_, ?_⟩ hp
    · rw [e2, e1]; exact (hF.1.stF (by simp)).stF (by simp)
    · rw [e2, gF_stF, if_pos rfl, if_neg (by decide), e1, gF_stF, if_pos rfl, if_neg (by decide)]; exact hF.2.1
    · rw [e2, gF_stF, if_pos rfl, if_neg (by decide), e1, gF_stF, if_pos rfl, if_neg (by decide)]; exact hF.2.2
  refine pk_le opn 7 (fun h7 => ?_) (fun h7 => ?_)
  · intro σ1 e1 σ2 e2
    rw [nI_add] at e1
    have q13 : gF σ1 1 3 = nI k := by rw [e1, gF_stF, if_pos rfl, if_neg (by decide)]; exact x3
    rw [q13, nI_add] at e2
    have f1 : ∀ j, gF σ2 1 j = if j = 3 then nI (k + 1) else if j = 5 then nI (opn + 1) else gF σ 1 j := by
      intro j
      rw [e2, gF_stF, if_pos rfl, e1, gF_stF, if_pos rfl]
    have hX2 : XRd σ0 σ2 nb (k + 1) told (opn + 1) nd := by
      refine ⟨by rw [e2, e1]; exact (fr.stF (by simp)).stF (by simp), by rw [f1, if_pos rfl], ?_, ?_, ?_, ?_, ?_, ?_, ?_⟩
      · rw [f1, if_neg (by decide), if_neg (by decide)]; exact x4
      · rw [f1, if_neg (by decide), if_pos rfl]
      · rw [f1, if_neg (by decide), if_neg (by decide)]; exact x7
      · rw [e2, gF_stF_row (by decide), e1, gF_stF_row (by decide)]; exact x26
      · rw [e2, e1]; exact xn
      · rw [f1, if_neg (by decide), if_neg (by decide)]; exact x2
      · rw [e2, e1]; exact xr
    have m40 : mayb 40 opn true = true := by
      unfold mayb
      rw [if_pos rfl, decide_eq_true h7]
      rfl
    have hpo : PR tp nb k (told, opn, true, nd, O, W) = PR tp nb (k + 1) (told, opn + 1, true, nd, O, (40, k) :: W) := by
      refine PR_step hkn ?_
      rw [hc]
      unfold pstp
      simp only
      rw [if_neg (by decide), if_neg (by rw [m40]; exact fun z => z.elim (fun z => by cases z) (fun z => by rw [if_neg (by decide : ¬ markb 40 = true)] at z; omega)), if_neg (by decide), if_neg (by decide), if_neg (by decide)]
      rfl
    refine h0 σ2 (k + 1) told (opn + 1) nd O ((40, k) :: W) _ hX2 (by omega) ht (by omega) (by simp only [pend, if_true]; omega) (fun c' w' W' q => by cases q; exact ⟨by decide, by decide⟩) (by omega) (fun σ3 k3 t3 nd3 op3 P nd4 r3 hX3 hk3 ht3 hlt3 hl3 hp3 hra hPo hnx => ?_) (fun σ3 f v hF hp => ?_)
    · simp only [pend, if_true, Nat.zero_add] at hl3
      refine sp_failed0 hX3.2.2.2.2.1 ⟨fun z => absurd rfl z, fun _ => ?_⟩
      refine sp_here hT hX3 hk3 (fun σ4 k4 hX4 _ a b bl gg e => ?_)
      have hkk := same_k a b bl (fun w => (hnx w).1) hk3
      subst hkk
      have hrd : rdt 0 (P ++ (40, k) :: W) nd3 op3 = (nd4, r3 :: O, (40, k) :: W) := by
        rw [rdt_app P nd3 op3 (pok_rdb hPo (by omega)), hra]
        rfl
      unfold hv
      by_cases q : k4 < nb
      · rw [if_pos q]
        have h256 := (hT.2 k4 q).1
        have hr0 : rnk (tp k4) = 0 := by have := (hnx q).2; omega
        refine pk_eq (tp k4) 41 (fun e41 => ?_) (fun n41 => ?_)
        · obtain ⟨y1, y3, y4, y5, y7, y26, yn, y2, yr⟩ := hX4
          intro τ1 g1 τ2 g2
          rw [y3, nI_add] at g1
          have p15 : gF τ1 1 5 = nI (opn + 1) := by rw [g1, gF_stF, if_pos rfl, if_neg (by decide)]; exact y5
          rw [p15, pk_sub (by omega), Nat.add_sub_cancel] at g2
          have f2 : ∀ j, gF τ2 1 j = if j = 5 then nI opn else if j = 3 then nI (k4 + 1) else gF σ4 1 j := by
            intro j
            rw [g2, gF_stF, if_pos rfl, g1, gF_stF, if_pos rfl]
          refine hs τ2 k4 t3 nd4 r3 ⟨by rw [g2, g1]; exact (y1.stF (by simp)).stF (by simp), by rw [f2, if_neg (by decide), if_pos rfl], ?_, ?_, ?_, ?_, ?_, ?_, ?_⟩ q ht3 hlt3 hl3 ?_
          · rw [f2, if_neg (by decide), if_neg (by decide)]; exact y4
          · rw [f2, if_pos rfl]
          · rw [f2, if_neg (by decide), if_neg (by decide)]; exact y7
          · rw [g2, gF_stF_row (by decide), g1, gF_stF_row (by decide)]; exact y26
          · rw [g2, g1]; exact yn
          · rw [f2, if_neg (by decide), if_neg (by decide)]; exact y2
          · rw [g2, g1]; exact yr
          · rw [hpo, hp3]
            refine PR_step q ?_
            rw [e41]
            have m41 : mayb 41 (opn + 1) false = true := by
              unfold mayb
              rw [if_neg (by decide), decide_eq_true (show 0 < opn + 1 by omega)]
              rfl
            unfold pstp
            simp only
            rw [if_neg (by decide), if_neg (by rw [m41]; exact fun z => z.elim (fun z => by cases z) (fun z => by rw [if_neg (by decide : ¬ markb 41 = true)] at z; omega)), if_neg (by decide), if_pos trivial, hrd]
            rfl
        · refine sp_failHere hX4 (fun τ hF => f61 _ τ k4 hF ?_)
          rw [hpo, hp3]
          refine PR_fail q ?_
          unfold pstp
          simp only [if_neg (hnx q).1]
          refine if_pos (Or.inl ?_)
          unfold mayb
          rw [if_neg (by decide), decide_eq_false (show ¬ 0 < rnk (tp k4) by omega), beq_eq_false_iff_ne.mpr n41]; rfl
      · rw [if_neg q]
        have hk4 : k4 = nb := by omega
        subst hk4
        refine ⟨fun z => absurd z (by decide), fun _ => sp_failHere hX4 (fun τ hF => f61 _ τ k4 hF ?_)⟩
        rw [hpo, hp3, PR_end]
        exact if_pos (Or.inr (by show 0 < opn + 1; omega))
    · exact sp_failed1 hF.2.1 ⟨fun _ => f61 _ σ3 f hF (by rw [hpo]; exact hp), fun z => absurd z (by decide)⟩
  · refine sp_failHere hX (fun τ hF => hf τ k _ hF ?_)
    refine PR_wfail hkn (by rw [hc]; decide) ?_
    rw [hc]
    have : opn = 8 := by omega
    rw [this]; rfl
theorem reader_ok {σ0 : Sg} {nb : Nat} {tp : Nat → Nat} (hT : Tpe σ0 nb tp) : ∀ d, SpR σ0 nb tp 1 1 6 0 d ∧ SpR σ0 nb tp 2 1 5 1 d ∧ SpR σ0 nb tp 3 2 4 2 d ∧ SpR σ0 nb tp 4 4 3 3 d ∧ SpO σ0 nb tp 2 4 d ∧ SpO σ0 nb tp 1 5 d
  | 0 => by
    refine ⟨?_, ?_, ?_, ?_, ?_, ?_⟩
    · intro σ k told opn nd O W Q hX hk ht ho hl hcx hd; omega
    · intro σ k told opn nd O W Q hX hk ht ho hl hcx hd; omega
    · intro σ k told opn nd O W Q hX hk ht ho hl hcx hd; omega
    · intro σ k told opn nd O W Q hX hk ht ho hl hcx hd; omega
    · intro σ k told opn nd O W Q hX hk ht ho hl h40 hd; omega
    · intro σ k told opn nd O W Q hX hk ht ho hl h40 hd; omega
  | d + 1 => by
    obtain ⟨a, b, c, e, f, g⟩ := reader_ok hT d
    exact ⟨sp_readRule hT b a, sp_readEither hT c, sp_readBoth hT e, sp_readPair hT f e, sp_readOne hT f g, sp_readBracket hT a⟩
/-- what the machine leaves -/
theorem prn_good {tp : Nat → Nat} {nb : Nat} (hnb : nb ≤ 60) (ht : ∀ i, i < nb → tp i < 256) : ∀ f s nd, f ≤ nb → PIp s → prn tp nb f s = .inr nd → (∃ op, Gnd nd op) ∧ 0 < nd.length ∧ nd.length ≤ 9
  | 0, s, nd, _, hs, h => by
    obtain ⟨told, opn, wanted, nd1, op, wt⟩ := s
    unfold prn at h
    simp only at h
    by_cases q : wanted = true ∨ 0 < opn
    · rw [if_pos q] at h; cases h
    · rw [if_neg q] at h
      have hw : wanted = false := by cases r : wanted with | false => rfl | true => exact absurd (Or.inl r) q
      subst hw
      have hop : opn = 0 := by
        have : ¬ 0 < opn := fun z => q (Or.inr z)
        omega
      subst hop
      have hli := PIp.li hs
      have hp6 : parn wt = 0 := hs.2.2.2.2.2.1
      have hr := rdt_ok (own := 0) wt nd1 op hli.1 hli.2.1 hli.2.2.1
      have hni := rdt0_nil (wt := wt) nd1 op hp6
      rw [hni] at hr
      have hlen : (rdt 0 wt nd1 op).2.1.length = 1 := hr.2.1
      have hE : (rdt 0 wt nd1 op).1 = nd := by injection h
      rw [hE] at hr
      refine ⟨⟨_, hr.1⟩, ?_, ?_⟩
      · match q : (rdt 0 wt nd1 op).2.1, hlen with
        | b :: _, _ =>
          have hg := hr.1
          rw [q] at hg
          have := Gnd_ne hg
          omega
      · have := hr.2.2.2.1
        have h9 := hli.2.2.2.1
        simp only [pend] at this
        omega
  | f + 1, s, nd, hf, hs, h => by
    have e : prn tp nb (f + 1) s = (match pstp (nb - (f + 1)) (tp (nb - (f + 1))) s with | none => Sum.inl (nb - (f + 1)) | some s' => prn tp nb f s') := rfl
    rw [e] at h
    cases q : pstp (nb - (f + 1)) (tp (nb - (f + 1))) s with
    | none => rw [q] at h; cases h
    | some s' =>
      rw [q] at h
      exact prn_good hnb ht f s' nd (by omega) (pstp_ok hs (by omega) (ht _ (by omega)) q) h
theorem PR_good {tp : Nat → Nat} {nb : Nat} {nd : List NdT} (hnb : nb ≤ 60) (ht : ∀ i, i < nb → tp i < 256) (h : PR tp nb 0 s0P = .inr nd) : (∃ op, Gnd nd op) ∧ 0 < nd.length ∧ nd.length ≤ 9 := prn_good hnb ht nb s0P nd (Nat.le_refl nb) pip_0 h
theorem Gnd_kids {nd : List NdT} {op : List Nat} (h : Gnd nd op) : ∀ x, (kids nd).count x ≤ 1 := by
  intro x
  have := h.1 x
  split at this <;> omega
theorem sp_reads {σ : Sg} {nb : Nat} {tp : Nat → Nat} {a : Int32} {Q : Int32 → Sg → Prop} (ha : a = nI nb) (hT : Tpe σ nb tp) (hF : ∀ f σ', PR tp nb 0 s0P = .inl f → Fr [1, 2] [13, 14, 15, 16, 18] σ σ' → gF σ' 1 7 = nI 1 → gF σ' 1 8 = nI f → Q (nI 0) σ') (hP : ∀ nd f σ', PR tp nb 0 s0P = .inr nd → ipf nd (fun _ => false) 99 = f → f ≠ 99 → Fr [1, 2] [13, 14, 15, 16, 18] σ σ' → gF σ' 1 7 = nI 2 → gF σ' 1 8 = nI f → Q (nI 0) σ') (hN : ∀ nd σ', PR tp nb 0 s0P = .inr nd → ipf nd (fun _ => false) 99 = 99 → Fr [1, 2] [13, 14, 15, 16, 18] σ σ' → gF σ' 1 7 = nI 0 → gF σ' 2 6 = nI nd.length → ndsA (gA σ' 13) (gA σ' 14) (gA σ' 15) (gA σ' 16) nd → Q (nI 1) σ') : wp_X5_reads a σ Q := by
  subst ha
  refine ⟨70, by decide, ?_⟩
  intro σ1 e1 σ2 e2 σ3 e3 σ4 e4 σ5 e5 σ6 e6 σ7 e7 σ8 e8
  have hX : XRd σ σ8 nb 0 0 0 [] := by
    refine ⟨?_, ?_, ?_, ?_, ?_, ?_, trivial, ?_, ?_⟩
    · rw [e8, e7, e6, e5, e4, e3, e2, e1]
      exact (((((((Fr.rf.stR (by simp)).stF (by simp)).stF (by simp)).stF (by simp)).stF (by simp)).stF (by simp)).stF (by simp)).stF (by simp)
    all_goals (rw [e8, e7, e6, e5, e4, e3, e2, e1]; rfl)
  clear e1 e2 e3 e4 e5 e6 e7 e8
  have hT2 := hT
  obtain ⟨hnb, ht⟩ := hT2
  -- the end of reads
  have b97f : ∀ τ f, FSr σ τ f → PR tp nb 0 s0P = .inl f → wp_X5_reads_66 Q τ := by
    intro τ f hf hp
    refine sp_failed1 hf.2.1 ⟨fun _ => sp_failed1 hf.2.1 ⟨fun _ => hF f τ hp (hf.1.mono (by simp) (by simp)) hf.2.1 hf.2.2, fun z => absurd z (by decide)⟩, fun z => absurd z (by decide)⟩
  refine (reader_ok hT 70).1 σ8 0 0 0 [] [] [] _ hX (Nat.zero_le nb) (by decide) (by decide) rfl (fun c w W' e => by cases e) (by decide) (fun σ3 k3 t3 nd3 op3 P nd4 r3 hX3 hk3 ht3 hlt3 hl3 hp3 hra hPo hnx => ?_) (fun σ3 f v hf hp => ?_)
  · refine sp_failed0 hX3.2.2.2.2.1 ⟨fun z => absurd rfl z, fun _ => ?_⟩
    refine sp_here hT hX3 hk3 (fun σ4 k4 hX4 _ a b bl gg e => ?_)
    have hkk := same_k a b bl (fun w => (hnx w).1) hk3
    subst hkk
    have hp3' : PR tp nb 0 s0P = PR tp nb k4 (t3, 0, false, nd3, op3, P ++ []) := hp3
    unfold hv
    by_cases q : k4 < nb
    · rw [if_pos q]
      refine ⟨fun z => absurd z.symm (neg_ne (by decide) (by have := (ht k4 q).1; omega)), fun _ => sp_failHere hX4 (fun τ hf => b97f τ k4 hf ?_)⟩
      rw [hp3']
      refine PR_fail q ?_
      unfold pstp
      simp only [if_neg (hnx q).1]
      refine if_pos (Or.inl ?_)
      unfold mayb
      have := (hnx q).2
      rw [if_neg (by decide), decide_eq_false (show ¬ 0 < rnk (tp k4) by omega), decide_eq_false (show ¬ 0 < 0 by omega), Bool.and_false]; rfl
    · rw [if_neg q]
      have hk4 : k4 = nb := by omega
      subst hk4
      have hin : PR tp k4 0 s0P = .inr nd4 := by
        rw [hp3', PR_end]
        simp only
        rw [if_neg (by exact fun z => z.elim (fun z => by cases z) (fun z => by omega)), rdt_app P nd3 op3 (pok_rdb hPo (by omega)), hra]
        rfl
      obtain ⟨⟨op, hg⟩, hpos, h9⟩ := PR_good hnb (fun i hi => (ht i hi).1) hin
      refine ⟨fun _ => ?_, fun z => absurd rfl z⟩
      obtain ⟨y1, y3, y4, y5, y7, y26, yn, y2, yr⟩ := hX4
      refine sp_failed0 y7 ⟨fun z => absurd rfl z, fun _ => ?_⟩
      refine sp_firstPast h9 y26 yn hg.2.1 (Gnd_kids hg) (fun σ5 f5 => ?_)
      have fr5 : Fr [1, 2] [13, 14, 15, 16, 18] σ σ5 := (y1.mono (by simp) (by simp)).tr (f5.mono (by simp) (by simp))
      by_cases r : ipf nd4 (fun _ => false) 99 = 99
      · rw [if_pos r]
        refine br_t rfl ?_
        refine sp_failed0 (by rw [f5.F (by decide)]; exact y7) ⟨fun z => absurd rfl z, fun _ => ?_⟩
        refine hN nd4 σ5 hin r fr5 (by rw [f5.F (by decide)]; exact y7) (by rw [f5.F (by decide)]; exact y26) ?_
        rw [f5.A (by decide), f5.A (by decide), f5.A (by decide), f5.A (by decide)]
        exact yn
      · rw [if_neg r]
        have hlt : ipf nd4 (fun _ => false) 99 < 60 := (ipf_ok nd4 _ 99 hg.2.1 (Or.inl rfl)).elim (fun z => absurd z r) id
        refine br_f (ni9 (by omega)) ?_
        intro σ6 e6 σ7 e7
        have q7 : gF σ7 1 7 = nI 2 := by rw [e7, gF_stF, if_pos rfl, if_neg (by decide), e6, gF_stF, if_pos rfl, if_pos rfl]
        have go : wp_X5_reads_97 Q σ7 := by
          unfold wp_X5_reads_97 wp_X5_failed
          rw [q7]
          refine br_f (by decide) ⟨fun _ => ?_, fun z => absurd z (by decide)⟩
          refine hP nd4 _ σ7 hin rfl r ?_ q7 ?_
          · rw [e7, e6]; exact (fr5.stF (by simp)).stF (by simp)
          · rw [e7, gF_stF, if_pos rfl, if_pos rfl]
        exact go
  · exact sp_failed1 hf.2.1 ⟨fun _ => b97f σ3 f hf hp, fun z => absurd z (by decide)⟩
