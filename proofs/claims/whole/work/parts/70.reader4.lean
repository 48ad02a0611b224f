/-! ===== read: the class's reader, the rest ===== -/
theorem sp_readRule {σ0 : Sg} {nb d : Nat} {tp : Nat → Nat} (hT : Tpe σ0 nb tp) (h1 : SpR σ0 nb tp 2 1 5 1 d) (h0 : SpR σ0 nb tp 1 1 6 0 d) : SpR σ0 nb tp 1 1 6 0 (d + 1) := by
  intro σ k told opn nd O W Q hX hk ht ho hl hcx hd hs hf
  show wp_X5_readRule (wpS d) σ Q
  refine h1 σ k told opn nd O W _ hX hk ht ho hl hcx (by omega) (fun σ1 k1 t1 nd1 op1 P1 nq1 r1 hX1 hk1 ht1 hlt1 hl1 hp1 hra1 hPo1 hnx1 => ?_) (fun σ1 f v hF hp => ?_)
  · have hPo1' : Pok 1 P1 := fun x hx => ⟨(hPo1 x hx).1, by have := (hPo1 x hx).2; omega⟩
    refine sp_takes (c := 62) hT hX1 hk1 ht1 rfl (by decide) ?_ ?_ ?_
    · intro σ2 k2 a0 a b e bl gg hX2 h6
      refine ⟨fun _ => ?_, fun z => absurd z (by decide)⟩
      intro x20 e20
      rw [h6] at e20
      subst e20
      have hnb := hT.1
      have hpo : PR tp nb k (told, opn, true, nd, O, W) = PR tp nb (k2 + 1) (t1 + 1, opn, true, nq1, r1 :: O, (62, k2) :: W) := by
        rw [hp1, gg]
        refine PR_op a b (by decide) e ?_
        show rdt 1 (P1 ++ W) nd1 op1 = _
        rw [rdt_app P1 nd1 op1 (pok_rdb hPo1 (by omega)), hra1]
        exact rdt_stop hcx (by omega)
      refine h0 σ2 (k2 + 1) (t1 + 1) opn nq1 (r1 :: O) ((62, k2) :: W) _ hX2 (by omega) (by omega) ho (by simp only [pend]; rw [if_neg (by decide)]; omega) (fun c' w' W' q => by cases q; exact ⟨by decide, by decide⟩) (by omega) (fun σ3 k3 t3 nd3 op3 P3 nd4 r3 hX3 hk3 ht3 hlt3 hl3 hp3 hra3 hPo3 hnx3 => ?_) (fun σ3 f v hF hp => ?_)
      · simp only [pend] at hl3
        rw [if_neg (by decide)] at hl3
        refine sp_made (c := 62) (l := some r1) (r := some r3) (w := k2) hX3 rfl rfl rfl rfl (by omega) (fun σ4 hX4 => ?_)
        refine hs σ4 k3 t3 nd3 op3 (P3 ++ [(62, k2)]) ((62, some r1, some r3, k2) :: nd4) nd4.length hX4 hk3 ht3 (by omega) (by simp only [List.length_cons]; omega) ?_ ?_ ?_ hnx3
        · rw [hpo, hp3, List.append_assoc]; rfl
        · rw [rda_app, hra3]; rfl
        · intro x hx
          rcases List.mem_append.mp hx with q | q
          · exact hPo3 x q
          · have : x = (62, k2) := by simpa using q
            rw [this]; exact ⟨by show (62 : Nat) ≠ 40; decide, by show 1 ≤ rnk 62; decide⟩
      · exact sp_madeF hF (hf σ3 f _ hF (by rw [hpo]; exact hp))
    · intro σ2 k2 a b e gg hF
      refine ⟨fun z => absurd rfl z, fun _ => hf σ2 k2 _ hF ?_⟩
      rw [hp1, gg]
      exact PR_lim a b (by decide) e
    · intro σ2 k2 a b e bl gg hX2
      have hkk := same_k a b bl (fun w => (hnx1 w).1) hk1
      subst hkk
      exact ⟨fun z => absurd rfl z, fun _ => hs σ2 k2 t1 nd1 op1 P1 nq1 r1 hX2 b ht1 hlt1 hl1 hp1 hra1 hPo1' (fun w => ⟨(e w).1, rnk1 (hnx1 w).2 (e w).2⟩)⟩
  · exact sp_takesF hF ⟨fun z => absurd rfl z, fun _ => hf σ1 f _ hF hp⟩
theorem pfx_lt {c : Nat} (h : pfx c = true) : c < 90 ∧ ltr c = false ∧ rnk c = 0 ∧ ¬ c = 40 ∧ ¬ c = 41 ∧ ¬ c = 32 ∧ markb c = true := by
  have hc : c < 90 := by
    unfold pfx at h
    simp only [Bool.or_eq_true, beq_iff_eq] at h
    omega
  have all : ∀ c, c < 90 → pfx c = true → ltr c = false ∧ rnk c = 0 ∧ ¬ c = 40 ∧ ¬ c = 41 ∧ ¬ c = 32 ∧ markb c = true := by decide +kernel
  exact ⟨hc, all c hc h⟩
theorem sp_stands {c : Nat} {x : Int32} {σ : Sg} {Q : Int32 → Sg → Prop} (hx : x = nI c) (hc : c < 256) (h : Q (bI (pfx c)) σ) : wp_X5_standsAheadOfOne x σ Q := by
  subst hx
  unfold wp_X5_standsAheadOfOne wp_X5_standsAheadOfOne_34
  refine (pk_eq c 33 (fun e => by subst e; exact h) (fun n33 => ?_)).symm
  refine pk_eq c 85 (fun e => by subst e; exact h) (fun n85 => ?_)
  refine pk_eq c 83 (fun e => by subst e; exact h) (fun n83 => ?_)
  have hp : pfx c = (futS c || pasS c) := by
    unfold pfx futS pasS
    rw [beq_eq_false_iff_ne.mpr n33, beq_eq_false_iff_ne.mpr n85, beq_eq_false_iff_ne.mpr n83]
    generalize (c == 78) = a
    generalize (c == 87) = b
    generalize (c == 71) = d
    generalize (c == 70) = e
    generalize (c == 89) = f
    generalize (c == 72) = g
    generalize (c == 79) = i
    cases a <;> cases b <;> cases d <;> cases e <;> cases f <;> cases g <;> cases i <;> rfl
  rw [hp] at h
  refine sp_looksBehind rfl hc (bI_rb (fun z => ?_) (fun z => sp_looksAhead rfl hc (bI_br (fun y => ?_) (fun y => ?_))))
  · rw [z] at h; exact h
  · rw [z, y] at h; exact h
  · rw [z, y] at h; exact h
theorem PR_wfail {tp : Nat → Nat} {nb k told opn : Nat} {nd : List NdT} {op : List Nat} {wt : PWt} (hk : k < nb) (h32 : tp k ≠ 32) (hm : mayb (tp k) opn true = false) : PR tp nb k (told, opn, true, nd, op, wt) = .inl k := by
  refine PR_fail hk ?_
  unfold pstp
  simp only [if_neg h32]
  rw [if_pos (Or.inl hm)]
theorem PR_wlim {tp : Nat → Nat} {nb k told opn : Nat} {nd : List NdT} {op : List Nat} {wt : PWt} (hk : k < nb) (h32 : tp k ≠ 32) (hm : markb (tp k) = true) (ht : told = 9) : PR tp nb k (told, opn, true, nd, op, wt) = .inl k := by
  refine PR_fail hk ?_
  unfold pstp
  simp only [if_neg h32]
  rw [if_pos (Or.inr (by rw [hm, ht]; decide))]
theorem sp_readOne {σ0 : Sg} {nb d : Nat} {tp : Nat → Nat} (hT : Tpe σ0 nb tp) (h4 : SpO σ0 nb tp 2 4 d) (h5 : SpO σ0 nb tp 1 5 d) : SpO σ0 nb tp 2 4 (d + 1) := by
  intro σ k told opn nd O W Q hX hk ht ho hl _ hd hs hf
  show wp_X5_readOne (wpS d) σ Q
  have hnb := hT.1
  refine sp_here hT hX hk (fun σ1 k2 hX1 _ a b bl gg e => ?_)
  unfold hv
  by_cases q : k2 < nb
  · rw [if_pos q]
    have h256 := (hT.2 k2 q).1
    have n32 := e q
    generalize hc : tp k2 = c at h256 n32
    -- a node that begins here: a leaf or a sign that stands ahead of one
    have b58 : ∀ lf : Bool, lf = ltr c → (ltr c || pfx c) = true → wp_X5_readOne_58 (wpS d) (nI c) (bI lf) Q σ1 := by
      intro lf hlf hlp
      have hmk : markb c = true := by unfold markb; rw [hlp]; rfl
      have hmy : mayb c opn true = true := by unfold mayb; rw [if_pos rfl, hlp]; rfl
      refine sp_beginsNode hX1 ht (fun w9 σ2 hX2 h6 => ⟨fun _ => ?_, fun z => absurd z (by decide)⟩) (fun w9 σ2 hF => ⟨fun z => absurd rfl z, fun _ => hf σ2 k2 _ hF ?_⟩)
      · intro x72 e72
        rw [h6] at e72
        subst e72
        refine bI_br (fun z => ?_) (fun z => ?_)
        · -- ahead of one
          have hlt : ltr c = false := by rw [← hlf]; exact z
          have hp : pfx c = true := by rw [hlt] at hlp; simpa using hlp
          obtain ⟨_, p2, p3, p4, p5, p6, p7⟩ := pfx_lt hp
          have hpo : PR tp nb k (told, opn, true, nd, O, W) = PR tp nb (k2 + 1) (told + 1, opn, true, nd, O, (c, k2) :: W) := by
            rw [gg]
            refine PR_step q ?_
            rw [hc]
            unfold pstp
            simp only [if_neg p6]
            rw [if_neg (by rw [hmy, hmk]; exact fun z => z.elim (fun z => by cases z) (fun z => by simp only [if_true] at z; omega)), if_neg (by rw [p2]; decide), if_neg p5, if_neg (by rw [p3]; decide), hmk, if_neg p4]
            rfl
          refine h4 σ2 (k2 + 1) (told + 1) opn nd O ((c, k2) :: W) _ hX2 (by omega) (by omega) ho (by simp only [pend, if_neg p4]; omega) (fun z => absurd z (by decide)) (by omega) (fun σ3 k3 t3 nd3 r3 hX3 hk3 ht3 hlt3 hl3 hp3 => ?_) (fun σ3 f v hF hp9 => ?_)
          · simp only [pend, if_neg p4] at hl3
            refine sp_made (c := c) (l := some r3) (r := none) (w := k2) hX3 rfl rfl rfl rfl (by omega) (fun σ4 hX4 => ?_)
            refine hs σ4 k3 t3 ((c, some r3, none, k2) :: nd3) nd3.length hX4 hk3 ht3 (by omega) (by simp only [List.length_cons]; omega) ?_
            rw [hpo, hp3]
            unfold PRL
            rw [rdp_cons, if_pos hp]
            unfold rnode
            rw [hp]
            rfl
          · exact sp_madeF hF (hf σ3 f _ hF (by rw [hpo]; exact hp9))
        · have hlt : ltr c = true := by rw [← hlf]; exact z
          refine sp_made (c := c) (l := none) (r := none) (w := k2) hX2 rfl rfl rfl rfl (by omega) (fun σ4 hX4 => ?_)
          refine hs σ4 k2 (told + 1) ((c, none, none, k2) :: nd) nd.length hX4 q (by omega) (by omega) (by simp only [List.length_cons]; omega) ?_
          rw [gg]
          refine PR_step q ?_
          rw [hc]
          unfold pstp
          simp only [if_neg n32]
          rw [if_neg (by rw [hmy, hmk]; exact fun z => z.elim (fun z => by cases z) (fun z => by simp only [if_true] at z; omega)), if_pos hlt]
      · rw [gg]
        exact PR_wlim q (by rw [hc]; exact n32) (by rw [hc]; exact hmk) w9
    have b39 : ∀ lf : Bool, lf = ltr c → ¬ c = 40 → wp_X5_readOne_39 (wpS d) (nI c) (bI lf) Q σ1 := by
      intro lf hlf n40
      refine bI_rb (fun z => b58 lf hlf (by rw [← hlf, z]; rfl)) (fun z => sp_stands rfl h256 (bI_rb (fun y => b58 lf hlf (by rw [y, Bool.or_true])) (fun y => ?_)))
      refine sp_failHere hX1 (fun σ2 hF => hf σ2 k2 _ hF ?_)
      rw [gg]
      refine PR_wfail q (by rw [hc]; exact n32) ?_
      rw [hc]
      unfold mayb
      rw [if_pos rfl, ← hlf, z, y, beq_eq_false_iff_ne.mpr n40]; rfl
    refine (pk_eq c 40 (fun e40 => ?_) (fun n40 => ?_)).symm
    · refine h5 σ1 k2 told opn nd O W _ hX1 b ht ho hl (fun _ => ⟨q, by rw [hc]; exact e40⟩) (by omega) (fun σ3 k3 t3 nd3 r3 hX3 hk3 ht3 hlt3 hl3 hp3 => hs σ3 k3 t3 nd3 r3 hX3 hk3 ht3 hlt3 hl3 (by rw [gg]; exact hp3)) (fun σ3 f v hF hp9 => hf σ3 f v hF (by rw [gg]; exact hp9))
    · refine pk_eq c 46 (fun e46 => b39 true (by rw [e46]; rfl) n40) (fun n46 => pk_lt c 97 (fun z => b39 false ?_ n40) (fun z => pk_le 101 c (fun y => b39 false ?_ n40) (fun y => b39 true ?_ n40)))
      · unfold ltr
        rw [decide_eq_false (show ¬ 97 ≤ c by omega), beq_eq_false_iff_ne.mpr n46]; rfl
      · unfold ltr
        rw [decide_eq_false (show ¬ c ≤ 100 by omega), beq_eq_false_iff_ne.mpr n46, Bool.and_false]; rfl
      · unfold ltr
        rw [decide_eq_true z, decide_eq_true (show c ≤ 100 by omega)]; rfl
  · rw [if_neg q]
    have hk2 : k2 = nb := by omega
    subst hk2
    have stop : wp_X5_readOne_39 (wpS d) (-1) (nI 0) Q σ1 := by
      refine ⟨fun z => absurd rfl z, fun _ => ?_⟩
      refine ⟨fun _ => ⟨fun z => absurd z (by decide), fun _ => ⟨fun z => absurd z (by decide), fun _ => ⟨fun z => absurd z (by decide), fun _ => ⟨fun z => absurd z (by decide), fun _ => ⟨fun z => absurd z (by decide), fun _ => ⟨fun z => absurd z (by decide), fun _ => ⟨fun _ => ⟨fun z => absurd rfl z, fun _ => ?_⟩, fun z => absurd z (by decide)⟩⟩⟩⟩⟩⟩⟩, fun z => absurd z (by decide)⟩
      refine ⟨fun z => absurd z (by decide), fun _ => ⟨fun z => absurd z (by decide), fun _ => ⟨fun z => absurd z (by decide), fun _ => ⟨fun _ => ⟨fun _ => ⟨fun z => absurd rfl z, fun _ => ?_⟩, fun z => absurd rfl z⟩, fun z => absurd z (by decide)⟩⟩⟩⟩
      refine sp_failHere hX1 (fun σ2 hF => hf σ2 k2 _ hF ?_)
      rw [gg, PR_end]
      exact if_pos (Or.inl rfl)
    refine ⟨fun _ => ⟨fun z => absurd z (by decide), fun _ => ⟨fun _ => stop, fun z => absurd (by decide) z⟩⟩, fun z => absurd z (by decide)⟩
