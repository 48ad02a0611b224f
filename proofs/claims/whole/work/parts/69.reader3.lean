/-! ===== read: the class's reader, the levels with a loop ===== -/
theorem sp_readBoth {σ0 : Sg} {nb d : Nat} {tp : Nat → Nat} (hT : Tpe σ0 nb tp) (h3 : SpR σ0 nb tp 4 4 3 3 d) : SpR σ0 nb tp 3 2 4 2 (d + 1) := by
  intro σ k told opn nd O W Q hX hk ht ho hl hcx hd hs hf
  show wp_X5_readBoth (wpS d) σ Q
  have hcx4 : cxp 4 W := fun c w W' e => ⟨(hcx c w W' e).1, by have := (hcx c w W' e).2; omega⟩
  refine h3 σ k told opn nd O W _ hX hk ht ho hl hcx4 (by omega) (fun σ1 k1 t1 nd1 op1 P1 nq1 r1 hX1 hk1 ht1 hlt1 hl1 hp1 hra1 hPo1 hnx1 => ?_) (fun σ1 f v hF hp => ?_)
  · -- the loop: a good state, or a failed one
    refine loop_m (σ := Nat × Int32 × Sg) (fun g a => wl_X5_readBoth_7 (wpS d) Q g a.2.1 (nI a.1) a.2.2) (fun a => a.1 ≤ 9 ∧ ((∃ k' told' nd' op' P nd2 r, a.2.1 = nI r ∧ XRd σ0 a.2.2 nb k' told' opn nd2 ∧ k' ≤ nb ∧ told' ≤ 9 ∧ told < told' ∧ a.1 + 1 ≤ told' ∧ nd2.length + pend W = told' ∧ PR tp nb k (told, opn, true, nd, O, W) = PR tp nb k' (told', opn, false, nd', op', P ++ W) ∧ rda P nd' op' = (nd2, r :: O) ∧ Pok 3 P ∧ (k' < nb → tp k' ≠ 32 ∧ rnk (tp k') < 4)) ∨ ∃ f, FSr σ0 a.2.2 f ∧ PR tp nb k (told, opn, true, nd, O, W) = .inl f)) (fun a => 9 - a.1) ?_ (0, nI r1, σ1) ⟨Nat.zero_le 9, Or.inl ⟨k1, t1, nd1, op1, P1, nq1, r1, rfl, hX1, hk1, ht1, hlt1, by show 0 + 1 ≤ t1; omega, hl1, hp1, hra1, (fun x hx => ⟨(hPo1 x hx).1, by have := (hPo1 x hx).2; omega⟩), hnx1⟩⟩
    rintro g ⟨i, v1, τ⟩ ⟨hi, hgood | ⟨f, hF, hp⟩⟩ hs2
    · obtain ⟨k', t', nd', op', P, nd2, r, ev, hX', hk', ht', hlt', hi', hl', hp', hra, hPo, hnx⟩ := hgood
      simp only at ev hX' hi' hi hs2 ⊢
      subst ev
      show wb_X5_readBoth_7 _ _ _ _ _ _
      refine pk_le 9 i (fun z => by omega) (fun hi9 => ?_)
      refine sp_takes (c := 38) hT hX' hk' ht' rfl (by decide) ?_ ?_ ?_
      · intro σ2 k2 a0 a b e bl gg hX2 h6
        refine ⟨fun z => absurd z (by decide), fun _ => ?_⟩
        intro x26 e26
        rw [h6] at e26
        subst e26
        have hnb := hT.1
        have hpo : PR tp nb k (told, opn, true, nd, O, W) = PR tp nb (k2 + 1) (t' + 1, opn, true, nd2, r :: O, (38, k2) :: W) := by
          rw [hp', gg]
          refine PR_op a b (by decide) e ?_
          show rdt 3 (P ++ W) nd' op' = _
          rw [rdt_app P nd' op' (pok_rdb hPo (by omega)), hra]
          exact rdt_stop hcx (by omega)
        refine h3 σ2 (k2 + 1) (t' + 1) opn nd2 (r :: O) ((38, k2) :: W) _ hX2 (by omega) (by omega) ho (by simp only [pend]; rw [if_neg (by decide)]; omega) (fun c' w' W' q => by cases q; exact ⟨by decide, by decide⟩) (by omega) (fun σ3 k3 t3 nd3 op3 P3 nd4 r3 hX3 hk3 ht3 hlt3 hl3 hp3 hra3 hPo3 hnx3 => ?_) (fun σ3 f v hF hp => ?_)
        · simp only [pend] at hl3
          rw [if_neg (by decide)] at hl3
          refine sp_made (c := 38) (l := some r) (r := some r3) (w := k2) hX3 rfl rfl rfl rfl (by omega) (fun σ4 hX4 => ?_)
          intro x44 e44
          rw [e44, nI_add]
          refine hs2 (i + 1, nI nd4.length, σ4) ⟨by show i + 1 ≤ 9; omega, Or.inl ⟨k3, t3, nd3, op3, P3 ++ [(38, k2)], ((38, some r, some r3, k2) :: nd4), nd4.length, rfl, hX4, hk3, ht3, by omega, by show i + 1 + 1 ≤ t3; omega, by simp only [List.length_cons]; omega, ?_, ?_, ?_, hnx3⟩⟩ (by show 9 - (i + 1) < 9 - i; omega)
          · rw [hpo, hp3, List.append_assoc]; rfl
          · rw [rda_app, hra3]; rfl
          · intro x hx
            rcases List.mem_append.mp hx with q | q
            · exact ⟨(hPo3 x q).1, by have := (hPo3 x q).2; omega⟩
            · have : x = (38, k2) := by simpa using q
              rw [this]; exact ⟨by show (38 : Nat) ≠ 40; decide, by show 3 ≤ rnk 38; decide⟩
        · refine sp_madeF hF ?_
          intro x44 e44
          rw [e44, nI_add]
          exact hs2 (i + 1, -9, σ3) ⟨by show i + 1 ≤ 9; omega, Or.inr ⟨f, hF, by rw [hpo]; exact hp⟩⟩ (by show 9 - (i + 1) < 9 - i; omega)
      · intro σ2 k2 a b e gg hF
        refine br_t rfl (hf σ2 k2 _ hF ?_)
        rw [hp', gg]
        exact PR_lim a b (by decide) e
      · intro σ2 k2 a b e bl gg hX2
        have hkk := same_k a b bl (fun w => (hnx w).1) hk'
        subst hkk
        exact br_t rfl (hs σ2 k2 t' nd' op' P nd2 r hX2 b ht' hlt' hl' hp' hra hPo (fun w => ⟨(e w).1, rnk3 (hnx w).2 (e w).2⟩))
    · simp only at hF hp hi hs2 ⊢
      show wb_X5_readBoth_7 _ _ _ _ _ _
      refine pk_le 9 i (fun z => hf τ f _ hF hp) (fun hi9 => sp_takesF hF (br_t rfl (hf τ f _ hF hp)))
  · -- failed at once
    refine ⟨1, ?_⟩
    show wb_X5_readBoth_7 _ _ _ _ _ _
    exact pk_le 9 0 (fun z => by omega) (fun _ => sp_takesF hF (br_t rfl (hf σ1 f _ hF hp)))
theorem sp_readEither {σ0 : Sg} {nb d : Nat} {tp : Nat → Nat} (hT : Tpe σ0 nb tp) (h3 : SpR σ0 nb tp 3 2 4 2 d) : SpR σ0 nb tp 2 1 5 1 (d + 1) := by
  intro σ k told opn nd O W Q hX hk ht ho hl hcx hd hs hf
  show wp_X5_readEither (wpS d) σ Q
  have hcx4 : cxp 2 W := fun c w W' e => ⟨(hcx c w W' e).1, by have := (hcx c w W' e).2; omega⟩
  refine h3 σ k told opn nd O W _ hX hk ht ho hl hcx4 (by omega) (fun σ1 k1 t1 nd1 op1 P1 nq1 r1 hX1 hk1 ht1 hlt1 hl1 hp1 hra1 hPo1 hnx1 => ?_) (fun σ1 f v hF hp => ?_)
  · -- the loop: a good state, or a failed one
    refine loop_m (σ := Nat × Int32 × Sg) (fun g a => wl_X5_readEither_7 (wpS d) Q g a.2.1 (nI a.1) a.2.2) (fun a => a.1 ≤ 9 ∧ ((∃ k' told' nd' op' P nd2 r, a.2.1 = nI r ∧ XRd σ0 a.2.2 nb k' told' opn nd2 ∧ k' ≤ nb ∧ told' ≤ 9 ∧ told < told' ∧ a.1 + 1 ≤ told' ∧ nd2.length + pend W = told' ∧ PR tp nb k (told, opn, true, nd, O, W) = PR tp nb k' (told', opn, false, nd', op', P ++ W) ∧ rda P nd' op' = (nd2, r :: O) ∧ Pok 2 P ∧ (k' < nb → tp k' ≠ 32 ∧ rnk (tp k') < 3)) ∨ ∃ f, FSr σ0 a.2.2 f ∧ PR tp nb k (told, opn, true, nd, O, W) = .inl f)) (fun a => 9 - a.1) ?_ (0, nI r1, σ1) ⟨Nat.zero_le 9, Or.inl ⟨k1, t1, nd1, op1, P1, nq1, r1, rfl, hX1, hk1, ht1, hlt1, by show 0 + 1 ≤ t1; omega, hl1, hp1, hra1, (fun x hx => ⟨(hPo1 x hx).1, by have := (hPo1 x hx).2; omega⟩), hnx1⟩⟩
    rintro g ⟨i, v1, τ⟩ ⟨hi, hgood | ⟨f, hF, hp⟩⟩ hs2
    · obtain ⟨k', t', nd', op', P, nd2, r, ev, hX', hk', ht', hlt', hi', hl', hp', hra, hPo, hnx⟩ := hgood
      simp only at ev hX' hi' hi hs2 ⊢
      subst ev
      show wb_X5_readEither_7 _ _ _ _ _ _
      refine pk_le 9 i (fun z => by omega) (fun hi9 => ?_)
      refine sp_takes (c := 47) hT hX' hk' ht' rfl (by decide) ?_ ?_ ?_
      · intro σ2 k2 a0 a b e bl gg hX2 h6
        refine ⟨fun z => absurd z (by decide), fun _ => ?_⟩
        intro x26 e26
        rw [h6] at e26
        subst e26
        have hnb := hT.1
        have hpo : PR tp nb k (told, opn, true, nd, O, W) = PR tp nb (k2 + 1) (t' + 1, opn, true, nd2, r :: O, (47, k2) :: W) := by
          rw [hp', gg]
          refine PR_op a b (by decide) e ?_
          show rdt 2 (P ++ W) nd' op' = _
          rw [rdt_app P nd' op' (pok_rdb hPo (by omega)), hra]
          exact rdt_stop hcx (by omega)
        refine h3 σ2 (k2 + 1) (t' + 1) opn nd2 (r :: O) ((47, k2) :: W) _ hX2 (by omega) (by omega) ho (by simp only [pend]; rw [if_neg (by decide)]; omega) (fun c' w' W' q => by cases q; exact ⟨by decide, by decide⟩) (by omega) (fun σ3 k3 t3 nd3 op3 P3 nd4 r3 hX3 hk3 ht3 hlt3 hl3 hp3 hra3 hPo3 hnx3 => ?_) (fun σ3 f v hF hp => ?_)
        · simp only [pend] at hl3
          rw [if_neg (by decide)] at hl3
          refine sp_made (c := 47) (l := some r) (r := some r3) (w := k2) hX3 rfl rfl rfl rfl (by omega) (fun σ4 hX4 => ?_)
          intro x44 e44
          rw [e44, nI_add]
          refine hs2 (i + 1, nI nd4.length, σ4) ⟨by show i + 1 ≤ 9; omega, Or.inl ⟨k3, t3, nd3, op3, P3 ++ [(47, k2)], ((47, some r, some r3, k2) :: nd4), nd4.length, rfl, hX4, hk3, ht3, by omega, by show i + 1 + 1 ≤ t3; omega, by simp only [List.length_cons]; omega, ?_, ?_, ?_, hnx3⟩⟩ (by show 9 - (i + 1) < 9 - i; omega)
          · rw [hpo, hp3, List.append_assoc]; rfl
          · rw [rda_app, hra3]; rfl
          · intro x hx
            rcases List.mem_append.mp hx with q | q
            · exact ⟨(hPo3 x q).1, by have := (hPo3 x q).2; omega⟩
            · have : x = (47, k2) := by simpa using q
              rw [this]; exact ⟨by show (47 : Nat) ≠ 40; decide, by show 2 ≤ rnk 47; decide⟩
        · refine sp_madeF hF ?_
          intro x44 e44
          rw [e44, nI_add]
          exact hs2 (i + 1, -9, σ3) ⟨by show i + 1 ≤ 9; omega, Or.inr ⟨f, hF, by rw [hpo]; exact hp⟩⟩ (by show 9 - (i + 1) < 9 - i; omega)
      · intro σ2 k2 a b e gg hF
        refine br_t rfl (hf σ2 k2 _ hF ?_)
        rw [hp', gg]
        exact PR_lim a b (by decide) e
      · intro σ2 k2 a b e bl gg hX2
        have hkk := same_k a b bl (fun w => (hnx w).1) hk'
        subst hkk
        exact br_t rfl (hs σ2 k2 t' nd' op' P nd2 r hX2 b ht' hlt' hl' hp' hra hPo (fun w => ⟨(e w).1, rnk2 (hnx w).2 (e w).2⟩))
    · simp only at hF hp hi hs2 ⊢
      show wb_X5_readEither_7 _ _ _ _ _ _
      refine pk_le 9 i (fun z => hf τ f _ hF hp) (fun hi9 => sp_takesF hF (br_t rfl (hf τ f _ hF hp)))
  · -- failed at once
    refine ⟨1, ?_⟩
    show wb_X5_readEither_7 _ _ _ _ _ _
    exact pk_le 9 0 (fun z => by omega) (fun _ => sp_takesF hF (br_t rfl (hf σ1 f _ hF hp)))
