/-! ===== feed ===== -/
theorem Inv.tape {σ σ1 : Sg} (I : Inv σ) (h : Fr [0, 10] [11, 47] σ σ1) (h0 : ∀ k, k ≠ 1 → gF σ1 0 k = gF σ 0 k) (h10 : ∀ k, k ≠ 1 → gF σ1 10 k = gF σ 10 k) {nb : Nat} {tp : Nat → Nat} (hT : PTa σ1 nb tp) : Inv σ1 := by
  obtain ⟨nb0, tp0, n, to, vd, ds, mk, n', to', vd', -, hF, hM, hX, hO, hK, hXk, hMk, hL⟩ := I
  have f6 := h.F (o := 6) (by decide)
  have f7 := h.F (o := 7) (by decide)
  have r5 := h.R (o := 5) (by decide)
  have c35 := h.A (c := 35) (by decide)
  have c36 := h.A (c := 36) (by decide)
  have c37 := h.A (c := 37) (by decide)
  have c38 := h.L (c := 38) (by decide)
  have c39 := h.A (c := 39) (by decide)
  have c40 := h.A (c := 40) (by decide)
  have c45 := h.L (c := 45) (by decide)
  have c46 := h.A (c := 46) (by decide)
  have c71 := h.A (c := 71) (by decide)
  have c72 := h.A (c := 72) (by decide)
  have c73 := h.A (c := 73) (by decide)
  have c79 := h.A (c := 79) (by decide)
  have c81 := h.A (c := 81) (by decide)
  have c82 := h.A (c := 82) (by decide)
  have c83 := h.A (c := 83) (by decide)
  refine ⟨nb, tp, n, to, vd, ds, mk, n', to', vd', hT, ?_, hM, ?_, ?_, ?_, ?_, ?_, ?_⟩
  · rw [h0 2 (by decide), h10 2 (by decide)]; exact hF
  · unfold PXa at hX ⊢; rw [f6, c35, c36, c37, c38]; exact hX
  · unfold PMo at hO ⊢; rw [h10 39 (by decide), h10 38 (by decide), c71, c72, c73]; exact hO
  · unfold PKe at hK ⊢; rw [c45, c46, c79, c81]; exact hK
  · unfold PXk at hXk ⊢; rw [f7, c39, c40]; exact hXk
  · unfold PMk at hMk ⊢; rw [h10 51 (by decide), c82, c83]; exact hMk
  · unfold PLe at hL ⊢; rw [r5]; exact hL
def byt (w k : Nat) : Nat := w / 2 ^ (8 * k) % 256
theorem byt_lt (w k : Nat) : byt w k < 256 := Nat.mod_lt _ (by decide)
theorem sh8 {w k : Nat} (hw : w < 2 ^ 64) (hk : k < 8) : lUSHR (lN w) (nI 8 * nI k) = lN (w / 2 ^ (8 * k)) := by
  rw [pk_mul]
  exact wb_shr hw (by omega)
theorem and255 (z : Nat) : nI z &&& nI 255 = nI (z % 256) := by
  rw [pk_and (nI z) 8 (m := nI 255) (by decide)]
  have e : (nI z).toBitVec.toNat = z % 2 ^ 32 := by show (BitVec.ofNat 32 z).toNat = _; rw [BitVec.toNat_ofNat]
  rw [e, Nat.mod_mod_of_dvd z (by decide : 2 ^ 8 ∣ 2 ^ 32)]
theorem sp_byteOf {w k : Nat} {σ : Sg} {Q : Int32 → Sg → Prop} (hw : w < 2 ^ 64) (hk : k < 8) (h : Q (nI (byt w k)) σ) : wp_X8_byteOf (lN w) (nI k) σ Q := by
  unfold wp_X8_byteOf
  rw [sh8 hw hk, lN_i, and255]
  exact h
theorem Mbyte {w k : Nat} (hw : w < 2 ^ 64) (hk : k < 8) : vp_nar .byte (Int8.toInt32 (Int32.toInt8 (Int64.toInt32 (lUSHR (lN w) (nI 8 * nI k))))) = sby (byt w k) := by
  rw [pk_vb, sh8 hw hk, lN_i]
  unfold sby byt
  rw [← and255]
  exact congrArg Int8.toInt32 (fa_byte_low (nI (w / 2 ^ (8 * k)))).symm
theorem Mtest {w k : Nat} (hw : w < 2 ^ 64) (hk : k < 8) : lUSHR (lN w) (nI 8 * nI k) &&& lN 255 = lN (byt w k) := by
  rw [sh8 hw hk]
  exact wb_mask (k := 8) (Nat.lt_of_le_of_lt (Nat.div_le_self _ _) hw) (by decide)
theorem cnt_ex (w : Nat) : ∃ c, c ≤ 8 ∧ (∀ k, k < c → byt w k ≠ 0) ∧ (c = 8 ∨ byt w c = 0) := by
  have key : ∀ m, m ≤ 8 → (∀ k, k < m → byt w k ≠ 0) ∨ ∃ c, c < m ∧ (∀ k, k < c → byt w k ≠ 0) ∧ byt w c = 0 := by
    intro m
    induction m with
    | zero => exact fun _ => Or.inl (fun k hk => by omega)
    | succ m ih =>
      intro hm
      rcases ih (by omega) with h | ⟨c, h1, h2, h3⟩
      · by_cases hz : byt w m = 0
        · exact Or.inr ⟨m, by omega, h, hz⟩
        · exact Or.inl (fun k hk => by
            rcases Nat.lt_or_ge k m with q | q
            · exact h k q
            · have : k = m := by omega
              subst this; exact hz)
      · exact Or.inr ⟨c, by omega, h2, h3⟩
  rcases key 8 (by omega) with h | ⟨c, h1, h2, h3⟩
  · exact ⟨8, by omega, h, Or.inl rfl⟩
  · exact ⟨c, by omega, h2, Or.inr h3⟩
theorem sp_bytesIn {w c : Nat} {σ : Sg} {Q : Int32 → Sg → Prop} (hw : w < 2 ^ 64) (hc : c ≤ 8) (h1 : ∀ k, k < c → byt w k ≠ 0) (h2 : c = 8 ∨ byt w c = 0) (h : Q (nI c) σ) : wp_X8_bytesIn (lN w) σ Q := by
  refine loop_0 (σ := Unit) (fun n i _ => wl_X8_bytesIn_2 (lN w) Q n (nI i) σ) (fun i _ => i ≤ c) c () (Nat.zero_le _) ?_ ?_
  · intro n _ _
    show wb_X8_bytesIn_2 _ _ _ _ _
    refine pk_le 8 c (fun hz => ?_) (fun hz => ?_)
    · have : c = 8 := by omega
      subst this; exact h
    · refine sp_byteOf hw hz ?_
      have hb : byt w c = 0 := by omega
      rw [hb]
      exact ⟨fun z => absurd rfl z, fun _ => h⟩
  · intro n i _ hi _ hs
    show wb_X8_bytesIn_2 _ _ _ _ _
    refine pk_le 8 i (fun hz => by omega) (fun hz => ?_)
    refine sp_byteOf hw hz ⟨fun _ x e => ?_, fun z => ?_⟩
    · rw [e, nI_add]; exact hs () (by omega)
    · exact absurd (ninj z (by have := byt_lt w i; omega) (by decide)) (h1 i hi)
/-- what the class's loop has laid -/
theorem sp_feedX {w c nb : Nat} {tp : Nat → Nat} {σ : Sg} {Q : Int32 → Sg → Prop} (hw : w < 2 ^ 64) (hc : c ≤ 8) (hb : gF σ 0 1 = nI nb) (hs : nb + c ≤ 60) (ht : ∀ i, i < nb → gA σ 11 i = nI (tp i))
    (h : ∀ σ1, Fr [0] [11] σ σ1 → (∀ k, k ≠ 1 → gF σ1 0 k = gF σ 0 k) → gF σ1 0 1 = nI (nb + c) → (∀ i, i < nb → gA σ1 11 i = nI (tp i)) → (∀ i, i < c → gA σ1 11 (nb + i) = nI (byt w i)) → Q (nI (nb + c)) σ1) :
    ∃ n, wl_X8_feed_22 (lN w) (nI c) (fun σ9 => wp_X8_feed_54 (nI c) Q σ9) Q n (nI 0) σ := by
  refine loop_0 (σ := Sg) (fun n i s => wl_X8_feed_22 (lN w) (nI c) (fun σ9 => wp_X8_feed_54 (nI c) Q σ9) Q n (nI i) s) (fun i s => Fr [0] [11] σ s ∧ gF s 0 = gF σ 0 ∧ (∀ j, j < nb → gA s 11 j = nI (tp j)) ∧ (∀ j, j < i → gA s 11 (nb + j) = nI (byt w j))) c σ ⟨Fr.rf, rfl, ht, fun j hj => by omega⟩ ?_ ?_
  · intro n s I
    show wb_X8_feed_22 _ _ _ _ _ _ _
    refine pk_le c c (fun _ => ?_) (fun hz => by omega)
    intro σ1 e1
    have e2 : gF s 0 1 + nI c = nI (nb + c) := by rw [I.2.1, hb, nI_add]
    rw [e2] at e1
    have e3 : gF σ1 0 1 = nI (nb + c) := by rw [e1, gF_stF, if_pos rfl, if_pos rfl]
    rw [e3]
    refine h σ1 ?_ ?_ e3 ?_ ?_
    · rw [e1]; exact I.1.stF (by decide)
    · intro k hk
      rw [e1, gF_stF, if_pos rfl, if_neg hk, I.2.1]
    · intro j hj; rw [e1, gA_stF]; exact I.2.2.1 j hj
    · intro j hj; rw [e1, gA_stF]; exact I.2.2.2 j hj
  · intro n i s hi I hs2
    show wb_X8_feed_22 _ _ _ _ _ _ _
    refine pk_le c i (fun hz => by omega) (fun _ => ?_)
    refine sp_byteOf hw (by omega) ?_
    refine sp_put (k := nb + i) (by rw [I.2.1, hb, nI_add]) (by show _ < 60; omega) ?_
    intro x e
    rw [e, nI_add]
    refine hs2 _ ⟨I.1.stA (by decide), ?_, ?_, ?_⟩
    · rw [gF_stA]; exact I.2.1
    · intro j hj
      rw [gA_stA, if_pos rfl, if_neg (by omega)]
      exact I.2.2.1 j hj
    · intro j hj
      rw [gA_stA, if_pos rfl]
      by_cases hji : j = i
      · subst hji; rw [if_pos rfl]
      · rw [if_neg (by omega)]; exact I.2.2.2 j (by omega)
theorem sp_feedM {w c nb : Nat} {tp : Nat → Nat} {σ : Sg} {Q : Int32 → Sg → Prop} (hw : w < 2 ^ 64) (hc : c ≤ 8) (h1 : ∀ k, k < c → byt w k ≠ 0) (h2 : c = 8 ∨ byt w c = 0) (hb : gF σ 10 1 = nI nb) (hnb : nb ≤ 60) (ht : ∀ i, i < nb → gA σ 47 i = sby (tp i))
    (hf : 60 < nb + c → Q (-4) σ)
    (h : nb + c ≤ 60 → ∀ σ1, Fr [10] [47] σ σ1 → (∀ k, k ≠ 1 → gF σ1 10 k = gF σ 10 k) → gF σ1 10 1 = nI (nb + c) → (∀ i, i < nb → gA σ1 47 i = sby (tp i)) → (∀ i, i < c → gA σ1 47 (nb + i) = sby (byt w i)) → Q (nI (nb + c)) σ1) : wp_X9_feed (lN w) σ Q := by
  have tail : wp_X9_feed_29 (lN w) (nI c) Q σ := by
    unfold wp_X9_feed_29
    rw [hb, nI_add]
    refine pk_le (nb + c) 60 (fun hs => ?_) (fun hz => hf (by omega))
    refine loop_0 (σ := Sg) (fun n i s => wl_X9_feed_46 (lN w) (nI c) (fun σ9 => wp_X9_feed_79 (nI c) Q σ9) Q n (nI i) s) (fun i s => Fr [10] [47] σ s ∧ gF s 10 = gF σ 10 ∧ (∀ j, j < nb → gA s 47 j = sby (tp j)) ∧ (∀ j, j < i → gA s 47 (nb + j) = sby (byt w j))) c σ ⟨Fr.rf, rfl, ht, fun j hj => by omega⟩ ?_ ?_
    · intro n s I
      show wb_X9_feed_46 _ _ _ _ _ _ _
      refine pk_le c c (fun _ => ?_) (fun hz => by omega)
      intro σ1 e1
      have e2 : gF s 10 1 + nI c = nI (nb + c) := by rw [I.2.1, hb, nI_add]
      rw [e2] at e1
      have e3 : gF σ1 10 1 = nI (nb + c) := by rw [e1, gF_stF, if_pos rfl, if_pos rfl]
      rw [e3]
      refine h hs σ1 ?_ ?_ e3 ?_ ?_
      · rw [e1]; exact I.1.stF (by decide)
      · intro k hk
        rw [e1, gF_stF, if_pos rfl, if_neg hk, I.2.1]
      · intro j hj; rw [e1, gA_stF]; exact I.2.2.1 j hj
      · intro j hj; rw [e1, gA_stF]; exact I.2.2.2 j hj
    · intro n i s hi I hs2
      show wb_X9_feed_46 _ _ _ _ _ _ _
      refine pk_le c i (fun hz => by omega) (fun _ => ?_)
      have e2 : gF s 10 1 + nI i = nI (nb + i) := by rw [I.2.1, hb, nI_add]
      rw [e2, nI_clamp (by omega), Mbyte hw (by omega)]
      refine ⟨vp_in_nI (by show _ < 60; omega) (by decide), ?_⟩
      intro σ1 e1 x e
      rw [e, nI_add]
      refine hs2 σ1 ⟨?_, ?_, ?_, ?_⟩
      · rw [e1]; exact I.1.stA (by decide)
      · rw [e1, gF_stA]; exact I.2.1
      · intro j hj
        rw [e1, gA_stA, if_pos rfl, if_neg (by omega)]
        exact I.2.2.1 j hj
      · intro j hj
        rw [e1, gA_stA, if_pos rfl]
        by_cases hji : j = i
        · subst hji; rw [if_pos rfl]
        · rw [if_neg (by omega)]; exact I.2.2.2 j (by omega)
  refine loop_0 (σ := Unit) (fun n i _ => wl_X9_feed_2 (lN w) (fun z3 σ9 => wp_X9_feed_29 (lN w) z3 Q σ9) Q n (nI i) σ) (fun i _ => i ≤ c) c () (Nat.zero_le _) ?_ ?_
  · intro n _ _
    show wb_X9_feed_2 _ _ _ _ _ _
    refine pk_le 8 c (fun hz => tail) (fun hz => ?_)
    have hb : byt w c = 0 := by omega
    rw [Mtest hw hz, lgc_eq, hb]
    exact ⟨fun _ => tail, fun z => absurd rfl z⟩
  · intro n i _ hi _ hs
    show wb_X9_feed_2 _ _ _ _ _ _
    refine pk_le 8 i (fun hz => by omega) (fun hz => ?_)
    rw [Mtest hw hz, lgc_eq]
    refine ⟨fun z => ?_, fun _ x e => ?_⟩
    · exact absurd ((lN_eq (by have := byt_lt w i; omega) (by decide)).mp z) (h1 i hi)
    · rw [e, nI_add]; exact hs () (by omega)
theorem op_feed (a0 : Int64) : Both (wp_X8_feed a0) (wp_X9_feed a0) := by
  intro σ I
  obtain ⟨w, hw, rfl⟩ := wb_of a0
  obtain ⟨c, hc, h1, h2⟩ := cnt_ex w
  obtain ⟨nb, tp, n, to, vd, ds, mk, n', to', vd', hT, hF, hM, hX, hO, hK, hXk, hMk, hL⟩ := id I
  refine sp_bytesIn hw hc h1 h2 ?_
  show (_ → _) ∧ (_ → _)
  rw [hT.2.1, nI_add]
  have hn := hT.1
  refine pk_le (nb + c) 60 (fun hs => ?_) (fun hs => ?_)
  · refine sp_feedX hw hc hT.2.1 hs (fun i hi => (hT.2.2.2 i hi).2.1) (fun σ1 f1 g1 b1 t1 t2 => ?_)
    have e10 : gF σ1 10 = gF σ 10 := f1.F (by decide)
    have e47 : gA σ1 47 = gA σ 47 := f1.A (by decide)
    refine sp_feedM (tp := tp) hw hc h1 h2 (by rw [e10]; exact hT.2.2.1) hn (fun i hi => by rw [e47]; exact (hT.2.2.2 i hi).2.2) (fun z => by omega) (fun _ σ2 f2 g2 b2 u1 u2 => ⟨rfl, ?_⟩)
    have c0 : gF σ2 0 = gF σ1 0 := f2.F (by decide)
    have c11 : gA σ2 11 = gA σ1 11 := f2.A (by decide)
    refine I.tape (nb := nb + c) (tp := fun i => if i < nb then tp i else byt w (i - nb)) ((f1.mono (by decide) (by decide)).tr (f2.mono (by decide) (by decide))) (fun k hk => by rw [c0]; exact g1 k hk) (fun k hk => by rw [g2 k hk, e10]) ⟨hs, by rw [c0]; exact b1, b2, fun i hi => ?_⟩
    by_cases hi2 : i < nb
    · simp only [if_pos hi2]
      exact ⟨(hT.2.2.2 i hi2).1, by rw [c11]; exact t1 i hi2, u1 i hi2⟩
    · simp only [if_neg hi2]
      have e : i = nb + (i - nb) := by omega
      refine ⟨byt_lt _ _, ?_, ?_⟩
      · rw [c11]; have := t2 (i - nb) (by omega); rw [← e] at this; exact this
      · have := u2 (i - nb) (by omega); rw [← e] at this; exact this
  · exact sp_feedM (tp := tp) hw hc h1 h2 hT.2.2.1 hn (fun i hi => (hT.2.2.2 i hi).2.2) (fun _ => ⟨rfl, I⟩) (fun z => by omega)
