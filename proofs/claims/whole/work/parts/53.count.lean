/-! ===== state, count, keep ===== -/
theorem isub0 {i : Int32} {c : Nat} : i - nI c = nI 0 ↔ i = nI c := by
  constructor
  · intro h
    have h2 : i - nI c + nI c = nI 0 + nI c := by rw [h]
    rw [Int32.sub_add_cancel, nI_add, Nat.zero_add] at h2
    exact h2
  · intro h
    rw [h, Int32.sub_self]; rfl
theorem isub1 (i : Int32) (c : Nat) : i - nI c + (-1 : Int32) = i - nI (c + 1) := by
  have e : (-1 : Int32) = -(nI 1) := by decide
  rw [e, ← nI_add, Int32.sub_eq_add_neg, Int32.sub_eq_add_neg, Int32.neg_add, Int32.add_assoc, Int32.sub_eq_add_neg]
/-- the i-th of the states of a mask -/
def isKt (m : Nat) (i : Int32) (s : Nat) : Prop := m.testBit s = true ∧ i = nI (fb_ct m.testBit s)
theorem sp_stateAt {σ : Sg} {k m : Nat} {i r : Int32} {Q : Int32 → Sg → Prop} (hk : k < 16) (hm : gL σ 45 k = lN m) (hml : m < 2 ^ 64) (hr : (∃ s, s < 60 ∧ isKt m i s ∧ (∀ t, t < s → ¬ isKt m i t) ∧ r = nI s) ∨ ((∀ t, t < 60 → ¬ isKt m i t) ∧ r = -9)) (h : Q r σ) : wp_X1_stateAt (nI k) i σ Q := by
  refine sp_pickLong rfl (by show k < 16; exact hk) ?_
  rw [hm]
  have step : ∀ (f s : Nat) (a : Int32), s < 60 → a = i - nI (fb_ct m.testBit s) → ¬ isKt m i s → (∀ b, b = i - nI (fb_ct m.testBit (s + 1)) → wl_X1_stateAt_15 (lN m) Q f b (nI (s + 1)) σ) → wl_X1_stateAt_15 (lN m) Q (f + 1) a (nI s) σ := by
    intro f s a hs ha hn hs2
    show wb_X1_stateAt_15 _ _ _ _ _ _
    refine pk_le 60 s (fun z => by omega) (fun _ => sp_hasBit rfl hml rfl (by omega) (bI_br (fun hb => ?_) (fun hb => ?_)))
    · intro x ex
      rw [ex, nI_add]
      refine hs2 _ ?_
      rw [ha, fb_ct_succ, hb]
      rfl
    · refine ⟨fun _ => ?_, fun z => ?_⟩
      · intro y ey x ex
        rw [ex, nI_add]
        refine hs2 _ ?_
        rw [ey, ha, fb_ct_succ, hb, isub1]
        rfl
      · rw [ha, isub0] at z
        exact absurd ⟨hb, z⟩ hn
  rcases hr with ⟨s, hs, hi, hmin, hr⟩ | ⟨hno, hr⟩
  · refine loop_0 (σ := Int32) (fun f t a => wl_X1_stateAt_15 (lN m) Q f a (nI t) σ) (fun t a => a = i - nI (fb_ct m.testBit t)) s i ?_ ?_ ?_
    · show i = i - nI 0
      exact (Int32.sub_zero i).symm
    · intro f a ha
      show wb_X1_stateAt_15 _ _ _ _ _ _
      refine pk_le 60 s (fun z => by omega) (fun _ => sp_hasBit rfl hml rfl (by omega) (bI_br (fun hb => ?_) (fun hb => ?_)))
      · rw [hi.1] at hb; cases hb
      · refine ⟨fun z => absurd (by rw [ha, isub0]; exact hi.2) z, fun _ => ?_⟩
        rw [← hr]; exact h
    · intro f t a ht ha hs2
      exact step f t a (by omega) ha (hmin t ht) hs2
  · refine loop_0 (σ := Int32) (fun f t a => wl_X1_stateAt_15 (lN m) Q f a (nI t) σ) (fun t a => a = i - nI (fb_ct m.testBit t)) 60 i ?_ ?_ ?_
    · show i = i - nI 0
      exact (Int32.sub_zero i).symm
    · intro f a ha
      show wb_X1_stateAt_15 _ _ _ _ _ _
      refine pk_le 60 60 (fun _ => ?_) (fun z => by omega)
      rw [← hr]; exact h
    · intro f t a ht ha hs2
      exact step f t a (by omega) ha (hno t ht) hs2
theorem sp_Mstate {σ : Sg} {k m n : Nat} {i r : Int32} {Q : Int32 → Sg → Prop} (hk : k < 16) (hn : n ≤ 60) (h39 : gF σ 10 39 = nI n) (hm : ∀ s, s < 60 → gA σ 79 (60 * k + s) = bI (m.testBit s)) (hr : (∃ s, s < n ∧ isKt m i s ∧ (∀ t, t < s → ¬ isKt m i t) ∧ r = nI s) ∨ ((∀ t, t < n → ¬ isKt m i t) ∧ r = -9)) (h : Q r σ) : ∃ f, wl_X9_state__24 (nI k) i Q f i (nI 0) σ := by
  have step : ∀ (f s : Nat) (a : Int32), s < n → ¬ i < nI 0 → a = i - nI (fb_ct m.testBit s) → ¬ isKt m i s → (∀ b, b = i - nI (fb_ct m.testBit (s + 1)) → wl_X9_state__24 (nI k) i Q f b (nI (s + 1)) σ) → wl_X9_state__24 (nI k) i Q (f + 1) a (nI s) σ := by
    intro f s a hs hi0 ha hno hs2
    show wb_X9_state__24 _ _ _ _ _ _ _
    have i60 : nI 60 * nI k + nI s = nI (60 * k + s) := by rw [pk_mul, nI_add]
    unfold wb_X9_state__24
    rw [h39, i60, nI_clamp (by omega), hm s (by omega)]
    refine pk_le n s (fun z => by omega) (fun _ => br_f hi0 ⟨vp_in_nI (by show _ < 960; omega) (by decide), bI_br (fun hb => ?_) (fun hb => ?_)⟩)
    · intro x ex
      rw [ex, nI_add]
      refine hs2 _ ?_
      rw [ha, fb_ct_succ, hb]
      rfl
    · refine ⟨fun _ => ?_, fun z => ?_⟩
      · intro y ey x ex
        rw [ex, nI_add]
        refine hs2 _ ?_
        rw [ey, ha, fb_ct_succ, hb, isub1]
        rfl
      · rw [ha, isub0] at z
        exact absurd ⟨hb, z⟩ hno
  rcases hr with ⟨s, hs, hi, hmin, hr⟩ | ⟨hno, hr⟩
  · have hi0 : ¬ i < nI 0 := by
      rw [hi.2]
      exact nI_nlt (Nat.zero_le _) (by have := fb_ct_le m.testBit s; omega)
    refine loop_0 (σ := Int32) (fun f t a => wl_X9_state__24 (nI k) i Q f a (nI t) σ) (fun t a => a = i - nI (fb_ct m.testBit t)) s i ?_ ?_ ?_
    · show i = i - nI 0
      exact (Int32.sub_zero i).symm
    · intro f a ha
      show wb_X9_state__24 _ _ _ _ _ _ _
      have i60 : nI 60 * nI k + nI s = nI (60 * k + s) := by rw [pk_mul, nI_add]
      unfold wb_X9_state__24
      rw [h39, i60, nI_clamp (by omega), hm s (by omega)]
      refine pk_le n s (fun z => by omega) (fun _ => br_f hi0 ⟨vp_in_nI (by show _ < 960; omega) (by decide), bI_br (fun hb => ?_) (fun hb => ?_)⟩)
      · rw [hi.1] at hb; cases hb
      · refine ⟨fun z => absurd (by rw [ha, isub0]; exact hi.2) z, fun _ => ?_⟩
        rw [← hr]; exact h
    · intro f t a ht ha hs2
      exact step f t a (by omega) hi0 ha (hmin t ht) hs2
  · by_cases hi0 : i < nI 0
    · refine ⟨1, ?_⟩
      show wb_X9_state__24 _ _ _ _ _ _ _
      unfold wb_X9_state__24
      rw [h39]
      refine ⟨fun _ => by rw [← hr]; exact h, fun _ => br_t hi0 (by rw [← hr]; exact h)⟩
    · refine loop_0 (σ := Int32) (fun f t a => wl_X9_state__24 (nI k) i Q f a (nI t) σ) (fun t a => a = i - nI (fb_ct m.testBit t)) n i ?_ ?_ ?_
      · show i = i - nI 0
        exact (Int32.sub_zero i).symm
      · intro f a ha
        show wb_X9_state__24 _ _ _ _ _ _ _
        unfold wb_X9_state__24
        rw [h39]
        refine pk_le n n (fun _ => ?_) (fun z => by omega)
        rw [← hr]; exact h
      · intro f t a ht ha hs2
        exact step f t a (by omega) hi0 ha (hno t ht) hs2
theorem isKt_cases {m n : Nat} {i : Int32} (hm : m < 2 ^ n) : ∃ r, ((∃ s, s < n ∧ isKt m i s ∧ (∀ t, t < s → ¬ isKt m i t) ∧ r = nI s) ∨ ((∀ t, ¬ isKt m i t) ∧ r = -9)) := by
  by_cases h : ∃ s, isKt m i s
  · obtain ⟨s, h1, h2⟩ := pk_least _ h
    refine ⟨nI s, Or.inl ⟨s, ?_, h1, h2, rfl⟩⟩
    by_cases q : s < n
    · exact q
    · have := bit_out hm (Nat.not_lt.mp q)
      rw [h1.1] at this; cases this
  · exact ⟨-9, Or.inr ⟨fun t ht => h ⟨t, ht⟩, rfl⟩⟩
theorem op_state (a0 a1 : Int32) : Both (wp_X8_state a0 a1) (wp_X9_state_ a0 a1) := by
  intro σ I
  obtain ⟨nb, tp, n, to, vd, ds, mk, n', to', vd', hT, hF, hM, hX, hO, hK, hXk, hMk, hL⟩ := id I
  have hn60 := hM.1
  refine sp_refK hX.1 hM.1 (fun h0 => br_f (by decide) ?_) (fun hn hi => br_f (by decide) ?_) (fun k hn hk e => br_t rfl ?_)
  · exact sp_MrefS hO.2.1 (fun z => by omega) (fun _ => ⟨rfl, I⟩)
  · exact sp_MrefK hO.2.1 hn (by rw [hi]; exact ⟨fun z => absurd rfl z, fun _ => ⟨rfl, I⟩⟩)
  · subst e
    obtain ⟨r, hr⟩ := isKt_cases (i := a1) (hK k hk).2.1
    refine sp_stateAt (r := r) hk (hK k hk).1 (p64 (hK k hk).2.1 hn60) ?_ (sp_MrefK hO.2.1 hn ?_)
    · rcases hr with ⟨s, h1, h2⟩ | ⟨h1, h2⟩
      · exact Or.inl ⟨s, by omega, h2⟩
      · exact Or.inr ⟨fun t _ => h1 t, h2⟩
    · rw [inN_nI (by omega), decide_eq_true hk]
      refine ⟨fun _ => sp_Mstate (r := r) hk hn60 hO.1 (hK k hk).2.2.2 ?_ ⟨rfl, I⟩, fun z => absurd z (by decide)⟩
      rcases hr with ⟨s, h1, h2⟩ | ⟨h1, h2⟩
      · exact Or.inl ⟨s, h1, h2⟩
      · exact Or.inr ⟨fun t _ => h1 t, h2⟩
