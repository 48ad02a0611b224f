/-! ===== keys: steps ===== -/
def stp (to : Nat → Nat → Nat) (m e : Nat) : Nat → Nat
  | 0 => 0
  | s + 1 => if m.testBit s = true then stp to m e s ||| 2 ^ to s e else stp to m e s
theorem stp_bit {to : Nat → Nat → Nat} {m e t : Nat} : ∀ k, (stp to m e k).testBit t = true ↔ ∃ s, s < k ∧ m.testBit s = true ∧ to s e = t
  | 0 => by
    show (0 : Nat).testBit t = true ↔ _
    rw [Nat.zero_testBit]
    exact ⟨fun z => Bool.noConfusion z, fun ⟨s, hs, _⟩ => by omega⟩
  | k + 1 => by
    unfold stp
    have ih := stp_bit (to := to) (m := m) (e := e) (t := t) k
    by_cases hb : m.testBit k = true
    · rw [if_pos hb, Nat.testBit_or, Nat.testBit_two_pow, Bool.or_eq_true, ih, decide_eq_true_eq]
      constructor
      · rintro (⟨s, h1, h2, h3⟩ | h)
        · exact ⟨s, by omega, h2, h3⟩
        · exact ⟨k, by omega, hb, h⟩
      · rintro ⟨s, h1, h2, h3⟩
        by_cases q : s = k
        · subst q; exact Or.inr h3
        · exact Or.inl ⟨s, by omega, h2, h3⟩
    · rw [if_neg hb, ih]
      constructor
      · rintro ⟨s, h1, h2, h3⟩; exact ⟨s, by omega, h2, h3⟩
      · rintro ⟨s, h1, h2, h3⟩
        by_cases q : s = k
        · subst q; exact absurd h2 hb
        · exact ⟨s, by omega, h2, h3⟩
theorem stp_lt {to : Nat → Nat → Nat} {vd : Nat → Nat} {m e n : Nat} (hM : PMa to vd n) (he : e < 4) : ∀ k, k ≤ n → stp to m e k < 2 ^ n
  | 0, _ => Nat.two_pow_pos n
  | k + 1, hk => by
    unfold stp
    have ih := stp_lt (m := m) hM he k (by omega)
    split
    · exact Nat.or_lt_two_pow ih (Nat.pow_lt_pow_right (by decide) ((hM.2.1 k (by omega)).2 e he))
    · exact ih
theorem p64 {m n : Nat} (h : m < 2 ^ n) (hn : n ≤ 60) : m < 2 ^ 64 := Nat.lt_of_lt_of_le h (Nat.pow_le_pow_right (by decide) (by omega))
theorem sp_stepped {σ : Sg} {n m e : Nat} {x : Int64} {to : Nat → Nat → Nat} {vd : Nat → Nat} {ds : Nat → Nat → Option Nat} {Q : Int64 → Sg → Prop} (hM : PMa to vd n) (hX : PXa σ n to vd ds) (hx : x = lN m) (hm : m < 2 ^ n) (he : e < 4) (h : Q (lN (stp to m e n)) σ) : wp_X1_stepped x (nI e) σ Q := by
  subst hx
  have hn := hM.1
  refine lq1 (fun f s (a : Nat) => wl_X1_stepped_6 (lN m) (nI e) Q f (lN a) (nI s) σ) (fun s a => a = stp to m e s) n ?_ ?_ 0 rfl
  · intro f a ha
    subst ha
    show wb_X1_stepped_6 _ _ _ _ _ _ _
    show (gF σ 6 4 ≤ nI n → _) ∧ (_ → _)
    rw [hX.1]
    exact pk_le n n (fun _ => h) (fun z => by omega)
  · intro f s a hs ha hs2
    show wb_X1_stepped_6 _ _ _ _ _ _ _
    show (gF σ 6 4 ≤ nI s → _) ∧ (_ → _)
    rw [hX.1]
    refine pk_le n s (fun z => by omega) (fun _ => ?_)
    refine sp_hasBit rfl (p64 hm hn) rfl (by omega) (bI_br (fun hb => ?_) (fun hb => ?_))
    · intro x ex
      rw [ex, nI_add]
      refine hs2 a ?_
      rw [ha]
      simp only [stp, hb]
      rfl
    · refine sp_next rfl rfl hs hn he ?_
      have ht := (hM.2.1 s hs).2 e he
      rw [(hX.2 s hs).2.1 e he]
      intro x ex
      have e1 : lSHL (lN 1) (nI (to s e)) = lN (2 ^ to s e) := by
        have := wb_shl 1 (k := to s e) (by omega)
        rw [Nat.one_mul] at this
        exact this
      rw [ex, e1, wb_or (by rw [ha]; exact p64 (stp_lt hM he s (by omega)) hn) (Nat.pow_lt_pow_right (by decide) (by omega))]
      intro y ey
      rw [ey, nI_add]
      refine hs2 _ ?_
      rw [ha]
      simp only [stp, hb, if_true]
/-- a cell that tells whether p -/
def Cb (x : Int32) (p : Prop) : Prop := ∃ v : Bool, x = bI v ∧ (v = true ↔ p)
theorem Cb.iff {x : Int32} {p q : Prop} (h : Cb x p) (e : p ↔ q) : Cb x q := by
  obtain ⟨v, h1, h2⟩ := h
  exact ⟨v, h1, h2.trans e⟩
theorem loop_f {A : Type} (W : Nat → Nat → A → Prop) (I : Nat → A → Prop) (f e : Nat) (hfe : f ≤ e) (hx : ∀ n s, I e s → W (n + 1) e s) (hs : ∀ n i s, f ≤ i → i < e → I i s → (∀ s', I (i + 1) s' → W n (i + 1) s') → W (n + 1) i s) (a : A) (h : I f a) : ∃ n, W n f a :=
  ⟨e - f + 1, loop_i W (fun i s => f ≤ i ∧ I i s) e (fun n s h => hx n s h.2) (fun n i s hi h ih => hs n i s h.1 hi h.2 (fun s' h' => ih s' ⟨by omega, h'⟩)) _ f a hfe (by omega) ⟨by omega, h⟩⟩
def Ms (to : Nat → Nat → Nat) (m : Nat) (b : Bool) (f l s e t : Nat) : Prop := (b = true ∧ m.testBit t = true) ∨ (∃ s', s' < s ∧ m.testBit s' = true ∧ ∃ e', f ≤ e' ∧ e' ≤ l ∧ to s' e' = t) ∨ (m.testBit s = true ∧ ∃ e', f ≤ e' ∧ e' < e ∧ to s e' = t)
theorem Ms_next {to : Nat → Nat → Nat} {m : Nat} {b : Bool} {f l s t : Nat} : Ms to m b f l s (l + 1) t ↔ Ms to m b f l (s + 1) f t := by
  constructor
  · rintro (h | ⟨s', h1, h2, h3⟩ | ⟨h1, e', h2, h3, h4⟩)
    · exact Or.inl h
    · exact Or.inr (Or.inl ⟨s', by omega, h2, h3⟩)
    · exact Or.inr (Or.inl ⟨s, by omega, h1, e', h2, by omega, h4⟩)
  · rintro (h | ⟨s', h1, h2, e', h3, h4, h5⟩ | ⟨h1, e', h2, h3, h4⟩)
    · exact Or.inl h
    · by_cases q : s' = s
      · subst q; exact Or.inr (Or.inr ⟨h2, e', h3, by omega, h5⟩)
      · exact Or.inr (Or.inl ⟨s', by omega, h2, e', h3, h4, h5⟩)
    · omega
theorem Ms_skip {to : Nat → Nat → Nat} {m : Nat} {b : Bool} {f l s t : Nat} (hb : ¬ m.testBit s = true) : Ms to m b f l s f t ↔ Ms to m b f l (s + 1) f t := by
  rw [← Ms_next]
  constructor
  · rintro (h | h | ⟨h1, _⟩)
    · exact Or.inl h
    · exact Or.inr (Or.inl h)
    · exact absurd h1 hb
  · rintro (h | h | ⟨h1, _⟩)
    · exact Or.inl h
    · exact Or.inr (Or.inl h)
    · exact absurd h1 hb
/-- the reference's step of a key -/
theorem sp_Mstep {σ : Sg} {n k m f l : Nat} {b : Bool} {x y z w : Int32} {to : Nat → Nat → Nat} {vd : Nat → Nat} {Q : Sg → Prop} (hM : PMa to vd n) (hO : PMo σ n to vd) (hx : x = nI k) (hy : y = nI f) (hz : z = nI l) (hw : w = bI b) (hk : k < 16) (hfl : f ≤ l) (hl : l < 4) (hm : ∀ s, s < n → gA σ 79 (60 * k + s) = bI (m.testBit s)) (h : ∀ σ1, Fr [] [79, 80] σ σ1 → (∀ t, t < n → Cb (gA σ1 79 (60 * k + t)) (Ms to m b f l n f t)) → (∀ j, (∀ t, t < n → j ≠ 60 * k + t) → gA σ1 79 j = gA σ 79 j) → Q σ1) : wp_X9_step x y z w σ Q := by
  subst hx hy hz hw
  have hn := hM.1
  have i60 : ∀ t, nI 60 * nI k + nI t = nI (60 * k + t) := fun t => by rw [pk_mul, nI_add]
  have i4 : ∀ s e, nI 4 * nI s + nI e = nI (4 * s + e) := fun s e => by rw [pk_mul, nI_add]
  unfold wp_X9_step
  refine lq1 (fun g s (τ : Sg) => wl_X9_step_3 (nI k) (nI f) (nI l) (bI b) (fun σ9 => wp_X9_step_50 (nI k) (nI f) (nI l) Q σ9) Q g (nI s) τ) (fun s τ => Fr [] [80] σ τ ∧ ∀ t, t < s → gA τ 80 t = bI (b && m.testBit t)) n ?_ ?_ σ ⟨Fr.rf, fun t z => by omega⟩
  · intro g τ ⟨hf, ht⟩
    show wb_X9_step_3 _ _ _ _ _ _ _ _ _
    unfold wb_X9_step_3
    rw [hf.F (by decide), hO.1]
    refine pk_le n n (fun _ => ?_) (fun z => by omega)
    show wp_X9_step_50 _ _ _ _ _
    unfold wp_X9_step_50
    -- the second loop
    refine lq1 (fun g s (τ : Sg) => wl_X9_step_53 (nI k) (nI f) (nI l) (fun σ9 => wp_X9_step_116 (nI k) Q σ9) Q g (nI s) τ) (fun s τ => Fr [] [80] σ τ ∧ ∀ t, t < n → Cb (gA τ 80 t) (Ms to m b f l s f t)) n ?_ ?_ τ ⟨hf, fun t hn => ⟨_, ht t hn, ?_⟩⟩
    · intro g τ ⟨hf, ht⟩
      show wb_X9_step_53 _ _ _ _ _ _ _ _
      unfold wb_X9_step_53
      rw [hf.F (by decide), hO.1]
      refine pk_le n n (fun _ => ?_) (fun z => by omega)
      show wp_X9_step_116 _ _ _
      unfold wp_X9_step_116
      -- the third
      refine lq1 (fun g s (ρ : Sg) => wl_X9_step_119 (nI k) Q g (nI s) ρ) (fun s ρ => Fr [] [79] τ ρ ∧ (∀ t, t < s → gA ρ 79 (60 * k + t) = gA τ 80 t) ∧ ∀ j, (∀ t, t < s → j ≠ 60 * k + t) → gA ρ 79 j = gA σ 79 j) n ?_ ?_ τ ⟨Fr.rf, fun t z => by omega, fun j _ => by rw [hf.A (by decide)]⟩
      · intro g ρ ⟨h1, h2, h3⟩
        show wb_X9_step_119 _ _ _ _ _
        unfold wb_X9_step_119
        rw [h1.F (by decide), hf.F (by decide), hO.1]
        refine pk_le n n (fun _ => ?_) (fun z => by omega)
        exact h ρ ((hf.mono (by simp) (by simp)).tr (h1.mono (by simp) (by simp))) (fun t hn => by rw [h2 t hn]; exact ht t hn) h3
      · intro g s ρ hs ⟨h1, h2, h3⟩ hs2
        show wb_X9_step_119 _ _ _ _ _
        unfold wb_X9_step_119
        rw [h1.F (by decide), hf.F (by decide), hO.1, i60, nI_clamp (by omega), nI_clamp (by omega), h1.A (by decide : (80 : Nat) ∉ _)]
        refine pk_le n s (fun z => by omega) (fun _ => ⟨vp_in_nI (by show s < 60; omega) (by decide), vp_in_nI (by show _ < 960; omega) (by decide), ?_⟩)
        intro ρ1 e1 x ex
        obtain ⟨v, hv, -⟩ := ht s hs
        subst e1
        rw [ex, nI_add, hv, nar_bI]
        refine hs2 _ ⟨h1.stA (by simp), fun t hts => ?_, fun j hj => ?_⟩
        · rw [gA_stA]
          by_cases q : t = s
          · subst q; rw [if_pos rfl, if_pos rfl, hv]
          · rw [if_pos rfl, if_neg (by omega)]
            exact h2 t (by omega)
        · rw [gA_stA, if_pos rfl, if_neg (hj s (by omega))]
          exact h3 j (fun t q => hj t (by omega))
    · intro g s τ hs ⟨hf, ht⟩ hs2
      show wb_X9_step_53 _ _ _ _ _ _ _ _
      unfold wb_X9_step_53
      rw [hf.F (by decide), hO.1]
      refine pk_le n s (fun z => by omega) (fun _ => ?_)
      by_cases hb : m.testBit s = true
      · refine loop_f (fun g e (τ : Sg) => wl_X9_step_65 (nI k) (nI f) (nI l) (nI s) _ Q g (nI e) τ) (fun e τ => Fr [] [80] σ τ ∧ ∀ t, t < n → Cb (gA τ 80 t) (Ms to m b f l s e t)) f (l + 1) (by omega) ?_ ?_ τ ⟨hf, ht⟩
        · intro g τ ⟨hf, ht⟩
          show wb_X9_step_65 _ _ _ _ _ _ _ _ _
          refine pk_lt l (l + 1) (fun _ => ?_) (fun z => by omega)
          intro x ex
          rw [ex, nI_add]
          exact hs2 τ ⟨hf, fun t hn => (ht t hn).iff Ms_next⟩
        · intro g e τ he1 he2 ⟨hf, ht⟩ hs3
          show wb_X9_step_65 _ _ _ _ _ _ _ _ _
          have hts := (hM.2.1 s hs).2 e (by omega)
          unfold wb_X9_step_65
          rw [i60, nI_clamp (by omega), i4, nI_clamp (by omega), hf.A (by decide), hm s hs, hb, hf.A (by decide), (hO.2.2 s hs).2.2 e (by omega), nI_clamp (by omega)]
          refine pk_lt l e (fun z => by omega) (fun _ => ⟨vp_in_nI (by show _ < 960; omega) (by decide), br_f (by decide) ⟨vp_in_nI (by show _ < 240; omega) (by decide), vp_in_nI (by show _ < 60; omega) (by decide), ?_⟩⟩)
          intro ρ1 e1 x ex
          subst e1
          rw [ex, nI_add]
          refine hs3 _ ⟨hf.stA (by simp), fun t hn => ?_⟩
          rw [gA_stA, if_pos rfl]
          by_cases q : t = to s e
          · rw [if_pos q]
            exact ⟨true, nar_bI true, fun _ => Or.inr (Or.inr ⟨hb, e, he1, by omega, q.symm⟩), fun _ => rfl⟩
          · rw [if_neg q]
            refine (ht t hn).iff ⟨?_, ?_⟩
            · rintro (h | h | ⟨h1, e', h2, h3, h4⟩)
              · exact Or.inl h
              · exact Or.inr (Or.inl h)
              · exact Or.inr (Or.inr ⟨h1, e', h2, by omega, h4⟩)
            · rintro (h | h | ⟨h1, e', h2, h3, h4⟩)
              · exact Or.inl h
              · exact Or.inr (Or.inl h)
              · by_cases q2 : e' = e
                · subst q2; exact absurd h4.symm q
                · exact Or.inr (Or.inr ⟨h1, e', h2, by omega, h4⟩)
      · refine ⟨1, ?_⟩
        show wb_X9_step_65 _ _ _ _ _ _ _ _ _
        have hb2 : m.testBit s = false := by cases h : m.testBit s with | false => rfl | true => exact absurd h hb
        unfold wb_X9_step_65
        rw [i60, nI_clamp (by omega), hf.A (by decide), hm s hs, hb2]
        refine pk_lt l f (fun z => by omega) (fun _ => ⟨vp_in_nI (by show _ < 960; omega) (by decide), br_t rfl ?_⟩)
        intro x ex
        rw [ex, nI_add]
        exact hs2 τ ⟨hf, fun t hn => (ht t hn).iff (Ms_skip hb)⟩
    · rw [Bool.and_eq_true]
      constructor
      · exact fun h => Or.inl h
      · rintro (h | ⟨s', h1, _⟩ | ⟨_, e', h1, h2, _⟩)
        · exact h
        · omega
        · omega
  · intro g s τ hs ⟨hf, ht⟩ hs2
    show wb_X9_step_3 _ _ _ _ _ _ _ _ _
    have last : ∀ v : Bool, v = (b && m.testBit s) → wp_X9_step_43 (nI k) (nI f) (nI l) (bI b) (nI s) (bI v) (nI s) (wl_X9_step_3 (nI k) (nI f) (nI l) (bI b) (fun σ9 => wp_X9_step_50 (nI k) (nI f) (nI l) Q σ9) Q g) Q τ := by
      intro v hv
      refine ⟨vp_in_nI (by show s < 60; omega) (by decide), ?_⟩
      intro ρ1 e1 x ex
      subst e1
      rw [ex, nI_add, nI_clamp (by omega), nar_bI]
      refine hs2 _ ⟨hf.stA (by simp), fun t hts => ?_⟩
      rw [gA_stA, if_pos rfl]
      by_cases q : t = s
      · rw [if_pos q, q, hv]
      · rw [if_neg q]; exact ht t (by omega)
    unfold wb_X9_step_3
    rw [hf.F (by decide), hO.1, i60, nI_clamp (by omega), hf.A (by decide), hm s hs]
    refine pk_le n s (fun z => by omega) (fun _ => bI_br (fun z => last false (by rw [z]; rfl)) (fun z => ⟨vp_in_nI (by show _ < 960; omega) (by decide), bI_br (fun y => last false (by rw [z, y]; rfl)) (fun y => last true (by rw [z, y]; rfl))⟩))
