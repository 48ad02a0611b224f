/-! ===== read: the pairs, the reference's search ===== -/
def ofp (ps : Nat → Nat) (w : Nat) (i : Nat) : Bool := decide (1 ≤ i) && decide (ps i = w)
def ctp (ps : Nat → Nat) (w c : Nat) : Nat := fb_ct (ofp ps w) c
def RMq (σ0 σ : Sg) (x : Nat → NdT) (N : Nat) (s : PQt) : Prop :=
  Fr [10] [62, 63, 64, 65, 66, 67] σ0 σ ∧ (∀ k, k ≠ 27 → gF σ 10 k = gF σ0 10 k) ∧ gF σ 10 27 = nI s.1 ∧ (∀ r, 1 ≤ r → r < s.1 → gA σ 62 r = nI (s.2.1 r) ∧ ∀ z, z < 2 ^ fbc x N → gA σ 63 (r * 2 ^ fbc x N + z) = bI ((s.2.2.1 r).testBit z)) ∧ ∀ w, w < 2 ^ pbc x N → gA σ 65 w = nI (ctp s.2.1 w s.1) ∧ ctp s.2.1 w s.1 ≤ 60 ∧ ∀ k, k < ctp s.2.1 w s.1 → ∃ r, gA σ 66 (61 * w + k) = nI r ∧ 1 ≤ r ∧ r < s.1 ∧ s.2.1 r = w ∧ ctp s.2.1 w r = k
theorem mask_eq {a b D : Nat} (ha : a < 2 ^ D) (hb : b < 2 ^ D) (h : ∀ z, z < D → a.testBit z = b.testBit z) : a = b := by
  apply Nat.eq_of_testBit_eq
  intro t
  by_cases q : t < D
  · exact h t q
  · rw [Nat.testBit_lt_two_pow (Nat.lt_of_lt_of_le ha (Nat.pow_le_pow_right (by decide) (by omega))), Nat.testBit_lt_two_pow (Nat.lt_of_lt_of_le hb (Nat.pow_le_pow_right (by decide) (by omega)))]
/-- rows of the kept table lie in it -/
def Lim (x : Nat → NdT) (N c : Nat) : Prop := c ≤ 1921 ∧ c * 2 ^ fbc x N ≤ 33300
theorem sp_sameRow {σ : Sg} {D r S T : Nat} {x : Nat → NdT} {N : Nat} {v1 v2 : Int32} {K : Int32 → Sg → Prop} {Q : Int32 → Sg → Prop} (hD : D = 2 ^ fbc x N) (hF8 : fbc x N ≤ 8) (h15 : gF σ 10 15 = nI (fbc x N)) (hr : r * D + D ≤ 33300) (h63 : ∀ z, z < D → gA σ 63 (r * D + z) = bI (T.testBit z)) (h67 : ∀ z, z < D → gA σ 67 z = bI (S.testBit z)) (h : ∀ b : Bool, (b = true ↔ ∀ z, z < D → T.testBit z = S.testBit z) → K (bI b) σ) : ∃ n, wl_X9_state_30 v1 v2 (nI r) K Q n (nI 1) (nI 0) σ := by
  have hD256 : D ≤ 256 := by rw [hD]; exact pw8 hF8
  have hw : ∀ P : Int32 → Sg → Prop, P (nI D) σ → wp_X9_wide σ P := fun P hP => sp_wide h15 hF8 (by rw [← hD]; exact hP)
  refine loop_m (σ := Bool × Nat) (fun g a => wl_X9_state_30 v1 v2 (nI r) K Q g (bI a.1) (nI a.2) σ) (fun a => a.2 ≤ D ∧ (a.1 = true → ∀ z, z < a.2 → T.testBit z = S.testBit z) ∧ (a.1 = false → ∃ z, z < D ∧ ¬ T.testBit z = S.testBit z)) (fun a => D - a.2) ?_ (true, 0) ⟨Nat.zero_le D, fun _ z hz => absurd hz (Nat.not_lt_zero z), fun q => (by cases q)⟩
  rintro g ⟨b, z⟩ ⟨a1, a2, a3⟩ hs
  simp only at a1 a2 a3 hs ⊢
  show wb_X9_state_30 _ _ _ _ _ _ _ _ _
  unfold wb_X9_state_30
  have fin : b = false ∨ z = D → K (bI b) σ := by
    intro q
    refine h b ⟨fun hb z' hz' => ?_, fun ha => ?_⟩
    · rcases q with q | q
      · rw [q] at hb; cases hb
      · exact a2 hb z' (by omega)
    · cases hb : b with
      | true => rfl
      | false =>
        obtain ⟨z', h1, h2⟩ := a3 hb
        exact absurd (ha z' h1) h2
  refine hw _ (pk_le D z (fun q => fin (Or.inr (by omega))) (fun q => bI_br (fun y => fin (Or.inl y)) (fun y => hw _ ?_)))
  rw [pk_mul, nI_add, nI_clamp (by omega), nI_clamp (by omega), h63 z q, h67 z q]
  refine ⟨vp_in_nI (by show _ < 33300; omega) (by decide), vp_in_nI (by show _ < 256; omega) (by decide), fun ne => ?_, fun eq => ?_⟩
  · intro v ev
    rw [ev, nI_add]
    exact hs (false, z + 1) ⟨by show z + 1 ≤ D; omega, fun w => (by cases w), fun _ => ⟨z, q, fun w => ne (by rw [w])⟩⟩ (by show D - (z + 1) < D - z; omega)
  · intro v ev
    rw [ev, nI_add]
    have hbi : T.testBit z = S.testBit z := by
      revert eq
      cases T.testBit z <;> cases S.testBit z <;> intro eq <;> first | rfl | exact absurd eq (by decide)
    refine hs (true, z + 1) ⟨by show z + 1 ≤ D; omega, fun _ z' hz' => ?_, fun w => (by cases w)⟩ (by show D - (z + 1) < D - z; omega)
    by_cases e : z' = z
    · rw [e]; exact hbi
    · exact a2 y z' (by simp only at hz'; omega)
theorem ctp_lt {ps : Nat → Nat} {w c i : Nat} (h1 : 1 ≤ i) (hi : i < c) (hw : ps i = w) : ctp ps w i < ctp ps w c := by
  have e : ctp ps w (i + 1) = ctp ps w i + 1 := by
    unfold ctp
    rw [fb_ct_succ]
    unfold ofp
    rw [decide_eq_true h1, decide_eq_true hw]; rfl
  have : ctp ps w (i + 1) ≤ ctp ps w c := fb_ct_mono _ hi
  omega
/-- the search -/
theorem sp_Mfind {σ0 σ : Sg} {x : Nat → NdT} {N w S j : Nat} {s : PQt} {Q : Int32 → Sg → Prop} (hF8 : fbc x N ≤ 8) (hP8 : pbc x N ≤ 8) (h15 : gF σ 10 15 = nI (fbc x N)) (hw : w < 2 ^ pbc x N) (hS : S < 2 ^ 2 ^ fbc x N) (hL : Lim x N s.1) (hq : PWq x N j s) (hR : RMq σ0 σ x N s) (h67 : ∀ z, z < 2 ^ fbc x N → gA σ 67 z = bI (S.testBit z)) (hy : ∀ i, fnd s.2.1 s.2.2.1 w S s.1 = some i → Q (nI i) σ) (hn : fnd s.2.1 s.2.2.1 w S s.1 = none → wp_X9_state_94 (nI w) Q σ) : wp_X9_state (nI w) σ Q := by
  obtain ⟨fr, g, h27, hrow, hlist⟩ := hR
  obtain ⟨l1, l2, l3⟩ := hlist w hw
  have hw256 := pw8 hP8
  have hD0 := Nat.two_pow_pos (fbc x N)
  obtain ⟨q1, q0, q2, q3, q4, q5⟩ := hq
  -- the found one is the only one
  have only : ∀ r, 1 ≤ r → r < s.1 → s.2.1 r = w → s.2.2.1 r = S → fnd s.2.1 s.2.2.1 w S s.1 = some r := by
    intro r r1 r2 r3 r4
    cases hf : fnd s.2.1 s.2.2.1 w S s.1 with
    | none => exact absurd ⟨r3, r4⟩ (fnd_none s.1 hf r r1 r2)
    | some i =>
      obtain ⟨f1, f2, f3, f4⟩ := fnd_some s.1 hf
      rcases Nat.lt_trichotomy i r with e | e | e
      · exact absurd ⟨f3.trans r3.symm, f4.trans r4.symm⟩ (q4 i r f1 e r2)
      · rw [e]
      · exact absurd ⟨r3.trans f3.symm, r4.trans f4.symm⟩ (q4 r i r1 e f2)
  have end_ : (∀ r, 1 ≤ r → r < s.1 → s.2.1 r = w → ¬ s.2.2.1 r = S) → fnd s.2.1 s.2.2.1 w S s.1 = none := by
    intro hno
    cases hf : fnd s.2.1 s.2.2.1 w S s.1 with
    | none => rfl
    | some i =>
      obtain ⟨f1, f2, f3, f4⟩ := fnd_some s.1 hf
      exact absurd f4 (hno i f1 f2 f3)
  refine loop_m (σ := Nat) (fun g k => wl_X9_state_2 (nI w) (fun σ9 => wp_X9_state_94 (nI w) Q σ9) Q g (nI k) σ) (fun k => k ≤ ctp s.2.1 w s.1 ∧ ∀ r, 1 ≤ r → r < s.1 → s.2.1 r = w → ctp s.2.1 w r < k → ¬ s.2.2.1 r = S) (fun k => 61 - k) ?_ 0 ⟨Nat.zero_le _, fun r _ _ _ hk => absurd hk (Nat.not_lt_zero _)⟩
  intro g k ⟨a1, a2⟩ hs
  show wb_X9_state_2 _ _ _ _ _ _
  unfold wb_X9_state_2
  rw [nI_clamp (by omega), l1]
  refine ⟨vp_in_nI (by show w < 256; omega) (by decide), pk_le (ctp s.2.1 w s.1) k (fun z => hn (end_ (fun r r1 r2 r3 => a2 r r1 r2 r3 (by have := ctp_lt r1 r2 r3; omega)))) (fun z => ?_)⟩
  obtain ⟨r, r0, r1, r2, r3, r4⟩ := l3 k z
  rw [pk_mul, nI_add, nI_clamp (by omega), r0]
  refine ⟨vp_in_nI (by show _ < 15616; omega) (by decide), ?_⟩
  intro x23 e23
  subst e23
  have hrD : r * 2 ^ fbc x N + 2 ^ fbc x N ≤ 33300 := by
    have h1 : (r + 1) * 2 ^ fbc x N ≤ s.1 * 2 ^ fbc x N := Nat.mul_le_mul_right _ r2
    rw [Nat.add_mul, Nat.one_mul] at h1
    have := hL.2
    omega
  refine sp_sameRow (T := s.2.2.1 r) (S := S) rfl hF8 h15 hrD (hrow r r1 r2).2 h67 (fun b hb => ?_)
  refine bI_br (fun y => ?_) (fun y => ?_)
  · intro v ev
    rw [ev, nI_add]
    refine hs (k + 1) ⟨z, fun r' p1 p2 p3 p4 => ?_⟩ (by show 61 - (k + 1) < 61 - k; omega)
    by_cases e : ctp s.2.1 w r' < k
    · exact a2 r' p1 p2 p3 e
    · have hrr : r' = r := by
        have e4 : ctp s.2.1 w r' = ctp s.2.1 w r := by omega
        rcases Nat.lt_trichotomy r' r with c | c | c
        · have := ctp_lt (c := r) p1 c p3; omega
        · exact c
        · have := ctp_lt (c := r') r1 c r3; omega
      rw [hrr]
      intro he
      have : b = true := hb.mpr (fun z _ => by rw [he])
      rw [this] at y; cases y
  · refine hy r (only r r1 r2 r3 (mask_eq (q3 r r1 r2).1 hS (hb.mp y)))
