/-! ===== read: the pairs, the reference's new one ===== -/
theorem len60 {x : Nat → NdT} {N j : Nat} {s : PQt} (hq : PWq x N j s) (h : ∀ w, w < 2 ^ pbc x N → ctp s.2.1 w s.1 ≤ 60) : s.1 - 1 ≤ 60 * 2 ^ pbc x N := by
  obtain ⟨h1, h0, h2, h3, h4, h5⟩ := hq
  have ct : ∀ i, 1 ≤ i → i < s.1 → ctp s.2.1 (s.2.1 i) i < 60 := fun i i1 i2 => by
    have := ctp_lt (ps := s.2.1) (w := s.2.1 i) i1 i2 rfl
    have := h (s.2.1 i) (h2 i i2)
    omega
  refine fb_holes (60 * 2 ^ pbc x N) (s.1 - 1) (fun i => s.2.1 (i + 1) * 60 + ctp s.2.1 (s.2.1 (i + 1)) (i + 1)) (fun i hi => ?_) (fun i k hik hk => ?_)
  · have a := h2 (i + 1) (by omega)
    have b := ct (i + 1) (by omega) (by omega)
    show s.2.1 (i + 1) * 60 + ctp s.2.1 (s.2.1 (i + 1)) (i + 1) < _
    omega
  · intro e
    have e' : s.2.1 (i + 1) * 60 + ctp s.2.1 (s.2.1 (i + 1)) (i + 1) = s.2.1 (k + 1) * 60 + ctp s.2.1 (s.2.1 (k + 1)) (k + 1) := e
    have b1 := ct (i + 1) (by omega) (by omega)
    have b2 := ct (k + 1) (by omega) (by omega)
    have ep : s.2.1 (i + 1) = s.2.1 (k + 1) := by omega
    have := ctp_lt (ps := s.2.1) (w := s.2.1 (k + 1)) (i := i + 1) (c := k + 1) (by omega) (by omega) ep
    rw [ep] at e'
    omega
theorem pw_mono {a b : Nat} (h : a ≤ b) : 2 ^ a ≤ 2 ^ b := Nat.pow_le_pow_right (n := 2) (by decide) h
/-- the tables are wide enough -/
theorem lim_of {x : Nat → NdT} {N j : Nat} {s : PQt} (h8 : fbc x N + pbc x N ≤ 8) (hq : PWq x N j s) (h : ∀ w, w < 2 ^ pbc x N → ctp s.2.1 w s.1 ≤ 60) : s.1 ≤ 1921 ∧ (s.1 + 1) * 2 ^ fbc x N ≤ 33300 := by
  have l1 := len60 hq h
  have l2 := pwq_len hq
  have h1 := hq.1
  have hP : pbc x N ≤ 8 := by omega
  constructor
  · rcases (by omega : pbc x N ≤ 5 ∨ pbc x N = 6 ∨ pbc x N = 7 ∨ pbc x N = 8) with q | q | q | q
    · have : 2 ^ pbc x N ≤ 2 ^ 5 := pw_mono q
      omega
    · have hF : 2 ^ fbc x N ≤ 2 ^ 2 := pw_mono (by omega)
      have hFF : 2 ^ 2 ^ fbc x N ≤ 2 ^ 4 := pw_mono hF
      rw [q] at l2
      have : 2 ^ 6 * 2 ^ 2 ^ fbc x N ≤ 2 ^ 6 * 2 ^ 4 := Nat.mul_le_mul_left _ hFF
      omega
    · have hF : 2 ^ fbc x N ≤ 2 ^ 1 := pw_mono (by omega)
      have hFF : 2 ^ 2 ^ fbc x N ≤ 2 ^ 2 := pw_mono hF
      rw [q] at l2
      have : 2 ^ 7 * 2 ^ 2 ^ fbc x N ≤ 2 ^ 7 * 2 ^ 2 := Nat.mul_le_mul_left _ hFF
      omega
    · have hF : 2 ^ fbc x N ≤ 2 ^ 0 := pw_mono (by omega)
      have hFF : 2 ^ 2 ^ fbc x N ≤ 2 ^ 1 := pw_mono hF
      rw [q] at l2
      have : 2 ^ 8 * 2 ^ 2 ^ fbc x N ≤ 2 ^ 8 * 2 ^ 1 := Nat.mul_le_mul_left _ hFF
      omega
  · have a : (s.1 + 1) * 2 ^ fbc x N ≤ (60 * 2 ^ pbc x N + 2) * 2 ^ fbc x N := Nat.mul_le_mul_right _ (by omega)
    have b : (60 * 2 ^ pbc x N + 2) * 2 ^ fbc x N = 60 * 2 ^ (fbc x N + pbc x N) + 2 * 2 ^ fbc x N := by
      rw [Nat.add_mul, Nat.mul_assoc, ← Nat.pow_add, Nat.add_comm (pbc x N)]
    have c := pw8 h8
    have d := pw8 (show fbc x N ≤ 8 by omega)
    omega
theorem ctp_new {ps : Nat → Nat} {w v c : Nat} (hc : 1 ≤ c) : ctp (fun k => if k = c then w else ps k) v (c + 1) = ctp ps v c + (if w = v then 1 else 0) := by
  unfold ctp
  rw [fb_ct_succ]
  have e1 : fb_ct (ofp (fun k => if k = c then w else ps k) v) c = fb_ct (ofp ps v) c := by
    refine fb_ct_cong (fun k hk => ?_)
    unfold ofp
    simp only [if_neg (show ¬ k = c by omega)]
  have e2 : ofp (fun k => if k = c then w else ps k) v c = decide (w = v) := by
    unfold ofp
    simp only [if_true]
    rw [decide_eq_true hc, Bool.true_and]
  rw [e1, e2]
  by_cases q : w = v
  · rw [decide_eq_true q, if_pos q]; rfl
  · rw [decide_eq_false q, if_neg q]; rfl
theorem ctp_old {ps ps' : Nat → Nat} {v c : Nat} (h : ∀ k, k < c → ps' k = ps k) : ctp ps' v c = ctp ps v c := by
  unfold ctp
  refine fb_ct_cong (fun k hk => ?_)
  unfold ofp
  rw [h k hk]
theorem sp_Mnew {σ0 σ : Sg} {x : Nat → NdT} {N w S j : Nat} {s : PQt} {Q : Int32 → Sg → Prop} (h8 : fbc x N + pbc x N ≤ 8) (h15 : gF σ 10 15 = nI (fbc x N)) (hw : w < 2 ^ pbc x N) (hq : PWq x N j s) (hR : RMq σ0 σ x N s) (h67 : ∀ z, z < 2 ^ fbc x N → gA σ 67 z = bI (S.testBit z)) (hfull : ctp s.2.1 w s.1 = 60 → Q (-9) σ) (hnew : ctp s.2.1 w s.1 < 60 → ∀ σ' ld', Fr [10] [62, 63, 65, 66] σ σ' → RMq σ0 σ' x N (s.1 + 1, (fun k => if k = s.1 then w else s.2.1 k), (fun k => if k = s.1 then S else s.2.2.1 k), ld') → Q (nI s.1) σ') : wp_X9_state_94 (nI w) Q σ := by
  obtain ⟨fr, g, h27, hrow, hlist⟩ := hR
  obtain ⟨l1, l2, l3⟩ := hlist w hw
  obtain ⟨m1, m2⟩ := lim_of h8 hq (fun w hw => (hlist w hw).2.1)
  have hc1 := hq.1
  have hF8 : fbc x N ≤ 8 := by omega
  have hw256 := pw8 (show pbc x N ≤ 8 by omega)
  have hD256 := pw8 hF8
  have hD0 := Nat.two_pow_pos (fbc x N)
  unfold wp_X9_state_94
  rw [nI_clamp (by omega), l1]
  have w65 : vp_in (nI w) 256 := vp_in_nI (by omega) (by decide)
  refine ⟨w65, (pk_eq (ctp s.2.1 w s.1) 60 (fun e => hfull e) (fun ne => ?_)).symm⟩
  intro x112 e112 σ1 e1
  rw [h27] at e112
  subst e112
  rw [h27, nI_add] at e1
  have a1 : gA σ1 = gA σ := by rw [e1]; rfl
  rw [a1, l1, pk_mul, nI_add, nI_clamp (by omega)]
  refine ⟨w65, vp_in_nI (by show _ < 15616; omega) (by decide), ?_⟩
  intro σ2 e2
  refine ⟨w65, w65, ?_⟩
  have l1' : gA σ2 65 w = nI (ctp s.2.1 w s.1) := by rw [e2, gA_stA_row (by decide), a1]; exact l1
  rw [l1', nI_add]
  intro σ3 e3
  refine ⟨vp_in_nI (by show s.1 < 2600; omega) (by decide), ?_⟩
  intro σ4 e4
  rw [nI_clamp (by omega)] at e4
  have b62 : ∀ i, gA σ4 62 i = if i = s.1 then nI w else gA σ 62 i := by
    intro i
    rw [e4, gA_stA, if_pos rfl, e3, gA_stA_row (by decide), e2, gA_stA_row (by decide), a1]
  have b65 : ∀ i, gA σ4 65 i = if i = w then nI (ctp s.2.1 w s.1 + 1) else gA σ 65 i := by
    intro i
    rw [e4, gA_stA_row (by decide), e3, gA_stA, if_pos rfl, e2, gA_stA_row (by decide), a1]
  have b66 : ∀ i, gA σ4 66 i = if i = 61 * w + ctp s.2.1 w s.1 then nI s.1 else gA σ 66 i := by
    intro i
    rw [e4, gA_stA_row (by decide), e3, gA_stA_row (by decide), e2, gA_stA, if_pos rfl, a1]
  have b63 : gA σ4 63 = gA σ 63 := by
    rw [e4, gA_stA_row (by decide), e3, gA_stA_row (by decide), e2, gA_stA_row (by decide), a1]
  have b67 : gA σ4 67 = gA σ 67 := by
    rw [e4, gA_stA_row (by decide), e3, gA_stA_row (by decide), e2, gA_stA_row (by decide), a1]
  have bF : ∀ k, gF σ4 10 k = if k = 27 then nI (s.1 + 1) else gF σ 10 k := by
    intro k
    rw [e4, gF_stA, e3, gF_stA, e2, gF_stA, e1, gF_stF, if_pos rfl]
  have fr4 : Fr [10] [62, 63, 65, 66] σ σ4 := by
    rw [e4, e3, e2, e1]
    exact (((Fr.rf.stF (by simp)).stA (by simp)).stA (by simp)).stA (by simp)
  clear e1 e2 e3 e4
  have hcD : s.1 * 2 ^ fbc x N + 2 ^ fbc x N ≤ 33300 := by
    rw [Nat.add_mul, Nat.one_mul] at m2; exact m2
  refine lq1 (fun g z (τ : Sg) => wl_X9_state_159 (nI s.1) Q g (nI z) τ) (fun z τ => Fr [] [63] σ4 τ ∧ (∀ i, i < z → gA τ 63 (s.1 * 2 ^ fbc x N + i) = bI (S.testBit i)) ∧ ∀ i, i < s.1 * 2 ^ fbc x N → gA τ 63 i = gA σ 63 i) (2 ^ fbc x N) ?_ ?_ σ4 ⟨Fr.rf, fun i hi => by omega, fun i _ => by rw [b63]⟩
  · intro g' τ ⟨f1, t1, t2⟩
    show wb_X9_state_159 _ _ _ _ _
    unfold wb_X9_state_159
    refine sp_wide (by rw [f1.F (by decide), bF, if_neg (by decide)]; exact h15) hF8 ?_
    refine pk_le (2 ^ fbc x N) (2 ^ fbc x N) (fun _ => ?_) (fun z => by omega)
    have frt : Fr [10] [62, 63, 65, 66] σ τ := fr4.tr (f1.mono (by simp) (by simp))
    refine hnew (by omega) τ s.2.2.2 frt ⟨fr.tr (frt.mono (by simp) (by simp)), fun k hk => ?_, ?_, fun r r1 r2 => ?_, fun v hv => ?_⟩
    · rw [f1.F (by decide), bF, if_neg hk]; exact g k hk
    · rw [f1.F (by decide), bF, if_pos rfl]
    · simp only at r2 ⊢
      rw [f1.A (by decide), b62]
      by_cases q : r = s.1
      · rw [if_pos q, if_pos q, if_pos q, q]
        exact ⟨rfl, t1⟩
      · rw [if_neg q, if_neg q, if_neg q]
        obtain ⟨p1, p2⟩ := hrow r r1 (by omega)
        refine ⟨p1, fun z hz => ?_⟩
        rw [t2 _ ?_]
        · exact p2 z hz
        · have h1 : (r + 1) * 2 ^ fbc x N ≤ s.1 * 2 ^ fbc x N := Nat.mul_le_mul_right _ (by omega)
          rw [Nat.add_mul, Nat.one_mul] at h1
          omega
    · simp only
      obtain ⟨p1, p2, p3⟩ := hlist v hv
      have hcn := ctp_new (ps := s.2.1) (w := w) (v := v) hc1
      rw [f1.A (by decide), f1.A (by decide), b65]
      have oldct : ∀ r, r < s.1 → ctp (fun k => if k = s.1 then w else s.2.1 k) v r = ctp s.2.1 v r := fun r hr => ctp_old (fun k hk => by simp only [if_neg (show ¬ k = s.1 by omega)])
      by_cases q : v = w
      · subst q
        rw [if_pos rfl, hcn, if_pos rfl]
        refine ⟨rfl, by omega, fun k hk => ?_⟩
        by_cases e : k = ctp s.2.1 v s.1
        · refine ⟨s.1, by rw [b66, if_pos (by omega)], hc1, by omega, by simp only [if_true], ?_⟩
          rw [e]
          exact ctp_old (fun k hk => by simp only [if_neg (show ¬ k = s.1 by omega)])
        · obtain ⟨r, r0, r1, r2, r3, r4⟩ := p3 k (by omega)
          refine ⟨r, by rw [b66, if_neg (by omega)]; exact r0, r1, by omega, by simp only [if_neg (show ¬ r = s.1 by omega)]; exact r3, ?_⟩
          rw [oldct r r2]; exact r4
      · rw [if_neg q, hcn, if_neg (fun z => q z.symm), Nat.add_zero]
        refine ⟨p1, p2, fun k hk => ?_⟩
        obtain ⟨r, r0, r1, r2, r3, r4⟩ := p3 k hk
        refine ⟨r, by rw [b66, if_neg (by omega)]; exact r0, r1, by omega, by simp only [if_neg (show ¬ r = s.1 by omega)]; exact r3, ?_⟩
        rw [oldct r r2]; exact r4
  · intro g' z τ hz ⟨f1, t1, t2⟩ hs2
    show wb_X9_state_159 _ _ _ _ _
    have q15 : gF τ 10 15 = nI (fbc x N) := by rw [f1.F (by decide), bF, if_neg (by decide)]; exact h15
    unfold wb_X9_state_159
    refine sp_wide q15 hF8 ?_
    refine pk_le (2 ^ fbc x N) z (fun z => by omega) (fun _ => sp_wide q15 hF8 ?_)
    rw [pk_mul, nI_add, nI_clamp (by omega), nI_clamp (by omega), f1.A (by decide), b67, h67 z hz, nar_bI]
    refine ⟨vp_in_nI (by show _ < 256; omega) (by decide), vp_in_nI (by show _ < 33300; omega) (by decide), ?_⟩
    intro τ1 e1 v ev
    rw [ev, nI_add]
    refine hs2 τ1 ⟨by rw [e1]; exact f1.stA (by simp), fun i hi => ?_, fun i hi => ?_⟩
    · rw [e1, gA_stA, if_pos rfl]
      by_cases q : i = z
      · rw [if_pos (by omega), q]
      · rw [if_neg (by omega)]; exact t1 i (by omega)
    · rw [e1, gA_stA, if_pos rfl, if_neg (by omega)]
      exact t2 i hi
