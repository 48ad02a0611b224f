/-! ===== against, apart ===== -/
def b0q : BQ2 := (0, (fun _ => 0), (fun _ => 0))
def BFq (to to' : Nat → Nat → Nat) : BQ2 := bqu to to' 3601 0 (bwk to to' b0q 0 1 4)
theorem bqu_end {to to' : Nat → Nat → Nat} {f i : Nat} {b : BQ2} (h : b.1 ≤ i) : bqu to to' (f + 1) i b = b := if_neg (by omega)
theorem bqu_step {to to' : Nat → Nat → Nat} {f i : Nat} {b : BQ2} (h : i < b.1) : bqu to to' (f + 1) i b = bqu to to' f (i + 1) (bwk to to' b (b.2.1 i) (b.2.2 i + 1) 4) := if_pos h
theorem wb_0 {n n' m : Nat} : Wb n n' m b0q := ⟨fun i hi => absurd hi (Nat.not_lt_zero i), fun i j _ hj => absurd hj (Nat.not_lt_zero j)⟩
theorem sp_meetX {σ : Sg} {n n' : Nat} {to to' : Nat → Nat → Nat} {vd vd' : Nat → Nat} {ds : Nat → Nat → Option Nat} {Q : Sg → Prop} (hM : PMa to vd n) (hX : PXa σ n to vd ds) (hXk : PXk σ n' to' vd') (h0 : 0 < n) (h0' : 0 < n') (h : ∀ σ1, RXm σ σ1 n (fun s => decide (vd s % 2 = 1)) (fun s => decide (vd' s % 2 = 1)) (BFq to to') → Wb n n' 3601 (BFq to to') → Q σ1) : wp_X3_meet σ Q := by
  have hn := hM.1
  have hn' := hXk.2.1
  have hT : Tb n to := ⟨hn, fun s hs e he => (hM.2.1 s hs).2 e he⟩
  have hT' : Tb n' to' := ⟨hn', fun s hs e he => ((hXk.2.2 s hs).2.2 e he).2⟩
  refine lq1 (fun f i (τ : Sg) => wl_X3_meet_2 (fun σ9 => wp_X3_meet_29 Q σ9) Q f (nI i) τ) (fun i τ => Fr [] [43] σ τ ∧ ∀ p, p < i → gA τ 43 p = -9) (n * 60) ?_ ?_ σ ⟨Fr.rf, fun p hp => by omega⟩
  · intro f τ ⟨hf, hc⟩
    show wb_X3_meet_2 _ _ _ _ _
    show (gF τ 6 4 * nI 60 ≤ _ → _) ∧ (_ → _)
    rw [hf.F (by decide), hX.1, pk_mul]
    refine pk_le (n * 60) (n * 60) (fun _ => ?_) (fun z => by omega)
    intro σ1 e1 σ2 e2 σ3 e3 σ4 e4 σ5 e5
    have f5 : Fr [8] [43, 44] σ σ5 := by
      rw [e5, e4, e3, e2, e1]
      exact (((((hf.mono (by simp) (by simp)).stF (by simp)).stF (by simp)).stF (by simp)).stF (by simp)).stF (by simp)
    have g43 : gA σ5 43 = gA τ 43 := by rw [e5, e4, e3, e2, e1]; rfl
    have g2 : gF σ5 8 2 = nI 0 := by rw [e5, e4, e3, e2, e1]; rfl
    have g3 : gF σ5 8 3 = nI 0 := by rw [e5, e4, e3, e2, e1]; rfl
    have g4 : gF σ5 8 4 = nI 0 := by rw [e5, e4, e3, e2, e1]; rfl
    have g5 : gF σ5 8 5 = nI 0 := by rw [e5, e4, e3, e2, e1]; rfl
    have g6 : gF σ5 8 6 = -9 := by rw [e5, e4, e3, e2, e1]; rfl
    have no : ∀ u v, ¬ Flb (fun s => decide (vd s % 2 = 1)) (fun s => decide (vd' s % 2 = 1)) u v b0q := fun u v ⟨i, hi, _⟩ => absurd hi (Nat.not_lt_zero i)
    have hR : RXm σ σ5 n (fun s => decide (vd s % 2 = 1)) (fun s => decide (vd' s % 2 = 1)) b0q := by
      refine ⟨f5, g2, fun i hi => absurd hi (Nat.not_lt_zero i), fun p hp _ => by rw [g43]; exact hc p (by omega), ⟨false, g3, ?_⟩, ⟨false, g4, ?_⟩, ⟨false, g5, ?_⟩, Or.inr ⟨fun j hj => absurd hj (Nat.not_lt_zero j), g6⟩⟩
      · exact ⟨fun z => Bool.noConfusion z, fun z => absurd z (no _ _)⟩
      · exact ⟨fun z => Bool.noConfusion z, fun z => absurd z (no _ _)⟩
      · exact ⟨fun z => Bool.noConfusion z, fun z => absurd z (no _ _)⟩
    refine sp_walkX (m := 1) hM hX hXk rfl rfl (by omega) (by omega) (Nat.le_refl 1) (by decide) wb_0 hR (fun σ6 h6 => ?_)
    have hw6 : Wb n n' 1 (bwk to to' b0q 0 1 4) := wb2_bwk wb_0 hT hT' (by omega) (by omega) (Nat.le_refl 1) 4 (by omega)
    refine loop_m (σ := Nat × Sg × BQ2) (fun f a => wl_X3_meet_65 Q f (nI a.1) a.2.1) (fun a => RXm σ a.2.1 n (fun s => decide (vd s % 2 = 1)) (fun s => decide (vd' s % 2 = 1)) a.2.2 ∧ Wb n n' (a.1 + 1) a.2.2 ∧ bqu to to' (3601 - a.1) a.1 a.2.2 = BFq to to' ∧ a.1 ≤ a.2.2.1) (fun a => 3601 - a.1) ?_ (0, σ6, bwk to to' b0q 0 1 4) ⟨h6, hw6, rfl, Nat.zero_le _⟩
    rintro f ⟨i, ρ, b⟩ ⟨hR, hW, hB, hi⟩ hs2
    simp only at hR hW hB hi hs2 ⊢
    have hl := hW.len hn
    show wb_X3_meet_65 _ _ _ _
    unfold wb_X3_meet_65
    rw [hR.2.1]
    refine pk_le b.1 i (fun z => ?_) (fun z => ?_)
    · have e : 3601 - i = (3600 - i) + 1 := by omega
      rw [e, bqu_end z] at hB
      refine h ρ (by rw [← hB]; exact hR) (by rw [← hB]; exact hW.mono (by omega))
    · have e : 3601 - i = (3601 - (i + 1)) + 1 := by omega
      rw [e, bqu_step z] at hB
      refine pk_le 3600 i (fun z => by omega) (fun _ => ?_)
      have hb := hW.1 i z
      obtain ⟨q1, q2⟩ := hR.2.2.1 i z
      refine sp_pick (k := i) rfl (by show i < 3600; omega) ?_
      rw [q1]
      refine sp_pick (k := b.2.1 i) rfl (by show b.2.1 i < 3600; omega) ?_
      rw [q2, nI_add]
      refine sp_walkX (m := i + 2) hM hX hXk rfl rfl hb.1 hb.2.1 (by omega) (by omega) (hW.mono (by omega)) hR (fun ρ1 hρ1 => ?_)
      intro x ex
      rw [ex, nI_add]
      have hW2 := wb2_bwk (p := b.2.1 i) (d := b.2.2 i + 1) (hW.mono (show i + 1 ≤ i + 2 by omega)) hT hT' hb.1 hb.2.1 (by omega) 4 (by omega)
      have ho := (bwk_old (to := to) (to' := to') (p := b.2.1 i) (d := b.2.2 i + 1) z 4).1
      exact hs2 (i + 1, ρ1, _) ⟨hρ1, hW2, hB, ho⟩ (by show 3601 - (i + 1) < 3601 - i; omega)
  · intro f i τ hi ⟨hf, hc⟩ hs2
    show wb_X3_meet_2 _ _ _ _ _
    show (gF τ 6 4 * nI 60 ≤ _ → _) ∧ (_ → _)
    rw [hf.F (by decide), hX.1, pk_mul]
    refine pk_le (n * 60) i (fun z => by omega) (fun _ => ?_)
    refine sp_put (k := i) rfl (by show i < 3600; omega) ?_
    intro x ex
    rw [ex, nI_add]
    refine hs2 _ ⟨hf.stA (by simp), fun p hp => ?_⟩
    rw [gA_stA, if_pos rfl]
    by_cases q : p = i
    · rw [if_pos q]
    · rw [if_neg q]; exact hc p (by omega)
-- the reference
def RMm (σ0 σ : Sg) (b : BQ2) : Prop :=
  Fr [10] [84, 85, 86] σ0 σ ∧ (∀ k, k ≠ 55 → gF σ 10 k = gF σ0 10 k) ∧ gF σ 10 55 = nI b.1 ∧ (∀ i, i < b.1 → gA σ 84 i = nI (b.2.1 i) ∧ gA σ 85 i = nI (b.2.2 i)) ∧ ∀ p, p < 3600 → Cb (gA σ 86 p) (∃ i, i < b.1 ∧ b.2.1 i = p)
theorem sp_meetPair {σ0 σ : Sg} {n n' m p d : Nat} {x y : Int32} {b : BQ2} {Q : Sg → Prop} (hn : n ≤ 60) (hx : x = nI p) (hy : y = nI d) (hp : p / 60 < n) (hp' : p % 60 < n') (hd : d ≤ m) (hw : Wb n n' m b) (hR : RMm σ0 σ b) (h : ∀ σ1, RMm σ0 σ1 (bad b p d) → Q σ1) : wp_X9_meetPair x y σ Q := by
  subst hx hy
  obtain ⟨fr, g10, g55, hq, hm⟩ := id hR
  have hlen := hw.len hn
  unfold wp_X9_meetPair
  rw [nI_clamp (by omega)]
  refine ⟨vp_in_nI (by show p < 3600; omega) (by decide), ?_⟩
  obtain ⟨v, hv, hvi⟩ := hm p (by omega)
  rw [hv]
  refine bI_rb (fun z => ?_) (fun z => ?_)
  · have := bad_in (d := d) (hvi.mp z)
    refine h σ ?_
    rw [this]; exact hR
  · have hin : ¬ ∃ i, i < b.1 ∧ b.2.1 i = p := fun w => by rw [hvi.mpr w] at z; cases z
    have hwn := wb2_bad (p := p) (d := d) hw hp hp' hd
    have hlen2 := hwn.len hn
    rw [bad_new hin] at hlen2
    have hlen3 : b.1 < 3600 := by simp only at hlen2; omega
    refine ⟨vp_in_nI (by show p < 3600; omega) (by decide), ?_⟩
    intro σ1 e1
    have a55 : gF σ1 10 55 = nI b.1 := by rw [e1]; exact g55
    rw [a55]
    refine ⟨vp_in_nI (by show b.1 < 3600; exact hlen3) (by decide), ?_⟩
    intro σ2 e2
    have b55 : gF σ2 10 55 = nI b.1 := by rw [e2]; exact a55
    rw [b55]
    refine ⟨vp_in_nI (by show b.1 < 3600; exact hlen3) (by decide), ?_⟩
    intro σ3 e3 σ4 e4
    rw [nI_clamp (by omega)] at e2 e3
    have f4 : Fr [10] [84, 85, 86] σ σ4 := by
      rw [e4, e3, e2, e1]
      exact (((Fr.rf.stA (by simp)).stA (by simp)).stA (by simp)).stF (by simp)
    refine h σ4 ⟨fr.tr f4, ?_, ?_, ?_, ?_⟩
    · intro k hk
      rw [e4, gF_stF, if_pos rfl, if_neg hk, e3, e2, e1]
      exact g10 k hk
    · rw [e4, gF_stF, if_pos rfl, if_pos rfl, e3, bad_new hin]
      show gF σ2 10 55 + nI 1 = _
      rw [b55, nI_add]
    · intro i hi
      rw [bad_new hin] at hi ⊢
      simp only at hi ⊢
      rw [e4, gA_stF, e3, gA_stA_row (by decide), gA_stA, if_pos rfl, e2, gA_stA, if_pos rfl, gA_stA_row (by decide), e1, gA_stA_row (by decide), gA_stA_row (by decide)]
      by_cases q : i = b.1
      · simp only [if_pos q]
        exact ⟨trivial, trivial⟩
      · simp only [if_neg q]
        exact hq i (by omega)
    · intro p' hp1
      rw [e4, gA_stF, e3, gA_stA_row (by decide), e2, gA_stA_row (by decide), e1, gA_stA, if_pos rfl]
      have hr : (∃ i, i < (bad b p d).1 ∧ (bad b p d).2.1 i = p') ↔ (∃ i, i < b.1 ∧ b.2.1 i = p') ∨ p' = p := by
        rw [bad_new hin]
        simp only
        constructor
        · rintro ⟨i, h1, h2⟩
          by_cases q : i = b.1
          · rw [if_pos q] at h2; exact Or.inr h2.symm
          · rw [if_neg q] at h2; exact Or.inl ⟨i, by omega, h2⟩
        · rintro (⟨i, h1, h2⟩ | h2)
          · exact ⟨i, by omega, by rw [if_neg (by omega)]; exact h2⟩
          · exact ⟨b.1, by omega, by rw [if_pos rfl]; exact h2.symm⟩
      by_cases q : p' = p
      · rw [if_pos q]
        exact ⟨true, nar_bI true, fun _ => hr.mpr (Or.inr q), fun _ => rfl⟩
      · rw [if_neg q]
        refine (hm p' hp1).iff ?_
        rw [hr]
        exact ⟨Or.inl, fun w => w.elim id (fun w => absurd w q)⟩
theorem sp_pairUp {σ : Sg} {n n' : Nat} {to to' : Nat → Nat → Nat} {vd vd' : Nat → Nat} {Q : Sg → Prop} (hM : PMa to vd n) (hO : PMo σ n to vd) (hT' : Tb n' to') (hMk : PMk σ n' to' vd') (h0 : 0 < n) (h0' : 0 < n') (h : ∀ σ1, RMm σ σ1 (BFq to to') → Wb n n' 3601 (BFq to to') → Q σ1) : wp_X9_pairUp σ Q := by
  have hn := hM.1
  have hn' := hT'.1
  have hT : Tb n to := ⟨hn, fun s hs e he => (hM.2.1 s hs).2 e he⟩
  intro σ1 e1
  have f1 : Fr [10] [84, 85, 86] σ σ1 := by rw [e1]; exact Fr.rf.stF (by simp)
  have g1 : ∀ k, k ≠ 55 → gF σ1 10 k = gF σ 10 k := fun k hk => by rw [e1, gF_stF, if_pos rfl, if_neg hk]
  have g55 : gF σ1 10 55 = nI 0 := by rw [e1, gF_stF, if_pos rfl, if_pos rfl]
  clear e1
  refine lq1 (fun f i (τ : Sg) => wl_X9_pairUp_7 (fun σ9 => wp_X9_pairUp_27 Q σ9) Q f (nI i) τ) (fun i τ => Fr [] [86] σ1 τ ∧ ∀ p, p < i → gA τ 86 p = nI 0) 3600 ?_ ?_ σ1 ⟨Fr.rf, fun p hp => by omega⟩
  · intro f τ ⟨hf, hc⟩
    show wb_X9_pairUp_7 _ _ _ _ _
    refine pk_le 3600 3600 (fun _ => ?_) (fun z => by omega)
    have hR : RMm σ τ b0q := by
      refine ⟨f1.tr (hf.mono (by simp) (by simp)), fun k hk => by rw [hf.F (by decide), g1 k hk], by rw [hf.F (by decide), g55]; rfl, fun i hi => absurd hi (Nat.not_lt_zero i), fun p hp => ⟨false, hc p hp, ?_⟩⟩
      exact ⟨fun z => Bool.noConfusion z, fun ⟨i, hi, _⟩ => absurd hi (Nat.not_lt_zero i)⟩
    have rd : ∀ ρ, ∀ b, RMm σ ρ b → (∀ s, s < n → ∀ e, e < 4 → gA ρ 71 (4 * s + e) = nI (to s e)) ∧ (∀ s, s < n' → ∀ e, e < 4 → gA ρ 82 (4 * s + e) = nI (to' s e)) := by
      intro ρ b hb
      refine ⟨fun s hs e he => ?_, fun s hs e he => ?_⟩
      · rw [hb.1.A (by decide)]; exact (hO.2.2 s hs).2.2 e he
      · rw [hb.1.A (by decide)]; exact (hMk.2 s hs).2 e he
    show wp_X9_pairUp_27 _ _
    refine lq1 (fun f e (ρ : Sg) => wl_X9_pairUp_29 (fun σ9 => wp_X9_pairUp_61 Q σ9) Q f (nI e) ρ) (fun e ρ => RMm σ ρ (bwk to to' b0q 0 1 e)) 4 ?_ ?_ τ hR
    · intro f ρ hρ
      show wb_X9_pairUp_29 _ _ _ _ _
      refine pk_le 4 4 (fun _ => ?_) (fun z => by omega)
      show wp_X9_pairUp_61 _ _
      have hw6 : Wb n n' 1 (bwk to to' b0q 0 1 4) := wb2_bwk wb_0 hT hT' (by omega) (by omega) (Nat.le_refl 1) 4 (by omega)
      refine loop_m (σ := Nat × Sg × BQ2) (fun f a => wl_X9_pairUp_63 Q f (nI a.1) a.2.1) (fun a => RMm σ a.2.1 a.2.2 ∧ Wb n n' (a.1 + 1) a.2.2 ∧ bqu to to' (3601 - a.1) a.1 a.2.2 = BFq to to' ∧ a.1 ≤ a.2.2.1) (fun a => 3601 - a.1) ?_ (0, ρ, bwk to to' b0q 0 1 4) ⟨hρ, hw6, rfl, Nat.zero_le _⟩
      rintro f ⟨i, ρ, b⟩ ⟨hR, hW, hB, hi⟩ hs2
      simp only at hR hW hB hi hs2 ⊢
      have hl := hW.len hn
      show wb_X9_pairUp_63 _ _ _ _
      unfold wb_X9_pairUp_63
      rw [hR.2.2.1]
      refine pk_le b.1 i (fun z => ?_) (fun z => ?_)
      · have e : 3601 - i = (3600 - i) + 1 := by omega
        rw [e, bqu_end z] at hB
        exact h ρ (by rw [← hB]; exact hR) (by rw [← hB]; exact hW.mono (by omega))
      · have e : 3601 - i = (3601 - (i + 1)) + 1 := by omega
        rw [e, bqu_step z] at hB
        have hb := hW.1 i z
        have hWm : Wb n n' (i + 2) b := hW.mono (by omega)
        refine lq1 (fun f e (κ : Sg) => wl_X9_pairUp_73 (nI i) (fun σ9 => wp_X9_pairUp_136 (nI i) _ Q σ9) Q f (nI e) κ) (fun e κ => RMm σ κ (bwk to to' b (b.2.1 i) (b.2.2 i + 1) e)) 4 ?_ ?_ ρ hR
        · intro f κ hκ
          show wb_X9_pairUp_73 _ _ _ _ _ _
          refine pk_le 4 4 (fun _ => ?_) (fun z => by omega)
          intro x ex
          rw [ex, nI_add]
          have hW2 := wb2_bwk (p := b.2.1 i) (d := b.2.2 i + 1) hWm hT hT' hb.1 hb.2.1 (by omega) 4 (by omega)
          have ho := (bwk_old (to := to) (to' := to') (p := b.2.1 i) (d := b.2.2 i + 1) z 4).1
          exact hs2 (i + 1, κ, _) ⟨hκ, hW2, hB, ho⟩ (by show 3601 - (i + 1) < 3601 - i; omega)
        · intro f e κ he hκ hs3
          show wb_X9_pairUp_73 _ _ _ _ _ _
          have ho := bwk_old (to := to) (to' := to') (p := b.2.1 i) (d := b.2.2 i + 1) z e
          have hW2 := wb2_bwk (p := b.2.1 i) (d := b.2.2 i + 1) hWm hT hT' hb.1 hb.2.1 (by omega) e (by omega)
          have hq := hκ.2.2.2.1 i ho.1
          rw [ho.2.1, ho.2.2] at hq
          obtain ⟨r1, r2⟩ := rd κ _ hκ
          have l1 := hT.2 _ hb.1 e he
          have l2 := hT'.2 _ hb.2.1 e he
          have hpq := pq (x := to (b.2.1 i / 60) e) (y := to' (b.2.1 i % 60) e) (by omega)
          unfold wb_X9_pairUp_73
          rw [nI_clamp (by omega), hq.1, hq.2, iDIV60 (by omega), iREM60 (by omega), pk_mul, nI_add, pk_mul, nI_add, nI_clamp (by omega), nI_clamp (by omega), r1 _ hb.1 e he, r2 _ hb.2.1 e he, pk_mul, nI_add, nI_add]
          refine pk_le 4 e (fun z => by omega) (fun _ => ⟨vp_in_nI (by show i < 3600; omega) (by decide), vp_in_nI (by show _ < 240; omega) (by decide), vp_in_nI (by show i < 3600; omega) (by decide), vp_in_nI (by show _ < 240; omega) (by decide), vp_in_nI (by show i < 3600; omega) (by decide), ?_⟩)
          refine sp_meetPair (p := to (b.2.1 i / 60) e * 60 + to' (b.2.1 i % 60) e) (d := b.2.2 i + 1) (m := i + 2) hn (by rw [Nat.mul_comm]) rfl (by rw [hpq.1]; exact l1) (by rw [hpq.2]; exact l2) (by omega) hW2 hκ (fun κ1 h1 => ?_)
          intro x ex
          rw [ex, nI_add]
          exact hs3 κ1 h1
    · intro f e ρ he hρ hs2
      show wb_X9_pairUp_29 _ _ _ _ _
      obtain ⟨r1, r2⟩ := rd ρ _ hρ
      have hW2 := wb2_bwk (n := n) (n' := n') (m := 1) (p := 0) (d := 1) wb_0 hT hT' (by omega) (by omega) (Nat.le_refl 1) e (by omega)
      have l1 := hT.2 0 h0 e he
      have l2 := hT'.2 0 h0' e he
      have hpq := pq (x := to 0 e) (y := to' 0 e) (by omega)
      have q1 := r1 0 h0 e he
      have q2 := r2 0 h0' e he
      rw [Nat.mul_zero, Nat.zero_add] at q1 q2
      unfold wb_X9_pairUp_29
      rw [nI_clamp (by omega), q1, q2, pk_mul, nI_add]
      refine pk_le 4 e (fun z => by omega) (fun _ => ⟨vp_in_nI (by show e < 240; omega) (by decide), vp_in_nI (by show e < 240; omega) (by decide), ?_⟩)
      refine sp_meetPair (p := to 0 e * 60 + to' 0 e) (d := 1) (m := 1) hn (by rw [Nat.mul_comm]) rfl (by rw [hpq.1]; exact l1) (by rw [hpq.2]; exact l2) (Nat.le_refl 1) hW2 hρ (fun κ1 h1 => ?_)
      intro x ex
      rw [ex, nI_add]
      exact hs2 κ1 h1
  · intro f i τ hi ⟨hf, hc⟩ hs2
    show wb_X9_pairUp_7 _ _ _ _ _
    refine pk_le 3600 i (fun z => by omega) (fun _ => ⟨vp_in_nI (by show i < 3600; omega) (by decide), ?_⟩)
    intro ρ e x ex
    rw [nI_clamp (by omega)] at e
    rw [ex, nI_add]
    refine hs2 _ ⟨by rw [e]; exact hf.stA (by simp), fun p hp => ?_⟩
    rw [e, gA_stA, if_pos rfl]
    by_cases q : p = i
    · rw [if_pos q]; rfl
    · rw [if_neg q]; exact hc p (by omega)
