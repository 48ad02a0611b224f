/-! ===== far, toward ===== -/
theorem wk_snoc {to : Nat → Nat → Nat} : ∀ {d s u e : Nat}, wk to d s u → e < 4 → wk to (d + 1) s (to u e)
  | 0, s, u, e, h, he => by
    have h : u = s := h
    subst h
    exact ⟨e, he, rfl⟩
  | d + 1, s, u, e, h, he => by
    obtain ⟨f, hf, h⟩ := h
    exact ⟨f, hf, wk_snoc h he⟩
theorem wk_last {to : Nat → Nat → Nat} : ∀ {d s t : Nat}, wk to (d + 1) s t → ∃ u e, e < 4 ∧ wk to d s u ∧ t = to u e
  | 0, s, t, h => by
    obtain ⟨e, he, h⟩ := h
    exact ⟨s, e, he, rfl, h⟩
  | d + 1, s, t, h => by
    obtain ⟨f, hf, h⟩ := h
    obtain ⟨u, e, he, h1, h2⟩ := wk_last h
    exact ⟨u, e, he, ⟨f, hf, h1⟩, h2⟩
theorem wk_lt {to : Nat → Nat → Nat} {vd : Nat → Nat} {n : Nat} (hM : PMa to vd n) : ∀ {d s t : Nat}, s < n → wk to d s t → t < n
  | 0, s, t, hs, h => by have h : t = s := h; rw [h]; exact hs
  | d + 1, s, t, hs, h => by
    obtain ⟨e, he, h⟩ := h
    exact wk_lt hM ((hM.2.1 s hs).2 e he) h
theorem isDst_uniq {to : Nat → Nat → Nat} {vd : Nat → Nat} {s v : Nat} : ∀ {a b : Option Nat}, isDst to vd s v a → isDst to vd s v b → a = b
  | none, none, _, _ => rfl
  | none, some d, h1, h2 => by
    obtain ⟨⟨t, h3, h4⟩, -⟩ := h2
    exact absurd h4 (h1 d t h3)
  | some d, none, h1, h2 => by
    obtain ⟨⟨t, h3, h4⟩, -⟩ := h1
    exact absurd h4 (h2 d t h3)
  | some d, some d', h1, h2 => by
    obtain ⟨⟨t, h3, h4⟩, h5⟩ := h1
    obtain ⟨⟨t', h6, h7⟩, h8⟩ := h2
    rcases Nat.lt_trichotomy d d' with h | h | h
    · exact absurd h4 (h8 d t h h3)
    · rw [h]
    · exact absurd h7 (h5 d' t' h h6)
/-- how far each state is from s, as the reference lays it -/
def isRe (to : Nat → Nat → Nat) (s t : Nat) : Option Nat → Prop
  | none => ∀ d, ¬ wk to d s t
  | some d => wk to d s t ∧ ∀ d', d' < d → ¬ wk to d' s t
def BQ (to : Nat → Nat → Nat) (n s : Nat) (σ : Sg) (q : Nat) (rw D : Nat → Nat) : Prop :=
  0 < q ∧ q ≤ n ∧ rw 0 = s ∧ D 0 = 0 ∧ (∀ i, i < q → rw i < n ∧ gA σ 77 i = nI (rw i) ∧ gA σ 76 (rw i) = nI (D i) ∧ wk to (D i) s (rw i) ∧ D i ≤ i) ∧ (∀ i j, i < q → j < q → rw i = rw j → i = j) ∧ (∀ t, t < n → (∀ i, i < q → rw i ≠ t) → gA σ 76 t = -9) ∧ ∀ i j, i ≤ j → j < q → D i ≤ D j
theorem BQ.room {to : Nat → Nat → Nat} {n s : Nat} {σ : Sg} {q : Nat} {rw D : Nat → Nat} (h : BQ to n s σ q rw D) {t : Nat} (ht : t < n) (hn : ∀ i, i < q → rw i ≠ t) : q < n := by
  have h1 := fb_holes n (q + 1) (fun i => if i < q then rw i else t) (fun i hi => by
    by_cases hq : i < q
    · simp only [if_pos hq]; exact (h.2.2.2.2.1 i hq).1
    · simp only [if_neg hq]; exact ht) (fun i j hij hj e => by
    by_cases hi : i < q
    · by_cases hj2 : j < q
      · simp only [if_pos hi, if_pos hj2] at e
        have := h.2.2.2.2.2.1 i j hi hj2 e; omega
      · simp only [if_pos hi, if_neg hj2] at e
        exact hn i hi e
    · omega)
  omega
/-- one more state comes into the row -/
theorem BQ.push {to : Nat → Nat → Nat} {n s : Nat} {σ : Sg} {q h e : Nat} {rw D : Nat → Nat} (B : BQ to n s σ q rw D) (hh : h < q) (he : e < 4) (ht : to (rw h) e < n) (hn : ∀ i, i < q → rw i ≠ to (rw h) e) (hD : ∀ j, j < q → D j ≤ D h + 1) :
    BQ to n s (stA (stA σ 76 (to (rw h) e) (nI (D h + 1))) 77 q (nI (to (rw h) e))) (q + 1) (fun i => if i < q then rw i else to (rw h) e) (fun i => if i < q then D i else D h + 1) := by
  have hq := B.room ht hn
  obtain ⟨b1, b2, b3, b4, b5, b6, b7, b8⟩ := B
  refine ⟨by omega, hq, by simp only [if_pos b1]; exact b3, by simp only [if_pos b1]; exact b4, fun i hi => ?_, fun i j hi hj hij => ?_, fun t h1 h2 => ?_, fun i j hij hj => ?_⟩
  · by_cases hiq : i < q
    · simp only [if_pos hiq]
      obtain ⟨c1, c2, c3, c4, c5⟩ := b5 i hiq
      refine ⟨c1, ?_, ?_, c4, c5⟩
      · rw [gA_stA, if_pos rfl, if_neg (by omega), gA_stA, if_neg (by decide)]; exact c2
      · rw [gA_stA, if_neg (by decide), gA_stA, if_pos rfl, if_neg (hn i hiq)]; exact c3
    · simp only [if_neg hiq]
      have : i = q := by omega
      subst this
      refine ⟨ht, ?_, ?_, wk_snoc (b5 h hh).2.2.2.1 he, ?_⟩
      · rw [gA_stA, if_pos rfl, if_pos rfl]
      · rw [gA_stA, if_neg (by decide), gA_stA, if_pos rfl, if_pos rfl]
      · have := (b5 h hh).2.2.2.2; omega
  · by_cases hi2 : i < q <;> by_cases hj2 : j < q
    · simp only [if_pos hi2, if_pos hj2] at hij; exact b6 i j hi2 hj2 hij
    · simp only [if_pos hi2, if_neg hj2] at hij; exact absurd hij (hn i hi2)
    · simp only [if_neg hi2, if_pos hj2] at hij; exact absurd hij.symm (hn j hj2)
    · omega
  · have h3 := h2 q (by omega)
    simp only [Nat.lt_irrefl, if_false] at h3
    rw [gA_stA, if_neg (by decide), gA_stA, if_pos rfl, if_neg (fun z => h3 z.symm)]
    refine b7 t h1 (fun i hi => ?_)
    have h4 := h2 i (by omega)
    simp only [if_pos hi] at h4
    exact h4
  · by_cases hj2 : j < q
    · have hi2 : i < q := by omega
      simp only [if_pos hi2, if_pos hj2]
      exact b8 i j hij hj2
    · simp only [if_neg hj2]
      by_cases hi2 : i < q
      · simp only [if_pos hi2]; exact hD i hi2
      · simp only [if_neg hi2]; omega
theorem sp_spread {σ : Sg} {to : Nat → Nat → Nat} {vd : Nat → Nat} {n s : Nat} {Q : Sg → Prop} (hM : PMa to vd n) (hn : gF σ 10 39 = nI n) (hto : ∀ s, s < n → ∀ e, e < 4 → gA σ 71 (4 * s + e) = nI (to s e) ∧ to s e < n) (hs : s < n)
    (h : ∀ σ1, Fr [] [76, 77] σ σ1 → (∀ t, t < n → ∃ o, gA σ1 76 t = oI o ∧ isRe to s t o ∧ ∀ d, o = some d → d < 60) → Q σ1) : wp_X9_spread (nI s) σ Q := by
  have hn60 := hM.1
  -- the loop over the row
  have main : ∀ t, Fr [] [76, 77] σ t → BQ to n s t 1 (fun _ => s) (fun _ => 0) → ∃ k, wl_X9_spread_42 Q k (nI 1) (nI 0) t := by
    intro t0 f0 B0
    refine lp5 (fun k (q hd : Nat) (rw D : Nat → Nat) (t : Sg) => wl_X9_spread_42 Q k (nI q) (nI hd) t) (fun q hd rw D t => Fr [] [76, 77] σ t ∧ BQ to n s t q rw D ∧ hd ≤ q ∧ (∀ i, i < hd → ∀ e, e < 4 → ∃ j, j < q ∧ rw j = to (rw i) e ∧ D j ≤ D i + 1) ∧ (hd < q → ∀ j, j < q → D j ≤ D hd + 1)) (fun q hd rw D t => n - hd) ?_ 1 0 (fun _ => s) (fun _ => 0) t0 ⟨f0, B0, by omega, fun i hi => by omega, fun _ j _ => by omega⟩
    intro k q hd rw D t I ih
    obtain ⟨f, B, hle, hcl, hsp⟩ := I
    show wb_X9_spread_42 _ _ _ _ _
    have hqn := B.2.1
    refine pk_le q hd (fun z => ?_) (fun hlt => ?_)
    · -- the end
      have hq : hd = q := by omega
      subst hq
      have all : ∀ d u, wk to d s u → ∃ j, j < hd ∧ rw j = u ∧ D j ≤ d := by
        intro d
        induction d with
        | zero =>
          intro u hu
          have hu : u = s := hu
          exact ⟨0, B.1, by rw [hu]; exact B.2.2.1, by rw [B.2.2.2.1]; omega⟩
        | succ d ihd =>
          intro u hu
          obtain ⟨w, e, he, h1, h2⟩ := wk_last hu
          obtain ⟨j, hj, h3, h4⟩ := ihd w h1
          obtain ⟨j2, h5, h6, h7⟩ := hcl j hj e he
          exact ⟨j2, h5, by rw [h6, h3, h2], by omega⟩
      refine h t f (fun u hu => ?_)
      by_cases hin : ∃ j, j < hd ∧ rw j = u
      · obtain ⟨j, hj, rfl⟩ := hin
        obtain ⟨c1, c2, c3, c4, c5⟩ := B.2.2.2.2.1 j hj
        refine ⟨some (D j), c3, ⟨c4, fun d' hd' hw => ?_⟩, fun d hd2 => by cases hd2; omega⟩
        obtain ⟨j', h1, h2, h3⟩ := all d' _ hw
        have := B.2.2.2.2.2.1 j' j h1 hj h2
        subst this
        omega
      · refine ⟨none, B.2.2.2.2.2.2.1 u hu (fun i hi e => hin ⟨i, hi, e⟩), fun d hw => ?_, fun d z => by cases z⟩
        obtain ⟨j, h1, h2, -⟩ := all d u hw
        exact hin ⟨j, h1, h2⟩
    · -- the four events of one state
      refine lq4 (fun k2 e (q : Nat) (rw D : Nat → Nat) (t : Sg) => wl_X9_spread_50 (nI hd) (fun z2 σ9 => wp_X9_spread_123 z2 (nI hd) (wl_X9_spread_42 Q k) Q σ9) Q k2 (nI q) (nI e) t) (fun e q rw D t => Fr [] [76, 77] σ t ∧ BQ to n s t q rw D ∧ hd < q ∧ (∀ i, i < hd → ∀ e, e < 4 → ∃ j, j < q ∧ rw j = to (rw i) e ∧ D j ≤ D i + 1) ∧ (∀ e', e' < e → ∃ j, j < q ∧ rw j = to (rw hd) e' ∧ D j ≤ D hd + 1) ∧ ∀ j, j < q → D j ≤ D hd + 1) 4 ?_ ?_ q rw D t ⟨f, B, hlt, hcl, fun e he => by omega, hsp hlt⟩
      · intro k2 q2 rw2 D2 t2 I2
        obtain ⟨f2, B2, hl2, hc2, he2, hs2⟩ := I2
        show wb_X9_spread_50 _ _ _ _ _ _ _
        refine br_t (by decide) ?_
        intro x ex
        rw [ex, nI_add]
        refine ih q2 (hd + 1) rw2 D2 t2 ⟨f2, B2, by omega, fun i hi e he => ?_, fun hlt3 j hj => ?_⟩ (by have := B2.2.1; omega)
        · rcases Nat.lt_or_ge i hd with z | z
          · exact hc2 i z e he
          · have : i = hd := by omega
            subst this
            exact he2 e he
        · have h1 := hs2 j hj
          have h2 := B2.2.2.2.2.2.2.2 hd (hd + 1) (by omega) hlt3
          omega
      · intro k2 e q2 rw2 D2 t2 he I2 hs3
        obtain ⟨f2, B2, hl2, hc2, he2, hs2⟩ := I2
        show wb_X9_spread_50 _ _ _ _ _ _ _
        obtain ⟨c1, c2, c3, c4, c5⟩ := B2.2.2.2.2.1 hd hl2
        have hq2n := B2.2.1
        have a71 : gA t2 71 = gA σ 71 := f2.A (by decide)
        obtain ⟨g1, g2⟩ := hto _ c1 e he
        refine pk_le 4 e (fun z => by omega) (fun _ => ?_)
        rw [nI_clamp (by omega), c2]
        have e1 : nI 4 * nI (rw2 hd) + nI e = nI (4 * rw2 hd + e) := by rw [pk_mul, nI_add]
        rw [e1, nI_clamp (by omega), a71, g1]
        refine ⟨vp_in_nI (by show _ < 60; omega) (by decide), vp_in_nI (by show _ < 240; omega) (by decide), ?_⟩
        intro x ex
        subst ex
        rw [nI_clamp (by omega), nI_clamp (by omega)]
        refine ⟨vp_in_nI (by show _ < 60; omega) (by decide), fun hne => ?_, fun hnn => ⟨vp_in_nI (by show _ < 60; omega) (by decide), vp_in_nI (by show _ < 60; omega) (by decide), vp_in_nI (by show _ < 60; omega) (by decide), ?_⟩⟩
        · -- met before
          intro x ex
          rw [ex, nI_add]
          have hin : ∃ j, j < q2 ∧ rw2 j = to (rw2 hd) e := by
            refine Classical.byContradiction (fun z => hne (B2.2.2.2.2.2.2.1 _ g2 (fun i hi q => z ⟨i, hi, q⟩)))
          obtain ⟨j, hj, hj2⟩ := hin
          refine hs3 q2 rw2 D2 t2 ⟨f2, B2, hl2, hc2, fun e' he' => ?_, hs2⟩
          rcases Nat.lt_or_ge e' e with z | z
          · exact he2 e' z
          · have : e' = e := by omega
            subst this
            exact ⟨j, hj, hj2, hs2 j hj⟩
        · -- a new one
          have hni : ∀ i, i < q2 → rw2 i ≠ to (rw2 hd) e := by
            intro i hi z
            rw [← z, (B2.2.2.2.2.1 i hi).2.2.1] at hnn
            exact ni9 (by have := (B2.2.2.2.2.1 i hi).2.2.2.2; omega) hnn
          have hroom := B2.room g2 hni
          intro σ1 e1
          rw [c3, nI_add] at e1
          refine ⟨vp_in_nI (by show _ < 60; omega) (by decide), ?_⟩
          intro σ2 e2 y ey z ez
          rw [nI_clamp (by omega)] at e2
          rw [ey, nI_add, ez, nI_add, e2, e1]
          have Bn := B2.push hl2 he g2 hni hs2
          refine hs3 (q2 + 1) _ _ _ ⟨(f2.stA (by decide)).stA (by decide), Bn, by omega, fun i hi e' he' => ?_, fun e' he' => ?_, fun j hj => ?_⟩
          · obtain ⟨j, h1, h2, h3⟩ := hc2 i hi e' he'
            have hi2 : i < q2 := by omega
            refine ⟨j, by omega, ?_, ?_⟩
            · simp only [if_pos h1, if_pos hi2]; exact h2
            · simp only [if_pos h1, if_pos hi2]; exact h3
          · rcases Nat.lt_or_ge e' e with w | w
            · obtain ⟨j, h1, h2, h3⟩ := he2 e' w
              refine ⟨j, by omega, ?_, ?_⟩
              · simp only [if_pos h1, if_pos hl2]; exact h2
              · simp only [if_pos h1, if_pos hl2]; exact h3
            · have : e' = e := by omega
              subst this
              refine ⟨q2, by omega, ?_, ?_⟩
              · simp only [if_pos hl2, Nat.lt_irrefl, if_false]
              · simp only [if_pos hl2, Nat.lt_irrefl, if_false]; omega
          · by_cases hj2 : j < q2
            · simp only [if_pos hj2, if_pos hl2]; exact hs2 j hj2
            · simp only [if_neg hj2, if_pos hl2]; omega
  -- the rows begin
  refine loop_0 (σ := Sg) (fun k i t => wl_X9_spread_2 (nI s) (fun σ9 => wp_X9_spread_24 (nI s) Q σ9) Q k (nI i) t) (fun i t => Fr [] [76, 77] σ t ∧ ∀ j, j < i → gA t 76 j = -9) n σ ⟨Fr.rf, fun j hj => by omega⟩ ?_ ?_
  · intro k t I
    show wb_X9_spread_2 _ _ _ _ _ _
    have e1 : gF t 10 39 = nI n := by rw [I.1.F (by decide)]; exact hn
    unfold wb_X9_spread_2
    rw [e1]
    refine pk_le n n (fun _ => ?_) (fun z => by omega)
    show wp_X9_spread_24 _ _ _
    unfold wp_X9_spread_24
    rw [nI_clamp (by omega)]
    refine ⟨vp_in_nI (by show s < 60; omega) (by decide), ?_⟩
    intro σ1 e2
    refine ⟨vp_in_nI (by decide) (by decide), ?_⟩
    intro σ2 e3
    have e4 : (nI 0).toNatClampNeg = 0 := by decide
    rw [e4] at e3
    refine main σ2 (by rw [e3, e2]; exact (I.1.stA (by decide)).stA (by decide)) ⟨by omega, by omega, rfl, rfl, fun i hi => ?_, fun i j hi hj _ => by omega, fun u hu hne => ?_, fun _ _ _ _ => Nat.le_refl _⟩
    · have : i = 0 := by omega
      subst this
      refine ⟨hs, ?_, ?_, rfl, Nat.le_refl _⟩
      · rw [e3, gA_stA, if_pos rfl, if_pos rfl]
      · rw [e3, gA_stA, if_neg (by decide), e2, gA_stA, if_pos rfl, if_pos rfl]
    · have h1 := hne 0 (by omega)
      rw [e3, gA_stA, if_neg (by decide), e2, gA_stA, if_pos rfl, if_neg (fun z => h1 z.symm)]
      exact I.2 u hu
  · intro k i t hi I hs2
    show wb_X9_spread_2 _ _ _ _ _ _
    have e1 : gF t 10 39 = nI n := by rw [I.1.F (by decide)]; exact hn
    unfold wb_X9_spread_2
    rw [e1]
    refine pk_le n i (fun z => by omega) (fun _ => ?_)
    rw [nI_clamp (by omega)]
    refine ⟨vp_in_nI (by show i < 60; omega) (by decide), ?_⟩
    intro σ1 e2 x ex
    rw [ex, nI_add]
    refine hs2 σ1 ⟨by rw [e2]; exact I.1.stA (by decide), fun j hj => ?_⟩
    rw [e2, gA_stA, if_pos rfl]
    by_cases q : j = i
    · rw [if_pos q]
    · rw [if_neg q]; exact I.2 j (by omega)
