theorem oI_9 {o : Option Nat} (h : ∀ d, o = some d → d < 2 ^ 31) : oI o = -9 ↔ o = none := by
  cases o with
  | none => exact ⟨fun _ => rfl, fun _ => rfl⟩
  | some d => exact ⟨fun z => absurd z (ni9 (h d rfl)), fun z => by cases z⟩
theorem oI_d {o : Option Nat} {k : Nat} (hk : k < 2 ^ 31) (h : ∀ d, o = some d → d < 2 ^ 31) : oI o = nI k ↔ o = some k := by
  cases o with
  | none => exact ⟨fun z => absurd z.symm (ni9 hk), fun z => by cases z⟩
  | some d => exact ⟨fun z => by rw [ninj z (h d rfl) hk], fun z => by cases z; rfl⟩
theorem sp_farTo {σ : Sg} {to : Nat → Nat → Nat} {vd : Nat → Nat} {n s v : Nat} {Q : Int32 → Sg → Prop} (hM : PMa to vd n) (hn : gF σ 10 39 = nI n) (hto : ∀ s, s < n → ∀ e, e < 4 → gA σ 71 (4 * s + e) = nI (to s e) ∧ to s e < n) (hvd : ∀ s, s < n → gA σ 73 s = nI (vd s)) (hs : s < n) (hv : v < 4)
    (h : ∀ σ1 o, Fr [] [76, 77] σ σ1 → isDst to vd s v o → (∀ d, o = some d → d < 60) → Q (oI o) σ1) : wp_X9_farTo (nI s) (nI v) σ Q := by
  have hn60 := hM.1
  refine sp_spread hM hn hto hs (fun σ1 f1 g1 => ?_)
  obtain ⟨re, hre⟩ : ∃ re : Nat → Option Nat, ∀ t, t < n → gA σ1 76 t = oI (re t) ∧ isRe to s t (re t) ∧ ∀ d, re t = some d → d < 60 := by
    refine Classical.axiomOfChoice (r := fun t o => t < n → gA σ1 76 t = oI o ∧ isRe to s t o ∧ ∀ d, o = some d → d < 60) (fun t => ?_)
    by_cases ht : t < n
    · obtain ⟨o, ho⟩ := g1 t ht
      exact ⟨o, fun _ => ho⟩
    · exact ⟨none, fun z => absurd z ht⟩
  have e1 : gF σ1 10 39 = nI n := by rw [f1.F (by decide)]; exact hn
  have a73 : gA σ1 73 = gA σ 73 := f1.A (by decide)
  refine lq1 (fun k t (b : Option Nat) => wl_X9_farTo_11 (nI v) Q k (oI b) (nI t) σ1) (fun k b => (∀ d, b = some d → d < 60) ∧ (b = none → ∀ t, t < k → vd t = v → re t = none) ∧ (∀ d, b = some d → (∃ t, t < k ∧ vd t = v ∧ re t = some d) ∧ ∀ t, t < k → vd t = v → ∀ d', re t = some d' → d ≤ d')) n ?_ ?_ none ⟨fun d z => (by cases z), fun _ t ht => by omega, fun d z => by cases z⟩
  · intro k b hb
    show wb_X9_farTo_11 _ _ _ _ _ _
    unfold wb_X9_farTo_11
    rw [e1]
    refine pk_le n n (fun _ => h σ1 b f1 ?_ hb.1) (fun z => by omega)
    cases b with
    | none =>
      intro d t hw hvt
      have ht := wk_lt hM hs hw
      have h2 := (hre t ht).2.1
      rw [hb.2.1 rfl t ht hvt] at h2
      exact h2 d hw
    | some d =>
      obtain ⟨⟨t, ht, hvt, hrt⟩, hmin⟩ := hb.2.2 d rfl
      have h2 := (hre t ht).2.1
      rw [hrt] at h2
      refine ⟨⟨t, h2.1, hvt⟩, fun d' t' hd' hw hvt' => ?_⟩
      have ht' := wk_lt hM hs hw
      have h3 := (hre t' ht').2.1
      cases hr : re t' with
      | none => rw [hr] at h3; exact h3 d' hw
      | some d2 =>
        rw [hr] at h3
        have h4 := hmin t' ht' hvt' d2 hr
        exact h3.2 d' (by omega) hw
  · intro k t b ht hb hs2
    show wb_X9_farTo_11 _ _ _ _ _ _
    unfold wb_X9_farTo_11
    rw [e1]
    refine pk_le n t (fun z => by omega) (fun _ => ?_)
    rw [nI_clamp (by omega), a73, hvd t ht]
    have hvt4 := (hM.2.1 t ht).1
    obtain ⟨r1, r2, r3⟩ := hre t ht
    have keep : (vd t = v → re t = none ∨ ∃ d d', b = some d ∧ re t = some d' ∧ d ≤ d') → wl_X9_farTo_11 (nI v) Q k (oI b) (nI t + nI 1) σ1 := by
      intro hk
      rw [nI_add]
      refine hs2 b ⟨hb.1, fun hbn t' ht' hv' => ?_, fun d hd => ⟨?_, fun t' ht' hv' d' hr => ?_⟩⟩
      · rcases Nat.lt_or_ge t' t with z | z
        · exact hb.2.1 hbn t' z hv'
        · have : t' = t := by omega
          subst this
          rcases hk hv' with q | ⟨d, d', q, -, -⟩
          · exact q
          · rw [hbn] at q; cases q
      · obtain ⟨⟨t', h1, h2, h3⟩, -⟩ := hb.2.2 d hd
        exact ⟨t', by omega, h2, h3⟩
      · rcases Nat.lt_or_ge t' t with z | z
        · exact (hb.2.2 d hd).2 t' z hv' d' hr
        · have : t' = t := by omega
          subst this
          rcases hk hv' with q | ⟨d2, d3, q, q2, q3⟩
          · rw [q] at hr; cases hr
          · rw [hd] at q; cases q
            rw [hr] at q2; cases q2
            exact q3
    have take : ∀ d, vd t = v → re t = some d → (∀ d0, b = some d0 → d ≤ d0) → wl_X9_farTo_11 (nI v) Q k (gA σ1 76 t) (nI t + nI 1) σ1 := by
      intro d hvt hr hmin
      rw [nI_add, r1, hr]
      refine hs2 (some d) ⟨fun d0 z => by cases z; exact r3 d hr, fun z => (by cases z), fun d0 z => ?_⟩
      cases z
      refine ⟨⟨t, by omega, hvt, hr⟩, fun t' ht' hv' d' hr' => ?_⟩
      rcases Nat.lt_or_ge t' t with z | z
      · cases hbb : b with
        | none => rw [hb.2.1 hbb t' z hv'] at hr'; cases hr'
        | some d0 => exact Nat.le_trans (hmin d0 hbb) ((hb.2.2 d0 hbb).2 t' z hv' d' hr')
      · have : t' = t := by omega
        subst this
        rw [hr] at hr'; cases hr'
        exact Nat.le_refl _
    refine ⟨vp_in_nI (by show t < 60; omega) (by decide), fun hne => ?_, fun heq => ?_⟩
    · intro x ex
      rw [ex]
      exact keep (fun z => absurd (by rw [z]) hne)
    · have hvt : vd t = v := ninj heq (by omega) (by omega)
      rw [r1]
      refine ⟨vp_in_nI (by show t < 60; omega) (by decide), fun h9 => ?_, fun h9 => ?_⟩
      · intro x ex
        rw [ex]
        exact keep (fun _ => Or.inl ((oI_9 (fun d z => by have := r3 d z; omega)).mp h9))
      · cases hr : re t with
        | none => rw [hr] at h9; exact absurd rfl h9
        | some d =>
          have hd60 := r3 d hr
          have tk : (∀ d0, b = some d0 → d ≤ d0) → wp_X9_farTo_60 (nI v) (nI t) (wl_X9_farTo_11 (nI v) Q k) Q σ1 := by
            intro hmin
            unfold wp_X9_farTo_60
            rw [nI_clamp (by omega)]
            refine ⟨vp_in_nI (by show t < 60; omega) (by decide), ?_⟩
            intro x ex
            rw [ex]
            exact take d hvt hr hmin
          cases b with
          | none => exact br_t rfl (tk (fun d0 z => by cases z))
          | some d0 =>
            have hd0 := hb.1 d0 rfl
            refine br_f (ni9 (by omega)) ⟨vp_in_nI (by show t < 60; omega) (by decide), ?_⟩
            refine pk_le d0 d (fun hle => ?_) (fun hlt => tk (fun d1 z => by cases z; omega)) rfl rfl
            intro x ex
            rw [ex]
            exact keep (fun _ => Or.inr ⟨d0, d, rfl, hr, hle⟩)
theorem PMo_vd {σ : Sg} {n : Nat} {to : Nat → Nat → Nat} {vd : Nat → Nat} (hO : PMo σ n to vd) : ∀ s, s < n → gA σ 73 s = nI (vd s) := fun s hs => (hO.2.2 s hs).1
theorem sp_distance {σ : Sg} {n s v : Nat} {to : Nat → Nat → Nat} {vd : Nat → Nat} {ds : Nat → Nat → Option Nat} {a b : Int32} {Q : Int32 → Sg → Prop} (hM : PMa to vd n) (hX : PXa σ n to vd ds) (ha : a = nI s) (hb : b = nI v) (hs : s < n) (hv : v < 4) (h : Q (oI (ds s v)) σ) : wp_X7_distance a b σ Q := by
  subst ha hb
  have := hM.1
  refine sp_pick (k := s * 4 + v) (by rw [pk_mul, nI_add]) (by show _ < 240; omega) ?_
  rw [((hX.2 s hs).2.2.1 v hv).1]
  exact h
/-- the reference's far at what is told -/
theorem sp_Mfar {σ : Sg} {n s v : Nat} {to : Nat → Nat → Nat} {vd : Nat → Nat} {ds : Nat → Nat → Option Nat} {Q : Int32 → Sg → Prop} (hM : PMa to vd n) (hX : PXa σ n to vd ds) (hO : PMo σ n to vd) (hs : s < n) (hv : v < 4) (h : ∀ σ1, Fr [] [76, 77] σ σ1 → Q (oI (ds s v)) σ1) : wp_X9_far (nI s) (nI v) σ Q := by
  have hn := hM.1
  refine sp_MrefS hO.2.1 (fun h0 => sp_MisState hO.1 h0 hn ?_) (fun z => by omega)
  rw [inN_nI (by omega), decide_eq_true hs]
  refine ⟨fun _ => sp_in rfl rfl (by decide) ?_, fun z => absurd z (by decide)⟩
  rw [inN_nI (by omega), decide_eq_true (by omega : v < 3 + 1)]
  refine br_f (by decide) (sp_farTo hM hO.1 (PMo_to hM hO) (PMo_vd hO) hs hv (fun σ1 o f1 h1 _ => ?_))
  rw [isDst_uniq h1 ((hX.2 s hs).2.2.1 v hv).2.1]
  exact h σ1 f1
theorem op_far (a0 a1 : Int32) : Both (wp_X8_far a0 a1) (wp_X9_far a0 a1) := by
  intro σ I
  obtain ⟨nb, tp, n, to, vd, ds, mk, n', to', vd', hT, hF, hM, hX, hO, hK, hXk, hMk, hL⟩ := id I
  have hn60 := hM.1
  refine sp_refS hX.1 hM.1 (fun h0 => br_f (by decide) ?_) (fun hn hi => br_f (by decide) ?_) (fun s hn hs e => br_t rfl ?_)
  · exact sp_MrefS hO.2.1 (fun z => by omega) (fun _ => ⟨rfl, I⟩)
  · exact sp_MrefS hO.2.1 (fun _ => sp_MisState hO.1 hn hM.1 (by rw [hi]; exact ⟨fun z => absurd rfl z, fun _ => ⟨rfl, I⟩⟩)) (fun z => by omega)
  · subst e
    refine sp_isVerdict (bI_br (fun hi => ?_) (fun hi => ?_))
    · refine sp_MrefS hO.2.1 (fun _ => sp_MisState hO.1 hn hM.1 ?_) (fun z => by omega)
      rw [inN_nI (by omega), decide_eq_true hs]
      refine ⟨fun _ => sp_in rfl rfl (by decide) ?_, fun z => absurd z (by decide)⟩
      rw [hi]
      exact br_t rfl ⟨rfl, I⟩
    · obtain ⟨v, hv, rfl⟩ := inN_of hi
      refine sp_distance hM hX rfl rfl hs hv (sp_Mfar hM hX hO hs hv (fun σ1 f1 => ⟨rfl, I.fr f1 (by decide) (by decide)⟩))
theorem dst_step {to : Nat → Nat → Nat} {vd : Nat → Nat} {s v d : Nat} {ds : Nat → Nat → Option Nat} (h : isDst to vd s v (some (d + 1))) (hs : ∀ e, e < 4 → isDst to vd (to s e) v (ds (to s e) v)) : ∃ e, e < 4 ∧ ds (to s e) v = some d := by
  obtain ⟨⟨t, ⟨e, he, hw⟩, hv⟩, hmin⟩ := h
  refine ⟨e, he, ?_⟩
  have h1 := hs e he
  cases hd : ds (to s e) v with
  | none => rw [hd] at h1; exact absurd hv (h1 d t hw)
  | some d2 =>
    rw [hd] at h1
    obtain ⟨⟨t2, hw2, hv2⟩, hmin2⟩ := h1
    rcases Nat.lt_trichotomy d2 d with q | q | q
    · exact absurd hv2 (hmin (d2 + 1) t2 (by omega) ⟨e, he, hw2⟩)
    · rw [q]
    · exact absurd hv (hmin2 d t q hw)
theorem first_ev {P : Nat → Prop} (h : ∃ e, e < 4 ∧ P e) : ∃ e, e < 4 ∧ P e ∧ ∀ f, f < e → ¬ P f := by
  obtain ⟨e, ⟨h1, h2⟩, h3⟩ := pk_least (fun e => e < 4 ∧ P e) h
  exact ⟨e, h1, h2, fun f hf hp => h3 f hf ⟨by omega, hp⟩⟩
theorem op_toward (a0 a1 : Int32) : Both (wp_X8_toward a0 a1) (wp_X9_toward a0 a1) := by
  intro σ I
  obtain ⟨nb, tp, n, to, vd, ds, mk, n', to', vd', hT, hF, hM, hX, hO, hK, hXk, hMk, hL⟩ := id I
  have hn60 := hM.1
  refine sp_refS hX.1 hM.1 (fun h0 => br_f (by decide) ?_) (fun hn hi => br_f (by decide) ?_) (fun s hn hs e => br_t rfl ?_)
  · exact sp_MrefS hO.2.1 (fun z => by omega) (fun _ => br_f (by decide) ⟨fun _ => ⟨rfl, I⟩, fun z => absurd z (by decide)⟩)
  · exact sp_MrefS hO.2.1 (fun _ => sp_MisState hO.1 hn hM.1 (by rw [hi]; exact ⟨fun z => absurd rfl z, fun _ => br_f (by decide) ⟨fun _ => ⟨rfl, I⟩, fun z => absurd z (by decide)⟩⟩)) (fun z => by omega)
  · subst e
    refine sp_isVerdict (bI_br (fun hi => ?_) (fun hi => ?_))
    · refine sp_MrefS hO.2.1 (fun _ => sp_MisState hO.1 hn hM.1 ?_) (fun z => by omega)
      rw [inN_nI (by omega), decide_eq_true hs]
      refine ⟨fun _ => sp_in rfl rfl (by decide) ?_, fun z => absurd z (by decide)⟩
      rw [hi]
      exact br_t rfl (br_f (by decide) ⟨fun _ => ⟨rfl, I⟩, fun z => absurd z (by decide)⟩)
    · obtain ⟨v, hv, rfl⟩ := inN_of hi
      have hds := (hX.2 s hs).2.2.1 v hv
      unfold wp_X7_firstStep
      refine sp_distance hM hX rfl rfl hs hv ?_
      have ref : ∀ P : Int32 → Sg → Prop, (∀ σ1, Fr [] [76, 77] σ σ1 → ((nI 0 < oI (ds s v) → ∃ k, wl_X9_toward_25 (nI s) (nI v) (oI (ds s v)) P k (nI 0) σ1) ∧ (¬ nI 0 < oI (ds s v) → ((¬ oI (ds s v) = nI 0 → P (oI (ds s v)) σ1) ∧ (oI (ds s v) = nI 0 → P (-9) σ1))))) → wp_X9_toward (nI s) (nI v) σ P := fun P hP => sp_Mfar hM hX hO hs hv hP
      cases hd : ds s v with
      | none =>
        refine br_t (by decide) (ref _ (fun σ1 f1 => ?_))
        rw [hd]
        exact br_f (by decide) ⟨fun _ => ⟨rfl, I.fr f1 (by decide) (by decide)⟩, fun z => absurd z (by decide)⟩
      | some d =>
        have hd60 := hds.2.2 d hd
        show (nI d ≤ nI 0 → _) ∧ (_ → _)
        refine pk_le d 0 (fun h0 => ref _ (fun σ1 f1 => ?_)) (fun h0 => ?_)
        · have : d = 0 := by omega
          subst this
          rw [hd]
          exact br_f (by decide) ⟨fun z => absurd rfl z, fun _ => ⟨rfl, I.fr f1 (by decide) (by decide)⟩⟩
        · obtain ⟨d', rfl⟩ : ∃ d', d = d' + 1 := ⟨d - 1, by omega⟩
          have h1 := hds.2.1
          rw [hd] at h1
          obtain ⟨e, he, hp, hfirst⟩ := first_ev (dst_step (ds := ds) h1 (fun e he => ((hX.2 _ ((hM.2.1 s hs).2 e he)).2.2.1 v hv).2.1))
          have hsm : ∀ f, f < 4 → ∀ q, ds (to s f) v = some q → q < 2 ^ 31 := fun f hf q hq => by
            have := ((hX.2 _ ((hM.2.1 s hs).2 f hf)).2.2.1 v hv).2.2 q hq; omega
          have e1 : nI (d' + 1) - nI 1 = nI d' := pk_sub (by omega)
          -- the class's step
          have step : ∀ P : Int32 → Sg → Prop, P (nI e) σ → wp_X7_stepTo (nI s) (nI v) (nI (d' + 1) - nI 1) σ P := by
            intro P hP
            rw [e1]
            refine loop_0 (σ := Unit) (fun k f _ => wl_X7_stepTo_3 (nI s) (nI v) (nI d') P k (nI f) σ) (fun _ _ => True) e () trivial ?_ ?_
            · intro k _ _
              show wb_X7_stepTo_3 _ _ _ _ _ _ _
              refine pk_le 4 e (fun z => by omega) (fun _ => sp_next rfl rfl hs hn60 he (sp_distance hM hX ((hX.2 s hs).2.1 e he) rfl ((hM.2.1 s hs).2 e he) hv ?_))
              rw [hp]
              exact ⟨fun z => absurd rfl z, fun _ => hP⟩
            · intro k f _ hf _ hs2
              show wb_X7_stepTo_3 _ _ _ _ _ _ _
              refine pk_le 4 f (fun z => by omega) (fun _ => sp_next rfl rfl hs hn60 (by omega) (sp_distance hM hX ((hX.2 s hs).2.1 f (by omega)) rfl ((hM.2.1 s hs).2 f (by omega)) hv ⟨fun _ => ?_, fun z => ?_⟩))
              · intro x ex
                rw [ex, nI_add]
                exact hs2 () trivial
              · exact absurd ((oI_d (by omega) (hsm f (by omega))).mp z) (hfirst f hf)
          refine step _ (ref _ (fun σ1 f1 => ?_))
          rw [hd]
          show (nI 0 < nI (d' + 1) → _) ∧ (_ → _)
          refine br_t (nI_lt (by omega) (by omega)) ?_
          refine lq1 (fun k f (t : Sg) => wl_X9_toward_25 (nI s) (nI v) (nI (d' + 1)) (fun r' σ2 => nI e = r' ∧ Inv σ2) k (nI f) t) (fun _ t => Fr [] [76, 77] σ t) e ?_ ?_ σ1 f1
          · intro k t ft
            show wb_X9_toward_25 _ _ _ _ _ _ _
            have a71 : gA t 71 = gA σ 71 := ft.A (by decide)
            have a73 : gA t 73 = gA σ 73 := ft.A (by decide)
            have i1 : nI 4 * nI s + nI e = nI (4 * s + e) := by rw [pk_mul, nI_add]
            unfold wb_X9_toward_25
            rw [i1, nI_clamp (by omega), a71, ((hO.2.2 s hs).2.2 e he), e1]
            refine ⟨vp_in_nI (by show _ < 240; omega) (by decide), ?_⟩
            refine sp_farTo hM (by rw [ft.F (by decide)]; exact hO.1) (fun s hs e he => by rw [a71]; exact PMo_to hM hO s hs e he) (fun s hs => by rw [a73]; exact PMo_vd hO s hs) ((hM.2.1 s hs).2 e he) hv (fun σ2 o f2 h2 h3 => ?_)
            rw [isDst_uniq h2 ((hX.2 _ ((hM.2.1 s hs).2 e he)).2.2.1 v hv).2.1, hp]
            exact br_t rfl ⟨rfl, I.fr (ft.tr f2) (by decide) (by decide)⟩
          · intro k f t hf ft hs2
            show wb_X9_toward_25 _ _ _ _ _ _ _
            have a71 : gA t 71 = gA σ 71 := ft.A (by decide)
            have a73 : gA t 73 = gA σ 73 := ft.A (by decide)
            have i1 : nI 4 * nI s + nI f = nI (4 * s + f) := by rw [pk_mul, nI_add]
            unfold wb_X9_toward_25
            rw [i1, nI_clamp (by omega), a71, ((hO.2.2 s hs).2.2 f (by omega)), e1]
            refine ⟨vp_in_nI (by show _ < 240; omega) (by decide), ?_⟩
            refine sp_farTo hM (by rw [ft.F (by decide)]; exact hO.1) (fun s hs e he => by rw [a71]; exact PMo_to hM hO s hs e he) (fun s hs => by rw [a73]; exact PMo_vd hO s hs) ((hM.2.1 s hs).2 f (by omega)) hv (fun σ2 o f2 h2 h3 => ?_)
            rw [isDst_uniq h2 ((hX.2 _ ((hM.2.1 s hs).2 f (by omega))).2.2.1 v hv).2.1]
            refine ⟨fun z => absurd ((oI_d (by omega) (hsm f (by omega))).mp z) (hfirst f hf), fun _ => ?_⟩
            intro x ex
            rw [ex, nI_add]
            exact hs2 σ2 (ft.tr f2)
