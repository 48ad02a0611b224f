/-! ===== read: the class's distances and ways ===== -/
theorem sp_stepToX {τ : Sg} {to : Nat → Nat → Nat} {vd : Nat → Nat} {n s v k : Nat} {D : Nat → Option Nat} {a b c : Int32} {Q : Int32 → Sg → Prop} (hM : PMa to vd n) (h35 : ∀ s, s < n → ∀ e, e < 4 → gA τ 35 (s * 4 + e) = nI (to s e)) (hcell : ∀ i, i < n → ∃ o, gA τ 37 (i * 4 + v) = oI o ∧ (∀ d, o = some d → d < 61) ∧ (o = some k ↔ D i = some k)) (ha : a = nI s) (hb : b = nI v) (hc : c = nI k) (hs : s < n) (hv : v < 4) (hk : k < 61) (hno : (∀ e, e < 4 → ¬ D (to s e) = some k) → Q (-9) τ) (hyes : ∀ e, e < 4 → D (to s e) = some k → Q (nI e) τ) : wp_X7_stepTo a b c τ Q := by
  subst ha hb hc
  have hn := hM.1
  -- one look
  have look : ∀ e, e < 4 → ∀ P : Int32 → Sg → Prop, (∀ o, (o = some k ↔ D (to s e) = some k) → (∀ d, o = some d → d < 61) → P (oI o) τ) → wp_X7_next (nI s) (nI e) τ (fun r1 σ2 => wp_X7_distance r1 (nI v) σ2 P) := by
    intro e he P hP
    refine sp_next rfl rfl hs hn he ?_
    have ht := (hM.2.1 s hs).2 e he
    rw [h35 s hs e he]
    obtain ⟨o, o1, o2, o3⟩ := hcell _ ht
    refine sp_pick (k := to s e * 4 + v) (by rw [pk_mul, nI_add]) (by show _ < 240; omega) ?_
    rw [o1]
    exact hP o o3 o2
  by_cases h : ∃ e, e < 4 ∧ D (to s e) = some k
  · obtain ⟨e0, e1, e2, e3⟩ := first_ev h
    refine lq1 (fun f e (_ : Unit) => wl_X7_stepTo_3 (nI s) (nI v) (nI k) Q f (nI e) τ) (fun _ _ => True) e0 ?_ ?_ () trivial
    · intro f _ _
      show wb_X7_stepTo_3 _ _ _ _ _ _ _
      refine pk_le 4 e0 (fun z => by omega) (fun _ => look e0 e1 _ (fun o o1 o2 => ?_))
      rw [oI_d (by omega) (fun d hd => by have := o2 d hd; omega)]
      exact ⟨fun z => absurd (o1.mpr e2) z, fun _ => hyes e0 e1 e2⟩
    · intro f e _ he _ hs2
      show wb_X7_stepTo_3 _ _ _ _ _ _ _
      refine pk_le 4 e (fun z => by omega) (fun _ => look e (by omega) _ (fun o o1 o2 => ?_))
      rw [oI_d (by omega) (fun d hd => by have := o2 d hd; omega)]
      refine ⟨fun _ => ?_, fun z => absurd (o1.mp z) (e3 e he)⟩
      intro y ey
      rw [ey, nI_add]
      exact hs2 () trivial
  · refine lq1 (fun f e (_ : Unit) => wl_X7_stepTo_3 (nI s) (nI v) (nI k) Q f (nI e) τ) (fun _ _ => True) 4 ?_ ?_ () trivial
    · intro f _ _
      show wb_X7_stepTo_3 _ _ _ _ _ _ _
      exact pk_le 4 4 (fun _ => hno (fun e he z => h ⟨e, he, z⟩)) (fun z => by omega)
    · intro f e _ he _ hs2
      show wb_X7_stepTo_3 _ _ _ _ _ _ _
      refine pk_le 4 e (fun z => by omega) (fun _ => look e he _ (fun o o1 o2 => ?_))
      rw [oI_d (by omega) (fun d hd => by have := o2 d hd; omega)]
      refine ⟨fun _ => ?_, fun z => absurd (o1.mp z) (fun y => h ⟨e, he, y⟩)⟩
      intro y ey
      rw [ey, nI_add]
      exact hs2 () trivial
theorem sp_measure {σ : Sg} {to : Nat → Nat → Nat} {vd : Nat → Nat} {n v : Nat} {a : Int32} {Q : Sg → Prop} (hM : PMa to vd n) (h4 : gF σ 6 4 = nI n) (h35 : ∀ s, s < n → ∀ e, e < 4 → gA σ 35 (s * 4 + e) = nI (to s e)) (h36 : ∀ s, s < n → gA σ 36 s = nI (vd s)) (ha : a = nI v) (hv : v < 4) (h : ∀ τ, Fr [] [37] σ τ → (∀ s, s < n → gA τ 37 (s * 4 + v) = oI (dso to vd s v)) → (∀ i w, w < 4 → w ≠ v → gA τ 37 (i * 4 + w) = gA σ 37 (i * 4 + w)) → Q τ) : wp_X7_measure a σ Q := by
  subst ha
  have hn := hM.1
  have hD : ∀ s, s < n → ∀ d, dso to vd s v = some d → d < 60 := fun s hs d hd => by
    have := dso_lt hM hs hd
    omega
  have hcut : ∀ s f, s < n → ∀ d, dcut (dso to vd s v) f = some d → d < 60 := fun s f hs d hd => hD s hs d (dcut_d.mp hd).1
  refine lq1 (fun f s (τ : Sg) => wl_X7_measure_2 (nI v) (fun σ9 => wp_X7_measure_43 (nI v) Q σ9) Q f (nI s) τ) (fun s τ => Fr [] [37] σ τ ∧ (∀ i, i < s → gA τ 37 (i * 4 + v) = oI (dcut (dso to vd i v) 1)) ∧ ∀ i w, w < 4 → w ≠ v → gA τ 37 (i * 4 + w) = gA σ 37 (i * 4 + w)) n ?_ ?_ σ ⟨Fr.rf, fun i hi => by omega, fun _ _ _ _ => rfl⟩
  · intro f τ ⟨a1, a2, a3⟩
    show wb_X7_measure_2 _ _ _ _ _ _
    unfold wb_X7_measure_2
    rw [a1.F (by decide), h4]
    refine pk_le n n (fun _ => ?_) (fun z => by omega)
    refine lq2 (fun g k (b : Bool) (ρ : Sg) => wl_X7_measure_47 (nI v) Q g (bI b) (nI (k + 1)) ρ) (fun k b ρ => Fr [] [37] σ ρ ∧ (∀ i, i < n → gA ρ 37 (i * 4 + v) = oI (dcut (dso to vd i v) (k + 1))) ∧ (∀ i w, w < 4 → w ≠ v → gA ρ 37 (i * 4 + w) = gA σ 37 (i * 4 + w)) ∧ (b = false → ∀ i, i < n → ¬ dso to vd i v = some k)) 60 ?_ ?_ true τ ⟨a1, a2, a3, (fun z => by cases z)⟩
    · intro g b ρ ⟨b1, b2, b3, b4⟩
      show wb_X7_measure_47 _ _ _ _ _ _
      refine pk_lt 60 (60 + 1) (fun _ => h ρ b1 (fun s hs => ?_) b3) (fun z => by omega)
      rw [b2 s hs, dcut_all (fun d hd => by have := hD s hs d hd; omega)]
    · intro g k b ρ hk ⟨b1, b2, b3, b4⟩ hs2
      show wb_X7_measure_47 _ _ _ _ _ _
      refine pk_lt 60 (k + 1) (fun z => by omega) (fun _ => bI_br (fun q => h ρ b1 (fun s hs => ?_) b3) (fun q => ?_))
      · rw [b2 s hs, dcut_all (fun d hd => ?_)]
        rcases Nat.lt_or_ge d (k + 1) with r | r
        · exact r
        · exact absurd (by rw [hd]; congr 1; omega) (dso_gap hM (b4 q) (d - k) s hs)
      · refine lq2 (fun g2 s (w : Bool) (κ : Sg) => wl_X7_measure_62 (nI v) (nI (k + 1)) (fun z2 σ9 => wp_X7_measure_120 (nI v) z2 (nI (k + 1)) (wl_X7_measure_47 (nI v) Q g) Q σ9) Q g2 (bI w) (nI s) κ) (fun s w κ => Fr [] [37] σ κ ∧ (∀ i, i < n → gA κ 37 (i * 4 + v) = oI (dcut (dso to vd i v) (if i < s then k + 2 else k + 1))) ∧ (∀ i w, w < 4 → w ≠ v → gA κ 37 (i * 4 + w) = gA σ 37 (i * 4 + w)) ∧ (w = false → ∀ i, i < s → ¬ dso to vd i v = some (k + 1))) n ?_ ?_ false ρ ⟨b1, fun i hi => by rw [if_neg (by omega)]; exact b2 i hi, b3, fun _ i hi => by omega⟩
        · intro g2 w κ ⟨c1, c2, c3, c4⟩
          show wb_X7_measure_62 _ _ _ _ _ _ _ _
          unfold wb_X7_measure_62
          rw [c1.F (by decide), h4]
          refine pk_le n n (fun _ => ?_) (fun z => by omega)
          intro y ey
          rw [ey, nI_add]
          refine hs2 w κ ⟨c1, fun i hi => ?_, c3, c4⟩
          rw [c2 i hi, if_pos hi]
        · intro g2 s w κ hs ⟨c1, c2, c3, c4⟩ hs3
          show wb_X7_measure_62 _ _ _ _ _ _ _ _
          unfold wb_X7_measure_62
          rw [c1.F (by decide), h4]
          refine pk_le n s (fun z => by omega) (fun _ => ?_)
          have keep : ¬ dso to vd s v = some (k + 1) → wp_X7_measure_114 (nI v) (bI w) (nI (k + 1)) (nI s) (wl_X7_measure_62 (nI v) (nI (k + 1)) (fun z2 σ9 => wp_X7_measure_120 (nI v) z2 (nI (k + 1)) (wl_X7_measure_47 (nI v) Q g) Q σ9) Q g2) Q κ := by
            intro hne y ey
            rw [ey, nI_add]
            refine hs3 w κ ⟨c1, fun i hi => ?_, c3, fun q i hi => ?_⟩
            · rw [c2 i hi]
              by_cases t : i = s
              · rw [if_neg (by omega), if_pos (by omega), t, dcut_succ hne]
              · by_cases u : i < s
                · rw [if_pos u, if_pos (by omega)]
                · rw [if_neg u, if_neg (by omega)]
            · by_cases t : i = s
              · rw [t]; exact hne
              · exact c4 q i (by omega)
          refine sp_pick (k := s * 4 + v) (by rw [pk_mul, nI_add]) (by show _ < 240; omega) ?_
          have hcs := c2 s hs
          rw [if_neg (Nat.lt_irrefl s)] at hcs
          rw [hcs]
          have hcb := hcut s (k + 1) hs
          have h9 := oI_9 (o := dcut (dso to vd s v) (k + 1)) (fun d hd => by have := hcb d hd; omega)
          refine ⟨fun z => keep (fun y => z (h9.mpr ?_)), fun z => ?_⟩
          · rw [y]
            unfold dcut
            simp only
            rw [if_neg (Nat.lt_irrefl _)]
          · have z := h9.mp z
            refine sp_stepToX (D := fun i => dso to vd i v) (k := k) hM (fun s hs e he => by rw [c1.A (by decide)]; exact h35 s hs e he) (fun i hi => ⟨_, c2 i hi, fun d hd => by have := hcut i _ hi d hd; omega, ?_⟩) rfl rfl (by rw [pk_sub (by omega)]; rfl) hs hv (by omega) (fun hno => ⟨fun _ => keep (fun y => ?_), fun y => absurd rfl y⟩) (fun e he hye => ⟨fun y => absurd y (ni9 (by omega)), fun _ => ?_⟩)
            · rw [dcut_d]
              refine ⟨fun y => y.1, fun y => ⟨y, ?_⟩⟩
              split <;> omega
            · obtain ⟨e, he, h2⟩ := dso_back y
              exact hno e he h2
            · have hye' : dso to vd (to s e) v = some k := hye
              obtain ⟨d', d1, d2⟩ := dso_fwd he hye'
              have hd' : dso to vd s v = some (k + 1) := by
                rcases Nat.lt_or_ge d' (k + 1) with r | r
                · have : dcut (dso to vd s v) (k + 1) = some d' := dcut_d.mpr ⟨d1, r⟩
                  rw [z] at this; cases this
                · rw [d1]; congr 1; omega
              refine sp_put (k := s * 4 + v) (by rw [pk_mul, nI_add]) (by show _ < 240; omega) ?_
              intro y ey
              rw [ey, nI_add]
              refine hs3 true _ ⟨c1.stA (by simp), fun i hi => ?_, fun i w hw hwv => ?_, (fun z => by cases z)⟩
              · rw [gA_stA, if_pos rfl]
                by_cases t : i = s
                · rw [if_pos (by omega), if_pos (by omega), t, hd']
                  unfold dcut
                  simp only
                  rw [if_pos (Nat.lt_succ_self _)]
                  rfl
                · rw [if_neg (by omega), c2 i hi]
                  by_cases u : i < s
                  · rw [if_pos u, if_pos (by omega)]
                  · rw [if_neg u, if_neg (by omega)]
              · rw [gA_stA, if_pos rfl, if_neg (by omega)]
                exact c3 i w hw hwv
  · intro f s τ hs ⟨a1, a2, a3⟩ hs2
    show wb_X7_measure_2 _ _ _ _ _ _
    unfold wb_X7_measure_2
    rw [a1.F (by decide), h4]
    refine pk_le n s (fun z => by omega) (fun _ => sp_pick rfl (by show s < 60; omega) ?_)
    rw [a1.A (by decide), h36 s hs]
    have hvd := (hM.2.1 s hs).1
    have put : ∀ x : Int32, x = oI (dcut (dso to vd s v) 1) → wp_X7_measure_34 (nI v) (nI s) x (nI s * nI 4 + nI v) (wl_X7_measure_2 (nI v) (fun σ9 => wp_X7_measure_43 (nI v) Q σ9) Q f) Q τ := by
      intro x hx
      refine sp_put (k := s * 4 + v) (by rw [pk_mul, nI_add]) (by show _ < 240; omega) ?_
      intro y ey
      rw [ey, nI_add]
      refine hs2 _ ⟨a1.stA (by simp), fun i hi => ?_, fun i w hw hwv => ?_⟩
      · rw [gA_stA, if_pos rfl]
        by_cases t : i = s
        · rw [if_pos (by omega), t, hx]
        · rw [if_neg (by omega)]; exact a2 i (by omega)
      · rw [gA_stA, if_pos rfl, if_neg (by omega)]
        exact a3 i w hw hwv
    refine (pk_eq (vd s) v (fun z => put _ ?_) (fun z => put _ ?_)).symm
    · rw [dso_0.mpr z]; rfl
    · cases q : dcut (dso to vd s v) 1 with
      | none => rfl
      | some d =>
        obtain ⟨d1, d2⟩ := dcut_d.mp q
        have : d = 0 := by omega
        rw [this] at d1
        exact absurd (dso_0.mp d1) z
