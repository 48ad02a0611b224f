/-! ===== read: the class's ways, finish ===== -/
theorem sp_keepsC {σ : Sg} {s : Nat} {vd : Nat → Nat} {Q : Int32 → Sg → Prop} (hs : s < 60) (h36 : gA σ 36 s = nI (vd s)) (hv : vd s < 4) (h : Q (bI (decide (vd s % 2 = 1))) σ) : wp_X7_keeps (nI s) σ Q := by
  unfold wp_X7_keeps wp_X7_verdictOf
  refine sp_pick rfl (by show s < 60; omega) ?_
  show ((gA σ 36 s &&& nI 1) = nI 0 → _) ∧ (_ → _)
  rw [h36, and1 hv]
  by_cases q : vd s % 2 = 1
  · rw [decide_eq_true q] at h
    rw [q]
    exact br_f (by decide) h
  · have e : vd s % 2 = 0 := by omega
    rw [decide_eq_false q] at h
    rw [e]
    exact br_t rfl h
theorem sp_countWays {σ : Sg} {to : Nat → Nat → Nat} {vd : Nat → Nat} {n : Nat} {Q : Sg → Prop} (hM : PMa to vd n) (h4 : gF σ 6 4 = nI n) (h35 : ∀ s, s < n → ∀ e, e < 4 → gA σ 35 (s * 4 + e) = nI (to s e)) (h36 : ∀ s, s < n → gA σ 36 s = nI (vd s)) (h : ∀ τ, Fr [] [38] σ τ → (∀ m, m ≤ 25 → ∀ s, s < n → gL τ 38 (m * 60 + s) = lN (wy to vd m s)) → Q τ) : wp_X7_countWays σ Q := by
  have hn := hM.1
  refine lq1 (fun f s (τ : Sg) => wl_X7_countWays_2 (fun σ9 => wp_X7_countWays_37 Q σ9) Q f (nI s) τ) (fun s τ => Fr [] [38] σ τ ∧ ∀ i, i < s → gL τ 38 i = lN (wy to vd 0 i)) n ?_ ?_ σ ⟨Fr.rf, fun i hi => by omega⟩
  · intro f τ ⟨a1, a2⟩
    show wb_X7_countWays_2 _ _ _ _ _
    unfold wb_X7_countWays_2
    rw [a1.F (by decide), h4]
    refine pk_le n n (fun _ => ?_) (fun z => by omega)
    refine lq1 (fun g m (ρ : Sg) => wl_X7_countWays_39 Q g (nI (m + 1)) ρ) (fun m ρ => Fr [] [38] σ ρ ∧ ∀ m', m' < m + 1 → ∀ s, s < n → gL ρ 38 (m' * 60 + s) = lN (wy to vd m' s)) 25 ?_ ?_ τ ⟨a1, fun m' hm s hs => by
      have : m' = 0 := by omega
      subst this
      rw [Nat.zero_mul, Nat.zero_add]
      exact a2 s hs⟩
    · intro g ρ ⟨b1, b2⟩
      show wb_X7_countWays_39 _ _ _ _
      exact pk_lt 25 (25 + 1) (fun _ => h ρ b1 (fun m hm s hs => b2 m (by omega) s hs)) (fun z => by omega)
    · intro g m ρ hm ⟨b1, b2⟩ hs2
      show wb_X7_countWays_39 _ _ _ _
      refine pk_lt 25 (m + 1) (fun z => by omega) (fun _ => ?_)
      refine lq1 (fun g2 s (κ : Sg) => wl_X7_countWays_47 (nI (m + 1)) (fun σ9 => wp_X7_countWays_109 (nI (m + 1)) (wl_X7_countWays_39 Q g) Q σ9) Q g2 (nI s) κ) (fun s κ => Fr [] [38] σ κ ∧ (∀ m', m' < m + 1 → ∀ s, s < n → gL κ 38 (m' * 60 + s) = lN (wy to vd m' s)) ∧ ∀ i, i < s → gL κ 38 ((m + 1) * 60 + i) = lN (wy to vd (m + 1) i)) n ?_ ?_ ρ ⟨b1, b2, fun i hi => by omega⟩
      · intro g2 κ ⟨c1, c2, c3⟩
        show wb_X7_countWays_47 _ _ _ _ _ _
        unfold wb_X7_countWays_47
        rw [c1.F (by decide), h4]
        refine pk_le n n (fun _ => ?_) (fun z => by omega)
        intro y ey
        rw [ey, nI_add]
        refine hs2 κ ⟨c1, fun m' hm' s hs => ?_⟩
        by_cases t : m' = m + 1
        · rw [t]; exact c3 s hs
        · exact c2 m' (by omega) s hs
      · intro g2 s κ hs ⟨c1, c2, c3⟩ hs3
        show wb_X7_countWays_47 _ _ _ _ _ _
        unfold wb_X7_countWays_47
        rw [c1.F (by decide), h4]
        refine pk_le n s (fun z => by omega) (fun _ => ?_)
        refine lq1 (fun g3 e (x : Int64) => wl_X7_countWays_60 (nI (m + 1)) (nI s) (fun z3 σ9 => wp_X7_countWays_89 (nI (m + 1)) (nI s) z3 (wl_X7_countWays_47 (nI (m + 1)) (fun σ9 => wp_X7_countWays_109 (nI (m + 1)) (wl_X7_countWays_39 Q g) Q σ9) Q g2) Q σ9) Q g3 x (nI e) κ) (fun e x => x = lN (wyS to vd m s e)) 4 ?_ ?_ (lN 0) rfl
        · intro g3 x hx
          show wb_X7_countWays_60 _ _ _ _ _ _ _ _
          subst hx
          refine pk_le 4 4 (fun _ => ?_) (fun z => by omega)
          refine sp_putLong (k := (m + 1) * 60 + s) (by rw [pk_mul, nI_add]) (by show _ < 1560; omega) ?_
          intro y ey
          rw [ey, nI_add]
          refine hs3 _ ⟨c1.stL (by simp), fun m' hm' s' hs' => ?_, fun i hi => ?_⟩
          · rw [gL_stL, if_pos rfl, if_neg (by omega)]
            exact c2 m' hm' s' hs'
          · rw [gL_stL, if_pos rfl]
            by_cases t : i = s
            · rw [if_pos (by omega), t, wy_S]
            · rw [if_neg (by omega)]; exact c3 i (by omega)
        · intro g3 e x he hx hs4
          show wb_X7_countWays_60 _ _ _ _ _ _ _ _
          subst hx
          refine pk_le 4 e (fun z => by omega) (fun _ => sp_next rfl rfl hs hn he ?_)
          have ht := (hM.2.1 s hs).2 e he
          refine sp_waysOf (m := m) (s := to s e) (by rw [c1.A (by decide)]; exact h35 s hs e he) (by rw [pk_sub (by omega)]; rfl) (by omega) (by omega) ?_
          rw [c2 m (by omega) _ ht]
          intro y ey z ez
          rw [ey, ez, nI_add, lN_add]
          exact hs4 _ rfl
  · intro f s τ hs ⟨a1, a2⟩ hs2
    show wb_X7_countWays_2 _ _ _ _ _
    unfold wb_X7_countWays_2
    rw [a1.F (by decide), h4]
    refine pk_le n s (fun z => by omega) (fun _ => ?_)
    have hvd := (hM.2.1 s hs).1
    have put : ∀ x : Int64, x = lN (wy to vd 0 s) → wp_X7_countWays_28 (nI s) x (nI s) (wl_X7_countWays_2 (fun σ9 => wp_X7_countWays_37 Q σ9) Q f) Q τ := by
      intro x hx
      refine sp_putLong rfl (by show s < 1560; omega) ?_
      intro y ey
      rw [ey, nI_add]
      refine hs2 _ ⟨a1.stL (by simp), fun i hi => ?_⟩
      rw [gL_stL, if_pos rfl]
      by_cases t : i = s
      · rw [if_pos t, t, hx]
      · rw [if_neg t]; exact a2 i (by omega)
    refine sp_keepsC (vd := vd) (by omega) (by rw [a1.A (by decide)]; exact h36 s hs) hvd ?_
    refine bI_br (fun q => put _ ?_) (fun q => put _ ?_)
    · have := of_decide_eq_false q
      have e : wy to vd 0 s = 0 := by show vd s % 2 = 0; omega
      rw [e]
    · have := of_decide_eq_true q
      have e : wy to vd 0 s = 1 := this
      rw [e]
theorem sp_finish {σ : Sg} {to : Nat → Nat → Nat} {kv : Nat → Bool} {n : Nat} {Q : Sg → Prop} (hM : PMa to (fvd to kv) n) (h4 : gF σ 6 4 = nI n) (h35 : ∀ s, s < n → ∀ e, e < 4 → gA σ 35 (s * 4 + e) = nI (to s e)) (h36 : ∀ s, s < n → gA σ 36 s = bI (kv s)) (h : ∀ τ, Fr [] [36, 37, 38] σ τ → PXa τ n to (fvd to kv) (dso to (fvd to kv)) → Q τ) : wp_X7_finish σ Q := by
  have hn := hM.1
  refine sp_markSure hM h4 h35 h36 (fun τ f1 h1 => ?_)
  have q4 : gF τ 6 4 = nI n := by rw [f1.F (by decide)]; exact h4
  have q35 : ∀ s, s < n → ∀ e, e < 4 → gA τ 35 (s * 4 + e) = nI (to s e) := by rw [f1.A (by decide)]; exact h35
  refine lq1 (fun g v (ρ : Sg) => wl_X7_finish_6 (fun σ9 => wp_X7_finish_22 Q σ9) Q g (nI v) ρ) (fun v ρ => Fr [] [37] τ ρ ∧ ∀ s, s < n → ∀ w, w < v → gA ρ 37 (s * 4 + w) = oI (dso to (fvd to kv) s w)) 4 ?_ ?_ τ ⟨Fr.rf, fun s hs w hw => by omega⟩
  · intro g ρ ⟨b1, b2⟩
    show wb_X7_finish_6 _ _ _ _ _
    refine pk_le 4 4 (fun _ => ?_) (fun z => by omega)
    have r4 : gF ρ 6 4 = nI n := by rw [b1.F (by decide)]; exact q4
    have r35 : ∀ s, s < n → ∀ e, e < 4 → gA ρ 35 (s * 4 + e) = nI (to s e) := by rw [b1.A (by decide)]; exact q35
    have r36 : ∀ s, s < n → gA ρ 36 s = nI (fvd to kv s) := by rw [b1.A (by decide)]; exact h1
    refine sp_countWays hM r4 r35 r36 (fun κ f2 h2 => h κ ((f1.mono (by simp) (by simp)).tr ((b1.mono (by simp) (by simp)).tr (f2.mono (by simp) (by simp)))) ⟨?_, fun s hs => ⟨?_, fun e he => ?_, fun v hv => ⟨?_, dso_is _ _ _ _, fun d hd => ?_⟩, fun m hm => h2 m hm s hs⟩⟩)
    · rw [f2.F (by decide)]; exact r4
    · rw [f2.A (by decide)]; exact r36 s hs
    · rw [f2.A (by decide)]; exact r35 s hs e he
    · rw [f2.A (by decide)]; exact b2 s hs v hv
    · have := dso_lt hM hs hd
      omega
  · intro g v ρ hv ⟨b1, b2⟩ hs2
    show wb_X7_finish_6 _ _ _ _ _
    refine pk_le 4 v (fun z => by omega) (fun _ => ?_)
    have r4 : gF ρ 6 4 = nI n := by rw [b1.F (by decide)]; exact q4
    have r35 : ∀ s, s < n → ∀ e, e < 4 → gA ρ 35 (s * 4 + e) = nI (to s e) := by rw [b1.A (by decide)]; exact q35
    have r36 : ∀ s, s < n → gA ρ 36 s = nI (fvd to kv s) := by rw [b1.A (by decide)]; exact h1
    refine sp_measure hM r4 r35 r36 rfl hv (fun κ f2 h2 h3 => ?_)
    intro y ey
    rw [ey, nI_add]
    refine hs2 κ ⟨b1.tr f2, fun s hs w hw => ?_⟩
    by_cases t : w = v
    · rw [t]; exact h2 s hs
    · rw [h3 s w (by omega) t]; exact b2 s hs w (by omega)
