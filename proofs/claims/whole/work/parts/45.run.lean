/-! ===== run ===== -/
def fe (to : Nat → Nat → Nat) (vd : Nat → Nat) (m s : Nat) : Nat := if wy to vd m (to s 0) ≠ 0 then 0 else if wy to vd m (to s 1) ≠ 0 then 1 else if wy to vd m (to s 2) ≠ 0 then 2 else 3
theorem fe_spec {to : Nat → Nat → Nat} {vd : Nat → Nat} {m s : Nat} (h : wy to vd (m + 1) s ≠ 0) : fe to vd m s < 4 ∧ wy to vd m (to s (fe to vd m s)) ≠ 0 ∧ ∀ e, e < fe to vd m s → wy to vd m (to s e) = 0 := by
  unfold fe
  simp only [wy] at h
  by_cases h0 : wy to vd m (to s 0) ≠ 0
  · rw [if_pos h0]; exact ⟨by omega, h0, fun e he => by omega⟩
  · rw [if_neg h0]
    by_cases h1 : wy to vd m (to s 1) ≠ 0
    · rw [if_pos h1]
      refine ⟨by omega, h1, fun e he => ?_⟩
      have : e = 0 := by omega
      subst this; omega
    · rw [if_neg h1]
      by_cases h2 : wy to vd m (to s 2) ≠ 0
      · rw [if_pos h2]
        refine ⟨by omega, h2, fun e he => ?_⟩
        rcases (by omega : e = 0 ∨ e = 1) with rfl | rfl <;> omega
      · rw [if_neg h2]
        refine ⟨by omega, by omega, fun e he => ?_⟩
        rcases (by omega : e = 0 ∨ e = 1 ∨ e = 2) with rfl | rfl | rfl <;> omega
/-- the state behind k events of the first row -/
def hr (to : Nat → Nat → Nat) (vd : Nat → Nat) (s n : Nat) : Nat → Nat
  | 0 => s
  | k + 1 => to (hr to vd s n k) (fe to vd (n - k - 1) (hr to vd s n k))
theorem hr_spec {to : Nat → Nat → Nat} {vd : Nat → Nat} {N s n : Nat} (hM : PMa to vd N) (hs : s < N) (h : wy to vd n s ≠ 0) : ∀ k, k ≤ n → hr to vd s n k < N ∧ wy to vd (n - k) (hr to vd s n k) ≠ 0
  | 0, _ => ⟨hs, h⟩
  | k + 1, hk => by
    obtain ⟨h1, h2⟩ := hr_spec hM hs h k (by omega)
    have e : n - k = (n - k - 1) + 1 := by omega
    rw [e] at h2
    obtain ⟨h3, h4, -⟩ := fe_spec h2
    exact ⟨(hM.2.1 _ h1).2 _ h3, by have e2 : n - (k + 1) = n - k - 1 := by omega
                                    rw [e2]; exact h4⟩
theorem sp_firstKept {σ : Sg} {to : Nat → Nat → Nat} {vd : Nat → Nat} {ds : Nat → Nat → Option Nat} {n m s : Nat} {a b : Int32} {Q : Int32 → Sg → Prop} (hM : PMa to vd n) (hX : PXa σ n to vd ds) (ha : a = nI s) (hb : b = nI m) (hs : s < n) (hm : m ≤ 25) (hw : wy to vd (m + 1) s ≠ 0) (h : Q (nI (fe to vd m s)) σ) : wp_X7_firstKeptEvent a b σ Q := by
  subst ha hb
  obtain ⟨h1, h2, h3⟩ := fe_spec hw
  have hn := hM.1
  have one : ∀ e, e < 4 → ∀ Q2 : Int32 → Sg → Prop, (∀ P : Int64 → Sg → Prop, P (lN (wy to vd m (to s e))) σ → ∀ Q3 : Int32 → Sg → Prop, True) → True := fun _ _ _ _ => trivial
  have ways : ∀ e, e < 4 → ∀ P : Int64 → Sg → Prop, P (lN (wy to vd m (to s e))) σ → wp_X7_next (nI s) (nI e) σ (fun r1 σ2 => wp_X7_waysOf r1 (nI m) σ2 P) := by
    intro e he P hP
    refine sp_next rfl rfl hs hn he ?_
    have ht := (hM.2.1 s hs).2 e he
    refine sp_waysOf ((hX.2 s hs).2.1 e he) rfl (by omega) hm ?_
    rw [(hX.2 _ ht).2.2.2 m hm]
    exact hP
  refine loop_0 (σ := Unit) (fun n e _ => wl_X7_firstKeptEvent_2 (nI s) (nI m) Q n (nI e) σ) (fun e _ => True) (fe to vd m s) () trivial ?_ ?_
  · intro n _ _
    show wb_X7_firstKeptEvent_2 _ _ _ _ _ _
    refine pk_le 4 (fe to vd m s) (fun z => by omega) (fun _ => ways _ h1 _ ?_)
    have e1 : lg_cmp (lN (wy to vd m (to s (fe to vd m s)))) (lN 0) ≤ nI 0 ↔ lN (wy to vd m (to s (fe to vd m s))) ≤ lN 0 := lg_cmp_le _ _
    rw [e1, pk_lLE (by have := wy_b to vd hm (to s (fe to vd m s)); omega) (by decide)]
    exact br_f (by omega) h
  · intro n e _ he _ hs2
    show wb_X7_firstKeptEvent_2 _ _ _ _ _ _
    refine pk_le 4 e (fun z => by omega) (fun _ => ways e (by omega) _ ?_)
    rw [h3 e he]
    refine br_t (by decide) ?_
    intro x ex
    rw [ex, nI_add]
    exact hs2 () trivial
theorem sp_Xrow {σ : Sg} {to : Nat → Nat → Nat} {vd : Nat → Nat} {ds : Nat → Nat → Option Nat} {N n i s : Nat} {Q : Int32 → Sg → Prop} (hM : PMa to vd N) (hX : PXa σ N to vd ds) (hs : s < N) (hn : n ≤ 25) (hi : i < n) (hw : wy to vd n s ≠ 0) (h : Q (nI (fe to vd (n - i - 1) (hr to vd s n i))) σ) : ∃ k, wl_X7_eventOfFirstRow_29 (nI n) (nI i) Q k (nI s) (nI 0) σ := by
  have hN := hM.1
  have fk : ∀ k, k < n → ∀ P : Int32 → Sg → Prop, P (nI (fe to vd (n - k - 1) (hr to vd s n k))) σ → wp_X7_firstKeptEvent (nI (hr to vd s n k)) (nI n - nI k - nI 1) σ P := by
    intro k hk P hP
    obtain ⟨h1, h2⟩ := hr_spec hM hs hw k (by omega)
    refine sp_firstKept hM hX rfl (m := n - k - 1) (by rw [pk_sub (by omega), pk_sub (by omega)]) h1 (by omega) ?_ hP
    have e : n - k - 1 + 1 = n - k := by omega
    rw [e]; exact h2
  refine loop_0 (σ := Int32) (fun f k a => wl_X7_eventOfFirstRow_29 (nI n) (nI i) Q f a (nI k) σ) (fun k a => a = nI (hr to vd s n k)) i (nI s) rfl ?_ ?_
  · intro f a ha
    subst ha
    show wb_X7_eventOfFirstRow_29 _ _ _ _ _ _ _
    refine pk_le n i (fun z => by omega) (fun _ => fk i hi _ (br_t rfl h))
  · intro f k a hk ha hs2
    subst ha
    show wb_X7_eventOfFirstRow_29 _ _ _ _ _ _ _
    refine pk_le n k (fun z => by omega) (fun _ => fk k (by omega) _ (pk_eq k i (fun z => by omega) (fun _ => ⟨fun _ => ?_, fun z => absurd z (ni9 ?_)⟩)))
    · obtain ⟨h1, h2⟩ := hr_spec hM hs hw k (by omega)
      have e : n - k = (n - k - 1) + 1 := by omega
      rw [e] at h2
      obtain ⟨h3, -, -⟩ := fe_spec h2
      refine sp_next rfl rfl h1 hN h3 ?_
      intro x ex
      rw [ex, nI_add]
      exact hs2 _ ((hX.2 _ h1).2.1 _ h3)
    · obtain ⟨h1, h2⟩ := hr_spec hM hs hw k (by omega)
      have e : n - k = (n - k - 1) + 1 := by omega
      rw [e] at h2
      obtain ⟨h3, -, -⟩ := fe_spec h2
      omega
theorem sp_Mrow {σ : Sg} {to : Nat → Nat → Nat} {vd : Nat → Nat} {N n i s : Nat} {Q : Int32 → Sg → Prop} (hM : PMa to vd N) (hto : ∀ s, s < N → ∀ e, e < 4 → gA σ 71 (4 * s + e) = nI (to s e) ∧ to s e < N) (hrw : ∀ k, k ≤ n → ∀ s, s < N → gL σ 78 (60 * k + s) = lN (wy to vd k s)) (hs : s < N) (hn : n ≤ 25) (hi : i < n) (hw : wy to vd n s ≠ 0) (h : Q (nI (fe to vd (n - i - 1) (hr to vd s n i))) σ) : ∃ k, wl_X9_run_53 (nI n) (nI i) Q k (nI s) (nI 0) (nI 0) σ := by
  have hN := hM.1
  refine loop_0 (σ := Int32 × Int32) (fun f k a => wl_X9_run_53 (nI n) (nI i) Q f a.1 a.2 (nI k) σ) (fun k a => a.1 = nI (hr to vd s n k) ∧ (0 < k → a.2 = nI (fe to vd (n - (k - 1) - 1) (hr to vd s n (k - 1))))) (i + 1) (nI s, nI 0) ⟨rfl, fun z => by omega⟩ ?_ ?_
  · intro f a ha
    show wb_X9_run_53 _ _ _ _ _ _ _ _
    refine pk_lt i (i + 1) (fun _ => ?_) (fun z => by omega)
    rw [ha.2 (by omega), Nat.add_sub_cancel]
    exact h
  · intro f k a hk ha hs2
    show wb_X9_run_53 _ _ _ _ _ _ _ _
    refine pk_lt i k (fun z => by omega) (fun _ => ?_)
    rw [ha.1]
    obtain ⟨h1, h2⟩ := hr_spec hM hs hw k (by omega)
    have e : n - k = (n - k - 1) + 1 := by omega
    rw [e] at h2
    obtain ⟨h3, h4, h5⟩ := fe_spec h2
    have idx : ∀ e, nI 4 * nI (hr to vd s n k) + nI e = nI (4 * hr to vd s n k + e) := fun e => by rw [pk_mul, nI_add]
    have idx2 : ∀ t, nI 60 * (nI n - nI k - nI 1) + nI t = nI (60 * (n - k - 1) + t) := fun t => by rw [pk_sub (by omega), pk_sub (by omega), pk_mul, nI_add]
    refine loop_0 (σ := Unit) (fun g e _ => wl_X9_run_62 (nI n) (nI i) (nI (hr to vd s n k)) (nI k) (fun z7 σ9 => wp_X9_run_100 (nI n) (nI i) (nI (hr to vd s n k)) z7 (nI k) (wl_X9_run_53 (nI n) (nI i) Q f) Q σ9) Q g (nI e) σ) (fun e _ => True) (fe to vd (n - k - 1) (hr to vd s n k)) () trivial ?_ ?_
    · intro g _ _
      show wb_X9_run_62 _ _ _ _ _ _ _ _ _
      have ht := (hto _ h1 _ h3)
      unfold wb_X9_run_62
      rw [idx, nI_clamp (by omega), ht.1, idx2, nI_clamp (by omega), hrw _ (by omega) _ ht.2]
      refine ⟨vp_in_nI (by show _ < 240; omega) (by decide), vp_in_nI (by show _ < 1560; omega) (by decide), ?_⟩
      rw [lgc_eq, pk_lEQ (by have := wy_b to vd (m := n - k - 1) (by omega) (to (hr to vd s n k) (fe to vd (n - k - 1) (hr to vd s n k))); omega) (by decide)]
      refine ⟨fun _ => ?_, fun z => absurd z h4⟩
      show wp_X9_run_100 _ _ _ _ _ _ _ _
      unfold wp_X9_run_100
      rw [idx, nI_clamp (by omega), ht.1]
      refine ⟨vp_in_nI (by show _ < 240; omega) (by decide), ?_⟩
      intro x ex y ey
      rw [ex, ey, nI_add]
      exact hs2 (_, _) ⟨rfl, fun _ => by rw [Nat.add_sub_cancel]; rfl⟩
    · intro g e _ he _ hs3
      show wb_X9_run_62 _ _ _ _ _ _ _ _ _
      have ht := (hto _ h1 e (by omega))
      unfold wb_X9_run_62
      rw [idx, nI_clamp (by omega), ht.1, idx2, nI_clamp (by omega), hrw _ (by omega) _ ht.2, h5 e he]
      refine ⟨vp_in_nI (by show _ < 240; omega) (by decide), vp_in_nI (by show _ < 1560; omega) (by decide), ?_⟩
      refine ⟨fun z => absurd rfl z, fun _ => ?_⟩
      intro x ex
      rw [ex, nI_add]
      exact hs3 () trivial
theorem sp_Mrun28 {x : Int64} {σ : Sg} {Q : Int32 → Sg → Prop} (h0 : lN 0 ≤ x → Q (-9) σ) (h1 : x < lN 0 → Q (Int64.toInt32 x) σ) : wp_X9_run_28 x Q σ := by
  unfold wp_X9_run_28
  have e1 : nI 0 ≤ lg_cmp x (lN 0) ↔ lN 0 ≤ x := lg_cmp_ge _ _
  rw [e1]
  exact ⟨h0, fun z => h1 (Int64.not_le.mp z)⟩
theorem op_run (a0 a1 a2 : Int32) : Both (wp_X8_run a0 a1 a2) (wp_X9_run a0 a1 a2) := by
  intro σ I
  obtain ⟨nb, tp, n, to, vd, ds, mk, n', to', vd', hT, hF, hM, hX, hO, hK, hXk, hMk, hL⟩ := id I
  have hn60 := hM.1
  refine sp_refS hX.1 hM.1 (fun h0 => br_f (by decide) ?_) (fun hn hi => br_f (by decide) ?_) (fun s hn hs e => br_t rfl ?_)
  · exact sp_MrefS hO.2.1 (fun z => by omega) (fun _ => br_t (by decide) (sp_Mrun28 (fun z => absurd z (by decide)) (fun _ => ⟨by decide, I⟩)))
  · exact sp_MrefS hO.2.1 (fun _ => sp_MisState hO.1 hn hM.1 (by rw [hi]; exact ⟨fun z => absurd rfl z, fun _ => br_t (by decide) (sp_Mrun28 (fun z => absurd z (by decide)) (fun _ => ⟨by decide, I⟩))⟩)) (fun z => by omega)
  · subst e
    refine sp_isRow (bI_br (fun hi => ?_) (fun hi => ?_))
    · refine sp_MrefS hO.2.1 (fun _ => sp_MisState hO.1 hn hM.1 ?_) (fun z => by omega)
      rw [inN_nI (by omega), decide_eq_true hs]
      refine ⟨fun _ => sp_in rfl rfl (by decide) ?_, fun z => absurd z (by decide)⟩
      rw [hi]
      exact ⟨fun z => absurd rfl z, fun _ => br_t (by decide) (sp_Mrun28 (fun z => absurd z (by decide)) (fun _ => ⟨by decide, I⟩))⟩
    · obtain ⟨m, hm, rfl⟩ := inN_of hi
      -- the reference: what it comes to
      have ref : ∀ r : Int32, (inN a2 m = false → r = -9) → (inN a2 m = true → wy to vd m s = 0 → r = -9) → (∀ i, i < m → a2 = nI i → wy to vd m s ≠ 0 → r = nI (fe to vd (m - i - 1) (hr to vd s m i))) → wp_X9_run (nI s) (nI m) a2 σ (fun r' σ2 => r = r' ∧ Inv σ2) := by
        intro r r1 r2 r3
        refine sp_Mruns hM hO hs (by omega) (fun σ1 f1 g1 => ?_)
        have I1 : Inv σ1 := I.fr f1 (by decide) (by decide)
        have hb := wy_b to vd (m := m) (by omega) s
        have e1 : lg_cmp (lN (wy to vd m s)) (lN 0) ≤ nI 0 ↔ lN (wy to vd m s) ≤ lN 0 := lg_cmp_le _ _
        rw [e1, pk_lLE (by omega) (by decide)]
        have neg9 : r = -9 → wp_X9_run_28 (lN (wy to vd m s)) (fun r' σ2 => r = r' ∧ Inv σ2) σ1 := fun z => sp_Mrun28 (fun _ => ⟨z, I1⟩) (fun q => by
          rw [pk_lLT (by omega) (by decide)] at q; omega)
        refine ⟨fun z => neg9 ?_, fun z => ?_⟩
        · cases hi2 : inN a2 m with
          | false => exact r1 hi2
          | true => exact r2 hi2 (by omega)
        · have fin : ∀ b : Bool, inN a2 m = b → ((¬ bI b = nI 0 → ∃ n, wl_X9_run_53 (nI m) a2 (fun r' σ2 => r = r' ∧ Inv σ2) n (nI s) (nI 0) (nI 0) σ1) ∧ (bI b = nI 0 → wp_X9_run_28 (lN (wy to vd m s)) (fun r' σ2 => r = r' ∧ Inv σ2) σ1)) := by
            intro b hb2
            refine bI_rb (fun q => ?_) (fun q => neg9 (r1 (by rw [hb2, q])))
            rw [q] at hb2
            obtain ⟨i, hi3, rfl⟩ := inN_of hb2
            have a71 : gA σ1 71 = gA σ 71 := f1.A (by decide)
            exact sp_Mrow hM (fun s hs e he => by rw [a71]; exact PMo_to hM hO s hs e he) g1 hs (by omega) hi3 (by omega) ⟨r3 i hi3 rfl (by omega), I1⟩
          rcases Nat.eq_zero_or_pos m with hm0 | hm0
          · subst hm0
            have hf : inN a2 0 = false := decide_eq_false (by omega)
            have h2 := (fin false hf).2 rfl
            unfold wp_X9_in
            rw [lgc_lt, lgc_gt, Int64.lt_iff_toInt_lt, Int64.lt_iff_toInt_lt, Int32.toInt_toInt64]
            have e0 : (lN 0).toInt = 0 := by decide
            have e1 : (Int32.toInt64 (nI 0 - nI 1)).toInt = -1 := by decide
            rw [e0, e1]
            refine ⟨fun _ => ⟨fun q => absurd rfl q, fun _ => h2⟩, fun q => ⟨fun _ => ⟨fun q => absurd rfl q, fun _ => h2⟩, fun w => by omega⟩⟩
          · refine sp_in (m := m - 1) rfl (by rw [pk_sub hm0, nI_l (by omega)]) (by omega) ?_
            have e2 : m - 1 + 1 = m := by omega
            rw [e2]
            exact fin _ rfl
      unfold wp_X7_eventOfFirstRow
      rcases ni_cases a2 with h2 | ⟨i, hi2, rfl⟩
      · refine br_t h2 (ref (-9) (fun _ => rfl) (fun z => ?_) (fun i hi3 e => ?_))
        · rw [inN_neg h2] at z; cases z
        · subst e; exact absurd h2 (nI_pos (by omega))
      · refine br_f (nI_pos hi2) (pk_le m i (fun z => ref (-9) (fun _ => rfl) (fun z2 => ?_) (fun j hj e => ?_)) (fun z => ?_))
        · exact fun _ => rfl
        · have := ninj e hi2 (by omega); omega
        · refine sp_waysOf rfl rfl (by omega) (by omega) ?_
          rw [(hX.2 s hs).2.2.2 m (by omega), lgc_eq, pk_lEQ (by have := wy_b to vd (m := m) (by omega) s; omega) (by decide)]
          refine ⟨fun hw => ?_, fun hw => ref (-9) (fun _ => rfl) (fun _ _ => rfl) (fun j hj e hw2 => absurd hw hw2)⟩
          refine sp_Xrow hM hX hs (by omega) z hw (ref _ (fun q => ?_) (fun _ q => absurd q hw) (fun j hj e _ => ?_))
          · rw [inN_nI hi2, decide_eq_true z] at q; cases q
          · have := ninj e hi2 (by omega); subst this; rfl
