/-! ===== runs, run ===== -/
def BothL (a : Sg → (Int64 → Sg → Prop) → Prop) (b : Sg → (Int64 → Sg → Prop) → Prop) : Prop := ∀ σ, Inv σ → a σ (fun r σ1 => b σ1 (fun r' σ2 => r = r' ∧ Inv σ2))
def wyS (to : Nat → Nat → Nat) (vd : Nat → Nat) (m s : Nat) : Nat → Nat
  | 0 => 0
  | e + 1 => wyS to vd m s e + wy to vd m (to s e)
theorem wy_S (to : Nat → Nat → Nat) (vd : Nat → Nat) (m s : Nat) : wy to vd (m + 1) s = wyS to vd m s 4 := by
  simp only [wy, wyS, Nat.zero_add]
theorem wy_le (to : Nat → Nat → Nat) (vd : Nat → Nat) : ∀ m s, wy to vd m s ≤ 4 ^ m
  | 0, s => by simp only [wy, Nat.pow_zero]; have := Nat.mod_lt (vd s) (by decide : 0 < 2); omega
  | m + 1, s => by
    have h := wy_le to vd m
    have h0 := h (to s 0)
    have h1 := h (to s 1)
    have h2 := h (to s 2)
    have h3 := h (to s 3)
    simp only [wy, Nat.pow_succ]
    omega
theorem wy_b (to : Nat → Nat → Nat) (vd : Nat → Nat) {m : Nat} (hm : m ≤ 25) (s : Nat) : wy to vd m s < 2 ^ 62 := by
  have h1 := wy_le to vd m s
  have h2 : (4 : Nat) ^ m ≤ 4 ^ 25 := Nat.pow_le_pow_right (by decide) hm
  have h3 : (4 : Nat) ^ 25 < 2 ^ 62 := by decide
  omega
theorem sp_cnt84 {σ : Sg} {v1 : Int32} {k s : Nat} {x : Int64} {K9 : Int32 → Sg → Prop} {Q : Sg → Prop} (hk : k ≤ 25) (hs : s < 60) (h : K9 (nI (s + 1)) (stL σ 78 (60 * k + s) x)) : wp_X9_countTo_84 v1 (nI k) (nI s) x K9 Q σ := by
  unfold wp_X9_countTo_84
  rw [pk_mul, nI_add, nI_clamp (by omega)]
  refine ⟨vp_in_nI (by show _ < 1560; omega) (by decide), ?_⟩
  intro σ1 e1 y e2
  rw [e2, nI_add, e1]
  exact h
theorem sp_cnt1 {σ : Sg} {v1 : Int32} {to : Nat → Nat → Nat} {vd : Nat → Nat} {n k s : Nat} {K9 : Int32 → Sg → Prop} {Q : Sg → Prop} (hn60 : n ≤ 60) (hs : s < n) (hk : k ≤ 25) (hkept : gA σ 72 s = bI (decide (vd s % 2 = 1))) (hto : ∀ e, e < 4 → gA σ 71 (4 * s + e) = nI (to s e) ∧ to s e < n) (hpre : ∀ k', k' < k → ∀ s', s' < n → gL σ 78 (60 * k' + s') = lN (wy to vd k' s')) (h : K9 (nI (s + 1)) (stL σ 78 (60 * k + s) (lN (wy to vd k s)))) :
    ((¬ nI k = nI 0 → wp_X9_countTo_34 v1 (nI k) (nI s) K9 Q σ) ∧ (nI k = nI 0 → vp_in (nI s) (aN 72) ∧ ((((gA σ 72 (Int32.toNatClampNeg (nI s))) = (nI 0) → wp_X9_countTo_34 v1 (nI k) (nI s) K9 Q σ) ∧ (¬ (gA σ 72 (Int32.toNatClampNeg (nI s))) = (nI 0) → wp_X9_countTo_35 v1 (nI k) (nI s) (lN 1) K9 Q σ))))) := by
  have zero : ∀ x, k = 0 → x = lN (wy to vd 0 s) → wp_X9_countTo_35 v1 (nI k) (nI s) x K9 Q σ := by
    intro x hk0 hx
    subst hk0 hx
    refine ⟨1, ?_⟩
    show wb_X9_countTo_40 _ _ _ _ _ _ _ _ _
    exact br_f (by decide) (br_t (by decide) (sp_cnt84 hk (by omega) h))
  refine ⟨fun hz => ?_, fun hz => ⟨vp_in_nI (by show s < 60; omega) (by decide), ?_⟩⟩
  · have hk0 : k ≠ 0 := fun e => hz (by rw [e])
    obtain ⟨m, rfl⟩ : ∃ m, k = m + 1 := ⟨k - 1, by omega⟩
    refine loop_0 (σ := Int64) (fun n e x => wl_X9_countTo_40 v1 (nI (m + 1)) (nI s) (fun z4 σ9 => wp_X9_countTo_84 v1 (nI (m + 1)) (nI s) z4 K9 Q σ9) Q n x (nI e) σ) (fun e x => x = lN (wyS to vd m s e)) 4 (lN 0) rfl ?_ ?_
    · intro n x hx
      subst hx
      show wb_X9_countTo_40 _ _ _ _ _ _ _ _ _
      refine br_t (by decide) (sp_cnt84 hk (by omega) ?_)
      rw [← wy_S]
      exact h
    · intro n e x he hx hs2
      subst hx
      show wb_X9_countTo_40 _ _ _ _ _ _ _ _ _
      refine pk_le 4 e (fun z => by omega) (fun _ => pk_le (m + 1) 0 (fun z => by omega) (fun _ => ?_))
      have e1 : nI 4 * nI s + nI e = nI (4 * s + e) := by rw [pk_mul, nI_add]
      rw [e1, nI_clamp (by omega), (hto e he).1]
      have h2 := (hto e he).2
      have e2 : nI 60 * (nI (m + 1) - nI 1) + nI (to s e) = nI (60 * m + to s e) := by rw [pk_sub (by omega), pk_mul, nI_add]; rfl
      rw [e2, nI_clamp (by omega), hpre m (by omega) (to s e) h2]
      refine ⟨vp_in_nI (by show _ < 240; omega) (by decide), vp_in_nI (by show _ < 1560; omega) (by decide), ?_⟩
      intro y e3 z e4
      rw [e3, e4, nI_add, lN_add]
      exact hs2 _ rfl
  · have hk0 : k = 0 := ninj hz (by omega) (by decide)
    rw [nI_clamp (by omega), hkept]
    refine bI_br (fun z => ?_) (fun z => ?_)
    · have := of_decide_eq_false z
      refine zero _ hk0 ?_
      have e : wy to vd 0 s = 0 := by show vd s % 2 = 0; omega
      rw [e]
    · have := of_decide_eq_true z
      refine zero _ hk0 ?_
      have e : wy to vd 0 s = 1 := this
      rw [e]
theorem sp_countTo {σ : Sg} {to : Nat → Nat → Nat} {vd : Nat → Nat} {n m : Nat} {Q : Sg → Prop} (hn60 : n ≤ 60) (hn : gF σ 10 39 = nI n) (hkept : ∀ s, s < n → gA σ 72 s = bI (decide (vd s % 2 = 1))) (hto : ∀ s, s < n → ∀ e, e < 4 → gA σ 71 (4 * s + e) = nI (to s e) ∧ to s e < n) (hm : m ≤ 25)
    (h : ∀ σ1, Fr [] [78] σ σ1 → (∀ k, k ≤ m → ∀ s, s < n → gL σ1 78 (60 * k + s) = lN (wy to vd k s)) → Q σ1) : wp_X9_countTo (nI m) σ Q := by
  refine loop_0 (σ := Sg) (fun n k t => wl_X9_countTo_2 (nI m) Q n (nI k) t) (fun k t => Fr [] [78] σ t ∧ ∀ k', k' < k → ∀ s, s < n → gL t 78 (60 * k' + s) = lN (wy to vd k' s)) (m + 1) σ ⟨Fr.rf, fun k hk => by omega⟩ ?_ ?_
  · intro _ t I
    show wb_X9_countTo_2 _ _ _ _ _
    refine pk_lt m (m + 1) (fun _ => h t I.1 (fun k hk => I.2 k (by omega))) (fun z => by omega)
  · intro n2 k t hk I hs2
    show wb_X9_countTo_2 _ _ _ _ _
    refine pk_lt m k (fun z => by omega) (fun _ => ?_)
    refine loop_0 (σ := Sg) (fun n s t' => wl_X9_countTo_9 (nI m) (nI k) (fun σ9 => wp_X9_countTo_103 (nI m) (nI k) (wl_X9_countTo_2 (nI m) Q n2) Q σ9) Q n (nI s) t') (fun s t' => Fr [] [78] σ t' ∧ (∀ k', k' < k → ∀ s', s' < n → gL t' 78 (60 * k' + s') = lN (wy to vd k' s')) ∧ ∀ s', s' < s → gL t' 78 (60 * k + s') = lN (wy to vd k s')) n t ⟨I.1, I.2, fun s hs => by omega⟩ ?_ ?_
    · intro _ t' I'
      show wb_X9_countTo_9 _ _ _ _ _ _ _
      have e1 : gF t' 10 39 = nI n := by rw [I'.1.F (by decide)]; exact hn
      unfold wb_X9_countTo_9
      rw [e1]
      refine pk_le n n (fun _ => ?_) (fun z => by omega)
      intro x ex
      rw [ex, nI_add]
      refine hs2 t' ⟨I'.1, fun k' hk' s hs => ?_⟩
      rcases Nat.lt_or_ge k' k with q | q
      · exact I'.2.1 k' q s hs
      · have : k' = k := by omega
        subst this
        exact I'.2.2 s hs
    · intro n3 s t' hs I' hs3
      show wb_X9_countTo_9 _ _ _ _ _ _ _
      have e1 : gF t' 10 39 = nI n := by rw [I'.1.F (by decide)]; exact hn
      unfold wb_X9_countTo_9
      rw [e1]
      refine pk_le n s (fun z => by omega) (fun _ => ?_)
      have a72 : gA t' 72 = gA σ 72 := I'.1.A (by decide)
      have a71 : gA t' 71 = gA σ 71 := I'.1.A (by decide)
      refine sp_cnt1 (to := to) (vd := vd) (n := n) hn60 hs (by omega) (by rw [a72]; exact hkept s hs) (fun e he => by rw [a71]; exact hto s hs e he) I'.2.1 (hs3 _ ⟨I'.1.stL (by decide), fun k' hk' s' hs' => ?_, fun s' hs' => ?_⟩)
      · rw [gL_stL, if_pos rfl, if_neg (by omega)]
        exact I'.2.1 k' hk' s' hs'
      · rw [gL_stL, if_pos rfl]
        by_cases q : s' = s
        · subst q; rw [if_pos rfl]
        · rw [if_neg (by omega)]; exact I'.2.2 s' (by omega)
theorem PMo_to {σ : Sg} {n : Nat} {to : Nat → Nat → Nat} {vd : Nat → Nat} (hM : PMa to vd n) (hO : PMo σ n to vd) : ∀ s, s < n → ∀ e, e < 4 → gA σ 71 (4 * s + e) = nI (to s e) ∧ to s e < n := fun s hs e he => ⟨(hO.2.2 s hs).2.2 e he, (hM.2.1 s hs).2 e he⟩
theorem sp_waysOf {σ : Sg} {m s : Nat} {a b : Int32} {Q : Int64 → Sg → Prop} (ha : a = nI s) (hb : b = nI m) (hs : s < 60) (hm : m ≤ 25) (h : Q (gL σ 38 (m * 60 + s)) σ) : wp_X7_waysOf a b σ Q := by
  subst ha hb
  refine sp_pickLong (k := m * 60 + s) (by rw [pk_mul, nI_add]) (by show _ < 1560; omega) h
/-- the reference's runs, at a state and a length that are told -/
theorem sp_Mruns {σ : Sg} {n s m : Nat} {to : Nat → Nat → Nat} {vd : Nat → Nat} {Q : Int64 → Sg → Prop} (hM : PMa to vd n) (hO : PMo σ n to vd) (hs : s < n) (hm : m ≤ 25) (h : ∀ σ1, Fr [] [78] σ σ1 → (∀ k, k ≤ m → ∀ s, s < n → gL σ1 78 (60 * k + s) = lN (wy to vd k s)) → Q (lN (wy to vd m s)) σ1) : wp_X9_runs (nI s) (nI m) σ Q := by
  have hn := hM.1
  refine sp_MrefS hO.2.1 (fun h0 => sp_MisState hO.1 h0 hn ?_) (fun z => by omega)
  rw [inN_nI (by omega), decide_eq_true hs]
  refine ⟨fun _ => sp_in rfl rfl (by decide) ?_, fun z => absurd z (by decide)⟩
  rw [inN_nI (by omega), decide_eq_true (by omega : m < 25 + 1)]
  refine ⟨fun _ => sp_countTo hn hO.1 (fun s hs => (hO.2.2 s hs).2.1) (PMo_to hM hO) hm (fun σ1 f1 g1 => ?_), fun z => absurd z (by decide)⟩
  rw [pk_mul, nI_add, nI_clamp (by omega), g1 m (Nat.le_refl m) s hs]
  exact ⟨vp_in_nI (by show _ < 1560; omega) (by decide), h σ1 f1 g1⟩
theorem op_runs (a0 a1 : Int32) : BothL (wp_X8_runs a0 a1) (wp_X9_runs a0 a1) := by
  intro σ I
  obtain ⟨nb, tp, n, to, vd, ds, mk, n', to', vd', hT, hF, hM, hX, hO, hK, hXk, hMk, hL⟩ := id I
  have hn60 := hM.1
  refine sp_refS hX.1 hM.1 (fun h0 => br_f (by decide) ?_) (fun hn hi => br_f (by decide) ?_) (fun s hn hs e => br_t rfl ?_)
  · exact sp_MrefS hO.2.1 (fun z => by omega) (fun _ => ⟨rfl, I⟩)
  · exact sp_MrefS hO.2.1 (fun _ => sp_MisState hO.1 hn hM.1 (by rw [hi]; exact ⟨fun z => absurd rfl z, fun _ => ⟨rfl, I⟩⟩)) (fun z => by omega)
  · subst e
    refine sp_isRow (bI_br (fun hi => ?_) (fun hi => ?_))
    · refine sp_MrefS hO.2.1 (fun _ => sp_MisState hO.1 hn hM.1 ?_) (fun z => by omega)
      rw [inN_nI (by omega), decide_eq_true hs]
      refine ⟨fun _ => sp_in rfl rfl (by decide) ?_, fun z => absurd z (by decide)⟩
      rw [hi]
      exact ⟨fun z => absurd rfl z, fun _ => ⟨rfl, I⟩⟩
    · obtain ⟨m, hm, rfl⟩ := inN_of hi
      refine sp_waysOf rfl rfl (by omega) (by omega) (sp_Mruns hM hO hs (by omega) (fun σ1 f1 g1 => ⟨?_, I.fr f1 (by decide) (by decide)⟩))
      exact (hX.2 s hs).2.2.2 m (by omega)
