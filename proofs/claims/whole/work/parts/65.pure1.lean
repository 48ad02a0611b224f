/-! ===== read: what looks ahead within what looks back ===== -/
def wst (W : Nat → Bool) (n : Nat) (x : NdT) : Nat → Bool := fun i => W i || ((W n || pasS x.1) && (x.2.1 == some i || x.2.2.1 == some i))
def wfst (W : Nat → Bool) (n : Nat) (x : NdT) (f : Nat) : Nat := if (W n && futS x.1 && decide (x.2.2.2 < f)) = true then x.2.2.2 else f
def ipf : List NdT → (Nat → Bool) → Nat → Nat
  | [], _, f => f
  | x :: nd, W, f => ipf nd (wst W nd.length x) (wfst W nd.length x f)
theorem wfst_ok {W : Nat → Bool} {n : Nat} {x : NdT} {f : Nat} (hx : x.2.2.2 < 60) (hf : f = 99 ∨ f < 60) : wfst W n x f = 99 ∨ wfst W n x f < 60 := by
  unfold wfst
  split
  · exact Or.inr hx
  · exact hf
theorem ipf_ok : ∀ (nd : List NdT) (W : Nat → Bool) (f : Nat), kidsLt nd → (f = 99 ∨ f < 60) → (ipf nd W f = 99 ∨ ipf nd W f < 60)
  | [], _, _, _, hf => hf
  | x :: nd, W, f, hk, hf => ipf_ok nd _ _ hk.2.2.2.2 (wfst_ok hk.2.2.2.1 hf)
theorem nIm1 {m : Nat} (h : 0 < m) : nI m + (-1 : Int32) = nI (m - 1) := by
  have := pk_sub (a := m) (b := 1) (by omega)
  rw [← this, Int32.sub_eq_add_neg]
  rfl
theorem m1neg : nI 0 + (-1 : Int32) < nI 0 := by decide
/-- nothing of W lies in what is still to come, and each node has one place -/
def Wok (W : Nat → Bool) (nd : List NdT) : Prop := (∀ l, l ∈ kids nd → W l = false) ∧ ∀ x, (kids nd).count x ≤ 1
theorem Wok.st {W : Nat → Bool} {nd : List NdT} {x : NdT} (h : Wok W (x :: nd)) : Wok (wst W nd.length x) nd := by
  obtain ⟨h1, h2⟩ := h
  refine ⟨fun l hl => ?_, fun y => ?_⟩
  · unfold wst
    have a : W l = false := h1 l (by show l ∈ x.2.1.toList ++ (x.2.2.1.toList ++ kids nd); simp [hl])
    have hc := h2 l
    have hk : 0 < (kids nd).count l := List.count_pos_iff.mpr hl
    have e : (kids (x :: nd)).count l = x.2.1.toList.count l + (x.2.2.1.toList.count l + (kids nd).count l) := by
      show (x.2.1.toList ++ (x.2.2.1.toList ++ kids nd)).count l = _
      rw [List.count_append, List.count_append]
    rw [e] at hc
    have b1 : (x.2.1 == some l) = false := by
      cases q : x.2.1 with
      | none => rfl
      | some v =>
        rw [q] at hc
        by_cases r : v = l
        · subst r
          simp at hc
          omega
        · simpa using r
    have b2 : (x.2.2.1 == some l) = false := by
      cases q : x.2.2.1 with
      | none => rfl
      | some v =>
        rw [q] at hc
        by_cases r : v = l
        · subst r
          simp at hc
          omega
        · simpa using r
    rw [a, b1, b2]
    simp
  · have hc := h2 y
    have e : (kids (x :: nd)).count y = x.2.1.toList.count y + (x.2.2.1.toList.count y + (kids nd).count y) := by
      show (x.2.1.toList ++ (x.2.2.1.toList ++ kids nd)).count y = _
      rw [List.count_append, List.count_append]
    omega
theorem oI_some (l : Nat) : oI (some l) = nI l := rfl
theorem oI_none : oI none = -9 := rfl
/-- the reference's guard of a sign that looks behind or ahead -/
theorem pas_br {c : Nat} {A B : Prop} (hc : c < 256) (h1 : pasS c = true → A) (h0 : pasS c = false → B) : (nI c = nI 89 → A) ∧ (¬ nI c = nI 89 → ((nI c = nI 72 → A) ∧ (¬ nI c = nI 72 → ((nI c = nI 79 → A) ∧ (¬ nI c = nI 79 → ((¬ nI c = nI 83 → B) ∧ (nI c = nI 83 → A))))))) := by
  refine pk_eq c 89 (fun e => h1 (by subst e; rfl)) (fun n1 => pk_eq c 72 (fun e => h1 (by subst e; rfl)) (fun n2 => pk_eq c 79 (fun e => h1 (by subst e; rfl)) (fun n3 => (pk_eq c 83 (fun e => h1 (by subst e; rfl)) (fun n4 => h0 ?_)).symm)))
  unfold pasS
  rw [beq_eq_false_iff_ne.mpr n1, beq_eq_false_iff_ne.mpr n2, beq_eq_false_iff_ne.mpr n3, beq_eq_false_iff_ne.mpr n4]; rfl
theorem fut_br {c : Nat} {A B : Prop} (hc : c < 256) (h1 : futS c = true → A) (h0 : futS c = false → B) : (nI c = nI 78 → A) ∧ (¬ nI c = nI 78 → ((nI c = nI 87 → A) ∧ (¬ nI c = nI 87 → ((nI c = nI 71 → A) ∧ (¬ nI c = nI 71 → ((nI c = nI 70 → A) ∧ (¬ nI c = nI 70 → ((¬ nI c = nI 85 → B) ∧ (nI c = nI 85 → A))))))))) := by
  refine pk_eq c 78 (fun e => h1 (by subst e; rfl)) (fun n1 => pk_eq c 87 (fun e => h1 (by subst e; rfl)) (fun n2 => pk_eq c 71 (fun e => h1 (by subst e; rfl)) (fun n3 => pk_eq c 70 (fun e => h1 (by subst e; rfl)) (fun n4 => (pk_eq c 85 (fun e => h1 (by subst e; rfl)) (fun n5 => h0 ?_)).symm))))
  unfold futS
  rw [beq_eq_false_iff_ne.mpr n1, beq_eq_false_iff_ne.mpr n2, beq_eq_false_iff_ne.mpr n3, beq_eq_false_iff_ne.mpr n4, beq_eq_false_iff_ne.mpr n5]; rfl
/-- setting one child -/
def wset (W : Nat → Bool) (b : Bool) : Option Nat → Nat → Bool
  | none => W
  | some l => fun i => if i = l then b else W i
theorem wst_eq {W : Nat → Bool} {nd : List NdT} {x : NdT} (h : Wok W (x :: nd)) : wst W nd.length x = wset (wset W (W nd.length || pasS x.1) x.2.1) (W nd.length || pasS x.1) x.2.2.1 := by
  funext i
  obtain ⟨h1, h2⟩ := h
  unfold wst
  generalize (W nd.length || pasS x.1) = b
  have hk : ∀ l, (x.2.1 = some l ∨ x.2.2.1 = some l) → W l = false := by
    intro l hl
    refine h1 l ?_
    show l ∈ x.2.1.toList ++ (x.2.2.1.toList ++ kids nd)
    rcases hl with e | e
    · rw [e]; simp
    · rw [e]; simp
  cases q1 : x.2.1 with
  | none =>
    cases q2 : x.2.2.1 with
    | none => simp [wset]
    | some r =>
      simp only [wset]
      by_cases e : i = r
      · subst e
        rw [hk i (Or.inr q2)]; simp
      · rw [if_neg e]
        have : (some r == some i) = false := by simpa using fun z => e z.symm
        rw [this]; simp
  | some l =>
    cases q2 : x.2.2.1 with
    | none =>
      simp only [wset]
      by_cases e : i = l
      · subst e
        rw [hk i (Or.inl q1)]; simp
      · rw [if_neg e]
        have : (some l == some i) = false := by simpa using fun z => e z.symm
        rw [this]; simp
    | some r =>
      simp only [wset]
      by_cases e : i = r
      · subst e
        rw [hk i (Or.inr q2)]; simp
      · rw [if_neg e]
        have e2 : (some r == some i) = false := by simpa using fun z => e z.symm
        rw [e2]
        by_cases e3 : i = l
        · subst e3
          rw [hk i (Or.inl q1)]; simp
        · rw [if_neg e3]
          have : (some l == some i) = false := by simpa using fun z => e3 z.symm
          rw [this]; simp
theorem sp_isPure {σ : Sg} {nd : List NdT} {Q : Int32 → Sg → Prop} (hn : nd.length ≤ 9) (h4 : gF σ 10 4 = nI nd.length) (hA : ndsA (gA σ 48) (gA σ 49) (gA σ 50) (gA σ 51) nd) (hk : kidsLt nd) (hc : ∀ x, (kids nd).count x ≤ 1) (h99 : ipf nd (fun _ => false) 99 = 99 → ∀ σ', Fr [] [55] σ σ' → Q (nI 1) σ') (hf : ∀ f, ipf nd (fun _ => false) 99 = f → f < 60 → ∀ σ', Fr [10] [55] σ σ' → (∀ k, k ∉ [2, 3] → gF σ' 10 k = gF σ 10 k) → gF σ' 10 2 = nI 2 → gF σ' 10 3 = nI f → Q (nI 0) σ') : wp_X9_isPure σ Q := by
  refine lq1 (fun g i (τ : Sg) => wl_X9_isPure_2 (fun σ9 => wp_X9_isPure_21 Q σ9) Q g (nI i) τ) (fun i τ => Fr [] [55] σ τ ∧ ∀ j, j < i → gA τ 55 j = nI 0) 9 ?_ ?_ σ ⟨Fr.rf, fun j hj => by omega⟩
  · intro g τ ⟨fr, hz⟩
    show wb_X9_isPure_2 _ _ _ _ _
    refine pk_le 9 9 (fun _ => ?_) (fun z => by omega)
    intro x30 e30
    have e31 : x30 = nI nd.length + (-1 : Int32) := by
      rw [e30, fr.F (by decide), h4, Int32.sub_eq_add_neg]; rfl
    subst e31
    clear e30
    refine loop_m (σ := List NdT × (Nat → Bool) × Nat × Sg) (fun g a => wl_X9_isPure_31 (fun z1 σ9 => wp_X9_isPure_208 z1 Q σ9) Q g (nI a.2.2.1) (nI a.1.length + (-1 : Int32)) a.2.2.2) (fun a => a.1.length ≤ 9 ∧ ndsA (gA σ 48) (gA σ 49) (gA σ 50) (gA σ 51) a.1 ∧ kidsLt a.1 ∧ Wok a.2.1 a.1 ∧ (a.2.2.1 = 99 ∨ a.2.2.1 < 60) ∧ ipf a.1 a.2.1 a.2.2.1 = ipf nd (fun _ => false) 99 ∧ Fr [] [55] σ a.2.2.2 ∧ ∀ i, i < 9 → gA a.2.2.2 55 i = bI (a.2.1 i)) (fun a => a.1.length) ?_ (nd, (fun _ => false), 99, τ) ⟨hn, hA, hk, ⟨fun l _ => rfl, hc⟩, Or.inl rfl, rfl, fr, fun i hi => hz i hi⟩
    rintro g ⟨nd1, W, f, ρ⟩ ⟨a1, a2, a3, a4, a5, a6, a7, a8⟩ hs
    simp only at a1 a2 a3 a4 a5 a6 a7 a8 hs ⊢
    show wb_X9_isPure_31 _ _ _ _ _ _
    match nd1, a1, a2, a3, a4, a6, hs with
    | [], a1, a2, a3, a4, a6, hs =>
      refine br_t m1neg ?_
      have e : f = ipf nd (fun _ => false) 99 := a6
      show wp_X9_isPure_208 _ _ _
      unfold wp_X9_isPure_208 wp_X9_isPure_224
      refine pk_le 99 f (fun z => ?_) (fun z => ?_)
      · have : f = 99 := by omega
        subst this
        exact ⟨fun z => absurd rfl z, fun _ => h99 e.symm ρ a7⟩
      · have hlt : f < 60 := by omega
        intro σ1 e1 σ2 e2
        have := (pk_eq (x := nI f) (y := nI 99) (A := Q (nI 1) σ2) (B := Q (nI 0) σ2) f 99 (fun q => by omega) (fun _ => ?_))
        · exact this.symm
        refine hf f e.symm hlt σ2 ?_ ?_ ?_ ?_
        · rw [e2, e1]; exact ((a7.mono (by simp) (by simp)).stF (by simp)).stF (by simp)
        · intro k hk2
          simp only [List.mem_cons, List.not_mem_nil, or_false, not_or] at hk2
          rw [e2, gF_stF, if_pos rfl, if_neg hk2.2, e1, gF_stF, if_pos rfl, if_neg hk2.1, a7.F (by decide)]
        · rw [e2, gF_stF, if_pos rfl, if_neg (by decide), e1, gF_stF, if_pos rfl, if_pos rfl]
        · rw [e2, gF_stF, if_pos rfl, if_pos rfl]
    | x :: nd2, a1, a2, a3, a4, a6, hs =>
      have hlen : nd2.length < 9 := by simp only [List.length_cons] at a1; omega
      rw [List.length_cons, nIm1 (by omega), Nat.add_sub_cancel]
      obtain ⟨⟨s48, s49, s50, s51⟩, a2'⟩ := a2
      obtain ⟨k1, k2, k3, k4, k5⟩ := a3
      have w9 : vp_in (nI nd2.length) 9 := vp_in_nI hlen (by decide)
      refine br_f (nI_nlt (Nat.zero_le _) (by omega)) ⟨w9, ?_⟩
      intro x41 e41
      rw [nI_clamp (by omega), a7.A (by decide), s48] at e41
      subst e41
      rw [nI_clamp (by omega), a8 _ hlen]
      -- the tail
      have b202 : ∀ (W2 : Nat → Bool) (ρ2 : Sg), W2 = wst W nd2.length x → Fr [] [55] σ ρ2 → (∀ i, i < 9 → gA ρ2 55 i = bI (W2 i)) → wp_X9_isPure_202 (nI (wfst W nd2.length x f)) (nI nd2.length) (wl_X9_isPure_31 (fun z1 σ9 => wp_X9_isPure_208 z1 Q σ9) Q g) Q ρ2 := by
        intro W2 ρ2 hW2 fr2 h55 y ey
        rw [ey]
        subst hW2
        exact hs (nd2, wst W nd2.length x, wfst W nd2.length x f, ρ2) ⟨Nat.le_of_lt hlen, a2', k5, a4.st, wfst_ok k4 a5, a6, fr2, h55⟩ (Nat.lt_succ_self _)
      have b178 : ∀ (W1 : Nat → Bool) (ρ1 : Sg), W1 = wset W (W nd2.length || pasS x.1) x.2.1 → Fr [] [55] σ ρ1 → (∀ i, i < 9 → gA ρ1 55 i = bI (W1 i)) → wp_X9_isPure_178 (nI (wfst W nd2.length x f)) (nI nd2.length) (bI (W nd2.length || pasS x.1)) (wl_X9_isPure_31 (fun z1 σ9 => wp_X9_isPure_208 z1 Q σ9) Q g) Q ρ1 := by
        intro W1 ρ1 hW1 fr1 h55
        unfold wp_X9_isPure_178
        rw [nI_clamp (by omega), fr1.A (by decide), s50]
        refine ⟨w9, ?_⟩
        have hw := wst_eq a4
        rw [← hW1] at hw
        cases q : x.2.2.1 with
        | none =>
          rw [q] at hw
          exact br_t rfl (b202 W1 ρ1 hw.symm fr1 h55)
        | some r =>
          have hr := k2 r q
          rw [oI_some, nI_clamp (by omega)]
          refine br_f (ni9 (by omega)) ⟨w9, vp_in_nI (by show r < 9; omega) (by decide), ?_⟩
          intro ρ2 e2
          rw [nar_bI] at e2
          rw [q] at hw
          refine b202 _ ρ2 hw.symm (by rw [e2]; exact fr1.stA (by simp)) (fun i hi => ?_)
          rw [e2, gA_stA, if_pos rfl]
          simp only [wset]
          split
          · rfl
          · exact h55 i hi
      have b153 : wp_X9_isPure_153 (nI nd2.length) (bI (W nd2.length || pasS x.1)) (nI (wfst W nd2.length x f)) (wl_X9_isPure_31 (fun z1 σ9 => wp_X9_isPure_208 z1 Q σ9) Q g) Q ρ := by
        unfold wp_X9_isPure_153
        rw [nI_clamp (by omega), a7.A (by decide), s49]
        refine ⟨w9, ?_⟩
        cases q : x.2.1 with
        | none => exact br_t rfl (b178 W ρ (by rw [q]; rfl) a7 a8)
        | some l =>
          have hl := k1 l q
          rw [oI_some, nI_clamp (by omega)]
          refine br_f (ni9 (by omega)) ⟨w9, vp_in_nI (by show l < 9; omega) (by decide), ?_⟩
          intro ρ2 e2
          rw [nar_bI] at e2
          refine b178 _ ρ2 rfl (by rw [e2]; exact a7.stA (by simp)) (fun i hi => ?_)
          rw [e2, gA_stA, if_pos rfl, q]
          simp only [wset]
          split
          · rfl
          · exact a8 i hi
      have b117 : wp_X9_isPure_117 (nI f) (nI nd2.length) (bI (W nd2.length || pasS x.1)) (bI (futS x.1)) (wl_X9_isPure_31 (fun z1 σ9 => wp_X9_isPure_208 z1 Q σ9) Q g) Q ρ := by
        unfold wp_X9_isPure_117
        rw [nI_clamp (by omega), a8 _ hlen, a7.A (by decide), s51]
        have no : (W nd2.length && futS x.1 && decide (x.2.2.2 < f)) = false → wp_X9_isPure_152 (nI f) (nI nd2.length) (bI (W nd2.length || pasS x.1)) (wl_X9_isPure_31 (fun z1 σ9 => wp_X9_isPure_208 z1 Q σ9) Q g) Q ρ := by
          intro z
          have : wfst W nd2.length x f = f := by unfold wfst; rw [z]; rfl
          rw [this] at b153
          exact b153
        refine ⟨w9, bI_br (fun z => no (by rw [z]; rfl)) (fun z => bI_br (fun y => no (by rw [z, y]; rfl)) (fun y => ⟨w9, pk_le f x.2.2.2 (fun w => no ?_) (fun w => ⟨w9, ?_⟩)⟩))⟩
        · rw [decide_eq_false (by omega), Bool.and_false]
        · have : wfst W nd2.length x f = x.2.2.2 := by
            unfold wfst
            rw [z, y, decide_eq_true w]; rfl
          rw [this] at b153
          exact b153
      have b80 : wp_X9_isPure_80 (nI f) (nI nd2.length) (nI x.1) (bI (W nd2.length || pasS x.1)) (wl_X9_isPure_31 (fun z1 σ9 => wp_X9_isPure_208 z1 Q σ9) Q g) Q ρ := by
        refine fut_br k3 (fun z => ?_) (fun z => ?_)
        · rw [z] at b117; exact b117
        · rw [z] at b117; exact b117
      have yes : (W nd2.length || pasS x.1) = true → wp_X9_isPure_75 (nI f) (nI nd2.length) (nI x.1) (wl_X9_isPure_31 (fun z1 σ9 => wp_X9_isPure_208 z1 Q σ9) Q g) Q ρ := by
        intro z; rw [z] at b80; exact b80
      refine ⟨w9, bI_rb (fun z => yes (by rw [z]; rfl)) (fun z => pas_br k3 (fun y => yes (by rw [y, Bool.or_true])) (fun y => ?_))⟩
      rw [z, y] at b80
      exact b80
  · intro g i τ hi ⟨fr, hz⟩ hs2
    show wb_X9_isPure_2 _ _ _ _ _
    refine pk_le 9 i (fun z => by omega) (fun _ => ⟨vp_in_nI (by show i < 9; exact hi) (by decide), ?_⟩)
    intro ρ e x ex
    rw [nI_clamp (by omega)] at e
    rw [ex, nI_add]
    refine hs2 ρ ⟨by rw [e]; exact fr.stA (by simp), fun j hj => ?_⟩
    rw [e, gA_stA, if_pos rfl]
    by_cases q : j = i
    · rw [if_pos q]; rfl
    · rw [if_neg q]; exact hz j (by omega)
