/-! ===== read: the class's look for a PAST fault; the reference's parse ===== -/
theorem sp_looksBehind {c : Nat} {x : Int32} {σ : Sg} {Q : Int32 → Sg → Prop} (hx : x = nI c) (hc : c < 256) (h : Q (bI (futS c)) σ) : wp_X6_looksBehind x σ Q := by
  subst hx
  refine fut_br hc (fun z => ?_) (fun z => ?_)
  · rw [z] at h; exact h
  · rw [z] at h; exact h
theorem sp_looksAhead {c : Nat} {x : Int32} {σ : Sg} {Q : Int32 → Sg → Prop} (hx : x = nI c) (hc : c < 256) (h : Q (bI (pasS c)) σ) : wp_X6_looksAhead x σ Q := by
  subst hx
  refine pas_br hc (fun z => ?_) (fun z => ?_)
  · rw [z] at h; exact h
  · rw [z] at h; exact h
theorem m9neg : (-9 : Int32) < nI 0 := by decide
/-- setting a child, if there is one -/
theorem sp_setChild {σ : Sg} {W : Nat → Bool} {l : Option Nat} {x v : Int32} {n : Nat} {Q : Sg → Prop} (hx : x = oI l) (hv : v = nI 1) (hl : ∀ k, l = some k → k < n) (hn : n ≤ 9) (h18 : ∀ i, i < 9 → gA σ 18 i = bI (W i)) (h : ∀ σ1, Fr [] [18] σ σ1 → (∀ i, i < 9 → gA σ1 18 i = bI (wset W true l i)) → Q σ1) : wp_X8_set 18 x v σ Q := by
  cases l with
  | none =>
    refine sp_setO (by rw [hx]; exact m9neg) (h σ Fr.rf h18)
  | some k =>
    have := hl k rfl
    refine sp_set (k := k) (b := true) hx (by show k < 9; omega) hv (h _ (Fr.rf.stA (by simp)) (fun i hi => ?_))
    rw [gA_stA, if_pos rfl]
    simp only [wset]
    split
    · rfl
    · exact h18 i hi
theorem sp_firstPast {σ : Sg} {nd : List NdT} {Q : Int32 → Sg → Prop} (hn : nd.length ≤ 9) (h4 : gF σ 2 6 = nI nd.length) (hA : ndsA (gA σ 13) (gA σ 14) (gA σ 15) (gA σ 16) nd) (hk : kidsLt nd) (hc : ∀ x, (kids nd).count x ≤ 1) (h : ∀ σ', Fr [] [18] σ σ' → Q (if ipf nd (fun _ => false) 99 = 99 then -9 else nI (ipf nd (fun _ => false) 99)) σ') : wp_X6_firstPastFault σ Q := by
  refine lq1 (fun g i (τ : Sg) => wl_X6_firstPastFault_5 (-9) (fun σ9 => wp_X6_firstPastFault_28 (-9) Q σ9) Q g (nI i) τ) (fun i τ => Fr [] [18] σ τ ∧ ∀ j, j < i → gA τ 18 j = nI 0) nd.length ?_ ?_ σ ⟨Fr.rf, fun j hj => by omega⟩
  · intro g τ ⟨fr, hz⟩
    show wb_X6_firstPastFault_5 _ _ _ _ _ _
    unfold wb_X6_firstPastFault_5
    rw [fr.F (by decide), h4]
    refine pk_le nd.length nd.length (fun _ => ?_) (fun z => by omega)
    intro x30 e30
    have e31 : x30 = nI nd.length + (-1 : Int32) := by
      rw [e30, fr.F (by decide), h4, Int32.sub_eq_add_neg]; rfl
    subst e31
    clear e30
    refine loop_m (σ := List NdT × (Nat → Bool) × Nat × Sg) (fun g a => wl_X6_firstPastFault_35 Q g (if a.2.2.1 = 99 then -9 else nI a.2.2.1) (nI a.1.length + (-1 : Int32)) a.2.2.2) (fun a => a.1.length ≤ nd.length ∧ ndsA (gA σ 13) (gA σ 14) (gA σ 15) (gA σ 16) a.1 ∧ kidsLt a.1 ∧ Wok a.2.1 a.1 ∧ (a.2.2.1 = 99 ∨ a.2.2.1 < 60) ∧ ipf a.1 a.2.1 a.2.2.1 = ipf nd (fun _ => false) 99 ∧ Fr [] [18] σ a.2.2.2 ∧ ∀ i, i < nd.length → gA a.2.2.2 18 i = bI (a.2.1 i)) (fun a => a.1.length) ?_ (nd, (fun _ => false), 99, τ) ⟨Nat.le_refl _, hA, hk, ⟨fun l _ => rfl, hc⟩, Or.inl rfl, rfl, fr, fun i hi => hz i hi⟩
    rintro g ⟨nd1, W, f, ρ⟩ ⟨a1, a2, a3, a4, a5, a6, a7, a8⟩ hs
    simp only at a1 a2 a3 a4 a5 a6 a7 a8 hs ⊢
    show wb_X6_firstPastFault_35 _ _ _ _ _
    match nd1, a1, a2, a3, a4, a6, hs with
    | [], a1, a2, a3, a4, a6, hs =>
      refine br_t m1neg ?_
      have e : f = ipf nd (fun _ => false) 99 := a6
      rw [e]
      exact h ρ a7
    | x :: nd2, a1, a2, a3, a4, a6, hs =>
      have hlen : nd2.length < nd.length := by simp only [List.length_cons] at a1; omega
      rw [List.length_cons, nIm1 (by omega), Nat.add_sub_cancel]
      obtain ⟨⟨s13, s14, s15, s16⟩, a2'⟩ := a2
      obtain ⟨k1, k2, k3, k4, k5⟩ := a3
      have w9 : ∀ q, aN q = 9 → nd2.length < aN q := fun q e => by rw [e]; omega
      refine br_f (nI_nlt (Nat.zero_le _) (by omega)) ?_
      refine sp_pick (k := nd2.length) rfl (w9 13 rfl) ?_
      rw [a7.A (by decide), s13]
      refine sp_isSet rfl (w9 18 rfl) (a8 _ hlen) ?_
      have hw := wst_eq a4
      -- behind the children
      have b98 : ∀ ρ2 : Sg, Fr [] [18] σ ρ2 → (∀ i, i < nd.length → gA ρ2 18 i = bI (wst W nd2.length x i)) → wp_X6_firstPastFault_98 (if f = 99 then -9 else nI f) (nI nd2.length) (nI x.1) (wl_X6_firstPastFault_35 Q g) Q ρ2 := by
        intro ρ2 fr2 h18
        have hself : wst W nd2.length x nd2.length = W nd2.length := by
          unfold wst
          have e1 : (x.2.1 == some nd2.length) = false := by
            cases q : x.2.1 with
            | none => rfl
            | some l => have := k1 l q; simpa using (show ¬ l = nd2.length by omega)
          have e2 : (x.2.2.1 == some nd2.length) = false := by
            cases q : x.2.2.1 with
            | none => rfl
            | some l => have := k2 l q; simpa using (show ¬ l = nd2.length by omega)
          rw [e1, e2]; simp
        have nxt : ∀ f2, f2 = wfst W nd2.length x f → wl_X6_firstPastFault_35 Q g (if f2 = 99 then -9 else nI f2) (nI nd2.length + (-1 : Int32)) ρ2 := by
          intro f2 e
          subst e
          exact hs (nd2, wst W nd2.length x, wfst W nd2.length x f, ρ2) ⟨Nat.le_of_lt hlen, a2', k5, a4.st, wfst_ok k4 a5, a6, fr2, h18⟩ (Nat.lt_succ_self _)
        have no : (W nd2.length && futS x.1 && decide (x.2.2.2 < f)) = false → wp_X6_firstPastFault_141 (if f = 99 then -9 else nI f) (nI nd2.length) (wl_X6_firstPastFault_35 Q g) Q ρ2 := by
          intro z y ey
          rw [ey]
          exact nxt f (by unfold wfst; rw [z]; rfl)
        refine sp_pick (k := nd2.length) rfl (w9 16 rfl) ?_
        rw [fr2.A (by decide), s16]
        refine sp_isSet rfl (w9 18 rfl) (h18 _ hlen) ?_
        rw [hself]
        refine bI_br (fun z => no (by rw [z]; rfl)) (fun z => sp_looksBehind rfl k3 (bI_br (fun y => no (by rw [z, y]; rfl)) (fun y => ?_)))
        have yes : x.2.2.2 < f → wp_X6_firstPastFault_138 (nI nd2.length) (nI x.2.2.2) (wl_X6_firstPastFault_35 Q g) Q ρ2 := by
          intro w v ev
          rw [ev]
          have := nxt x.2.2.2 (by unfold wfst; rw [z, y, decide_eq_true w]; rfl)
          rw [if_neg (show ¬ x.2.2.2 = 99 by omega)] at this
          exact this
        by_cases q : f = 99
        · rw [if_pos q]
          exact br_t rfl (yes (by omega))
        · rw [if_neg q]
          rw [if_neg q] at no
          refine br_f (ni9 (by omega)) (pk_le f x.2.2.2 (fun w => no ?_) (fun w => yes w))
          rw [decide_eq_false (by omega), Bool.and_false]
      have skip : (W nd2.length || pasS x.1) = false → wp_X6_firstPastFault_98 (if f = 99 then -9 else nI f) (nI nd2.length) (nI x.1) (wl_X6_firstPastFault_35 Q g) Q ρ := by
        intro z
        refine b98 ρ a7 (fun i hi => ?_)
        have : wst W nd2.length x i = W i := by unfold wst; rw [z]; simp
        rw [this]; exact a8 i hi
      have doit : (W nd2.length || pasS x.1) = true → wp_X6_firstPastFault_66 (if f = 99 then -9 else nI f) (nI nd2.length) (nI x.1) (wl_X6_firstPastFault_35 Q g) Q ρ := by
        intro z
        rw [z] at hw
        refine sp_pick (k := nd2.length) rfl (w9 14 rfl) ?_
        rw [a7.A (by decide), s14]
        have setc : ∀ (κ : Sg) (V : Nat → Bool) (l : Option Nat) (P : Sg → Prop), (∀ k, l = some k → k < nd2.length) → (∀ i, i < nd.length → gA κ 18 i = bI (V i)) → (∀ κ1, Fr [] [18] κ κ1 → (∀ i, i < nd.length → gA κ1 18 i = bI (wset V true l i)) → P κ1) → wp_X8_set 18 (oI l) (nI 1) κ P := by
          intro κ V l P hl h18 hP
          cases l with
          | none => exact sp_setO m9neg (hP κ Fr.rf h18)
          | some k =>
            have := hl k rfl
            refine sp_set (k := k) (b := true) rfl (by show k < 9; omega) rfl (hP _ (Fr.rf.stA (by simp)) (fun i hi => ?_))
            rw [gA_stA, if_pos rfl]
            simp only [wset]
            split
            · rfl
            · exact h18 i hi
        refine setc ρ W x.2.1 _ k1 a8 (fun ρ1 fr1 h1 => ?_)
        refine sp_pick (k := nd2.length) rfl (w9 15 rfl) ?_
        rw [fr1.A (by decide), a7.A (by decide), s15]
        refine setc ρ1 _ x.2.2.1 _ k2 h1 (fun ρ2 fr2 h2 => ?_)
        exact b98 ρ2 ((a7.tr fr1).tr fr2) (fun i hi => by rw [hw]; exact h2 i hi)
      refine bI_rb (fun z => doit (by rw [z]; rfl)) (fun z => sp_looksAhead rfl k3 (bI_br (fun y => skip (by rw [z, y]; rfl)) (fun y => doit (by rw [y, Bool.or_true]))))
  · intro g i τ hi ⟨fr, hz⟩ hs2
    show wb_X6_firstPastFault_5 _ _ _ _ _ _
    unfold wb_X6_firstPastFault_5
    rw [fr.F (by decide), h4]
    refine pk_le nd.length i (fun z => by omega) (fun _ => ?_)
    refine sp_set (k := i) (b := false) rfl (by show i < 9; omega) rfl ?_
    intro x ex
    rw [ex, nI_add]
    refine hs2 _ ⟨fr.stA (by simp), fun j hj => ?_⟩
    rw [gA_stA, if_pos rfl]
    by_cases q : j = i
    · rw [if_pos q]; rfl
    · rw [if_neg q]; exact hz j (by omega)
def s0P : PSt := (0, 0, true, [], [], [])
theorem pip_0 : PIp s0P := by
  refine ⟨⟨fun x => ?_, trivial, fun h => absurd rfl h⟩, rfl, fun x hx => (by cases hx), rfl, by decide, rfl, by decide⟩
  exact Nat.zero_le _
theorem sp_parse {σ : Sg} {nb : Nat} {tp : Nat → Nat} {Q : Int32 → Sg → Prop} (hnb : nb ≤ 60) (h1 : gF σ 10 1 = nI nb) (hT : ∀ i, i < nb → tp i < 256 ∧ gA σ 47 i = sby (tp i)) (hF : ∀ f σ', PR tp nb 0 s0P = .inl f → f ≤ nb → Fr [10] [48, 49, 50, 51, 52, 53, 54] σ σ' → (∀ k, k ∉ [2, 3, 4, 9, 11] → gF σ' 10 k = gF σ 10 k) → gF σ' 10 2 = nI 1 → gF σ' 10 3 = nI f → Q (nI 0) σ') (hN : ∀ nd op σ', PR tp nb 0 s0P = .inr nd → Gnd nd op → 0 < nd.length → nd.length ≤ 9 → RPn σ σ' nd op [] → wp_X9_isPure σ' (fun r σ3 => (bl r ∧ Q r σ3))) : wp_X9_parse σ Q := by
  intro σ1 e1 σ2 e2 σ3 e3
  have hR0 : RPn σ σ3 [] [] [] := by
    refine ⟨?_, ?_, ?_, ?_, ?_, trivial, trivial, trivial⟩
    · rw [e3, e2, e1]; exact ((Fr.rf.stF (by simp)).stF (by simp)).stF (by simp)
    · intro k hk
      simp only [List.mem_cons, List.not_mem_nil, or_false, not_or] at hk
      rw [e3, gF_stF, if_pos rfl, if_neg hk.2.2, e2, gF_stF, if_pos rfl, if_neg hk.2.1, e1, gF_stF, if_pos rfl, if_neg hk.1]
    · rw [e3, gF_stF, if_pos rfl, if_neg (by decide), e2, gF_stF, if_pos rfl, if_neg (by decide), e1, gF_stF, if_pos rfl, if_pos rfl]; rfl
    · rw [e3, gF_stF, if_pos rfl, if_neg (by decide), e2, gF_stF, if_pos rfl, if_pos rfl]; rfl
    · rw [e3, gF_stF, if_pos rfl, if_pos rfl]; rfl
  clear e1 e2 e3
  have fail : ∀ f τ nd op wt, RPn σ τ nd op wt → PR tp nb 0 s0P = .inl f → f ≤ nb → ∀ x, x = nI f → wp_X9_fail x τ (fun r1 σ2 => (bl r1 ∧ Q r1 σ2)) := by
    intro f τ nd op wt hR hP hf x hx τ1 q1 τ2 q2
    refine ⟨bl_0, hF f τ2 hP hf ?_ ?_ ?_ ?_⟩
    · rw [q2, q1]; exact (hR.1.stF (by simp)).stF (by simp)
    · intro k hk
      simp only [List.mem_cons, List.not_mem_nil, or_false, not_or] at hk
      rw [q2, gF_stF, if_pos rfl, if_neg hk.2.1, q1, gF_stF, if_pos rfl, if_neg hk.1]
      exact hR.2.1 k (by simp [hk])
    · rw [q2, gF_stF, if_pos rfl, if_neg (by decide), q1, gF_stF, if_pos rfl, if_pos rfl]
    · rw [q2, gF_stF, if_pos rfl, if_pos rfl, hx]
  refine loop_0 (σ := PSt × Sg) (fun g k a => wl_X9_parse_24 (fun z4 σ9 => wp_X9_parse_205 z4 Q σ9) (fun z2 z3 σ9 => wp_X9_parse_342 z2 z3 Q σ9) Q g (nI a.1.1) (nI a.1.2.1) (bI a.1.2.2.1) (nI k) a.2) (fun k a => PIp a.1 ∧ RPn σ a.2 a.1.2.2.2.1 a.1.2.2.2.2.1 a.1.2.2.2.2.2 ∧ PR tp nb k a.1 = PR tp nb 0 s0P) nb (s0P, σ3) ⟨pip_0, hR0, rfl⟩ ?_ ?_
  · rintro g ⟨s, τ⟩ ⟨hI, hR, hE⟩
    simp only at hI hR hE ⊢
    show wb_X9_parse_24 _ _ _ _ _ _ _ _ _
    unfold wb_X9_parse_24
    rw [hR.2.1 1 (by decide), h1]
    refine pk_le nb nb (fun _ => ?_) (fun z => by omega)
    rw [PR_end] at hE
    show wp_X9_parse_342 _ _ _ _
    unfold wp_X9_parse_342
    have bad : PR tp nb 0 s0P = .inl nb → wp_X9_parse_350 Q τ := by
      intro hb
      unfold wp_X9_parse_350
      exact fail nb τ _ _ _ hR hb (Nat.le_refl nb) _ (by rw [hR.2.1 1 (by decide), h1])
    obtain ⟨told, opn, wanted, nd, op, wt⟩ := s
    simp only at hR hE bad ⊢
    have i7 : opn ≤ 8 := hI.2.2.2.2.2.2
    refine bI_rb (fun z => bad (by rw [← hE, if_pos (Or.inl z)])) (fun z => ?_)
    refine pk_le opn 0 (fun q => ?_) (fun q => bad (by rw [← hE, if_pos (Or.inr q)]))
    subst z
    have hop : opn = 0 := by omega
    subst hop
    rw [if_neg (fun w => w.elim (fun w => by cases w) (fun w => absurd w (Nat.lt_irrefl 0)))] at hE
    have hli := PIp.li hI
    have hp6 : parn wt = 0 := hI.2.2.2.2.2.1
    refine sp_reduceTo (c := 0) rfl (by decide) hR hli (fun σ4 r4 => ?_)
    have hr0 : rnk 0 = 0 := by decide
    rw [hr0] at r4
    have hr := rdt_ok (own := 0) wt nd op hli.1 hli.2.1 hli.2.2.1
    have hni := rdt0_nil (wt := wt) nd op hp6
    rw [hni] at r4 hr
    have hlen : (rdt 0 wt nd op).2.1.length = 1 := hr.2.1
    have hnd : (rdt 0 wt nd op).1.length ≤ 9 := by
      have := hr.2.2.2.1
      have h9 := hli.2.2.2.1
      simp only [pend] at this
      omega
    have hpos : 0 < (rdt 0 wt nd op).1.length := by
      match q : (rdt 0 wt nd op).2.1, hlen with
      | b :: _, _ =>
        have hg := hr.1
        rw [q] at hg
        have := Gnd_ne hg
        omega
    exact hN _ _ σ4 hE.symm hr.1 hpos hnd r4
  · rintro g k ⟨s, τ⟩ hk ⟨hI, hR, hE⟩ hs2
    simp only at hI hR hE hs2 ⊢
    show wb_X9_parse_24 _ _ _ _ _ _ _ _ _
    obtain ⟨t1, t2⟩ := hT k hk
    refine sp_byte hI hR hk hnb t1 (by rw [hR.2.1 1 (by decide)]; exact h1) (by rw [hR.1.A (by decide)]; exact t2) (fun hp => ?_) (fun s' σ' hp hR' => ?_)
    · rw [PR_fail hk hp] at hE
      show wp_X9_parse_205 _ _ _
      unfold wp_X9_parse_205
      exact fail k τ _ _ _ hR hE.symm (by omega) _ rfl
    · rw [PR_step hk hp] at hE
      exact hs2 (s', σ') ⟨pstp_ok hI (by omega) t1 hp, hR', hE⟩
