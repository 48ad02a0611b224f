/-! ===== keys: the verdict of a key ===== -/
theorem bI_or (a b : Bool) : bI a ||| bI b = bI (a || b) := by cases a <;> cases b <;> decide
theorem bI_t : bI true = nI 1 := rfl
theorem bI_f : bI false = nI 0 := rfl
def vf (m : Nat) (vd : Nat → Nat) : Nat → Option Nat × Bool × Bool × Bool
  | 0 => (none, true, false, false)
  | s + 1 => if m.testBit s then (some (vd s), ((vf m vd s).2.1 && ((vf m vd s).1 == none || (vf m vd s).1 == some (vd s))), ((vf m vd s).2.2.1 || decide (vd s % 2 = 1)), ((vf m vd s).2.2.2 || !decide (vd s % 2 = 1))) else vf m vd s
def vfin (p : Option Nat × Bool × Bool × Bool) : Int32 := if p.2.1 = true then oI p.1 else if p.2.2.1 && p.2.2.2 then nI 4 else if p.2.2.1 then nI 1 else nI 0
def vk (m : Nat) (vd : Nat → Nat) (n : Nat) : Int32 := vfin (vf m vd n)
theorem vf_one {m : Nat} {vd : Nat → Nat} {n : Nat} (hvd : ∀ s, s < n → vd s < 4) : ∀ s, s ≤ n → ∀ d, (vf m vd s).1 = some d → d < 4
  | 0, _, d, h => by cases h
  | s + 1, hs, d, h => by
    simp only [vf] at h
    split at h
    · cases h; exact hvd s (by omega)
    · exact vf_one hvd s (by omega) d h
theorem vf_some {m : Nat} {vd : Nat → Nat} : ∀ s, (vf m vd s).2.1 = false → (vf m vd s).2.2.1 = true ∨ (vf m vd s).2.2.2 = true
  | 0, h => by cases h
  | s + 1, h => by
    simp only [vf] at h ⊢
    split
    · simp only [Bool.or_eq_true, decide_eq_true_eq, Bool.not_eq_true', decide_eq_false_iff_not]
      by_cases q : vd s % 2 = 1
      · exact Or.inl (Or.inr q)
      · exact Or.inr (Or.inr q)
    · rename_i hb
      rw [if_neg hb] at h
      exact vf_some s h
theorem and1 {v : Nat} (hv : v < 4) : nI v &&& nI 1 = nI (v % 2) := pk_andN (by omega) 1 (by decide)
theorem sp_verdictOfX {σ : Sg} {n s : Nat} {to : Nat → Nat → Nat} {vd : Nat → Nat} {ds : Nat → Nat → Option Nat} {Q : Int32 → Sg → Prop} (hM : PMa to vd n) (hX : PXa σ n to vd ds) (hs : s < n) (h : Q (nI (vd s)) σ) : wp_X7_verdictOf (nI s) σ Q := by
  have := hM.1
  refine sp_pick rfl (by show s < 60; omega) ?_
  rw [(hX.2 s hs).1]
  exact h
theorem sp_keepsX {σ : Sg} {n s : Nat} {to : Nat → Nat → Nat} {vd : Nat → Nat} {ds : Nat → Nat → Option Nat} {Q : Int32 → Sg → Prop} (hM : PMa to vd n) (hX : PXa σ n to vd ds) (hs : s < n) (h : Q (bI (decide (vd s % 2 = 1))) σ) : wp_X7_keeps (nI s) σ Q := by
  refine sp_verdictOfX hM hX hs ?_
  have hv := (hM.2.1 s hs).1
  show ((nI (vd s) &&& nI 1) = nI 0 → _) ∧ (_ → _)
  rw [and1 hv]
  by_cases q : vd s % 2 = 1
  · rw [decide_eq_true q] at h
    rw [q]
    exact br_f (by decide) h
  · have e : vd s % 2 = 0 := by omega
    rw [decide_eq_false q] at h
    rw [e]
    exact br_t rfl h
theorem sp_keyX {σ : Sg} {n k : Nat} {mk : Nat → Nat} {to : Nat → Nat → Nat} {vd : Nat → Nat} {ds : Nat → Nat → Option Nat} {Q : Int32 → Sg → Prop} (hM : PMa to vd n) (hX : PXa σ n to vd ds) (hm : gL σ 45 k = lN (mk k)) (hml : mk k < 2 ^ n) (hk : k < 16) (h : Q (vk (mk k) vd n) σ) : wp_X1_verdictOf (nI k) σ Q := by
  have hn := hM.1
  have hm64 : mk k < 2 ^ 64 := Nat.lt_of_lt_of_le hml (Nat.pow_le_pow_right (by decide) (by omega))
  refine sp_pickLong rfl (by show k < 16; omega) ?_
  rw [hm]
  generalize hmm : mk k = m at h hm64 ⊢
  refine lq1 (fun f s (p : Option Nat × Bool × Bool × Bool) => wl_X1_verdictOf_25 (lN m) (fun z5 z6 z7 z8 σ9 => wp_X1_verdictOf_117 z5 z6 z7 z8 Q σ9) Q f (oI p.1) (bI p.2.1) (bI p.2.2.1) (bI p.2.2.2) (nI s) σ) (fun s p => p = vf m vd s) n ?_ ?_ (none, true, false, false) rfl
  · intro f p hp
    show wb_X1_verdictOf_25 _ _ _ _ _ _ _ _ _ _
    show (gF σ 6 4 ≤ nI n → _) ∧ (_ → _)
    rw [hX.1]
    refine pk_le n n (fun _ => ?_) (fun z => by omega)
    show wp_X1_verdictOf_117 _ _ _ _ _ _
    have h1 := vf_some (m := m) (vd := vd) n
    rw [← hp] at h1
    have h2 : Q (vfin p) σ := by rw [hp]; exact h
    obtain ⟨one, same, ak, an⟩ := p
    unfold wp_X1_verdictOf_117
    refine bI_br (fun z => ?_) (fun z => ?_)
    · dsimp only at z h1
      subst z
      refine bI_br (fun z => ?_) (fun z => bI_br (fun y => ?_) (fun y => ?_))
      · dsimp only at z
        subst z
        exact br_t rfl h2
      · dsimp only at z y
        subst z y
        exact br_f (by show ¬ bI true = nI 0; decide) h2
      · dsimp only at z y
        subst z y
        exact h2
    · dsimp only at z
      subst z
      exact h2
  · intro f s p hs hp hs2
    show wb_X1_verdictOf_25 _ _ _ _ _ _ _ _ _ _
    show (gF σ 6 4 ≤ nI s → _) ∧ (_ → _)
    rw [hX.1]
    refine pk_le n s (fun z => by omega) (fun _ => ?_)
    refine sp_hasBit rfl hm64 rfl (by omega) (bI_br (fun hb => ?_) (fun hb => ?_))
    · intro x ex
      rw [ex, nI_add]
      refine hs2 p ?_
      simp only [vf, hb]
      exact hp
    · refine sp_verdictOfX hM hX hs ?_
      have hone := vf_one (m := m) (vd := vd) (fun s hs => (hM.2.1 s hs).1) s (by omega)
      have hv := (hM.2.1 s hs).1
      rw [← hp] at hone
      -- what follows a told 'same'
      have go : ∀ c : Bool, c = (p.2.1 && (p.1 == none || p.1 == some (vd s))) → wp_X1_verdictOf_75 (lN m) (bI p.2.2.1) (bI p.2.2.2) (nI s) (nI (vd s)) (bI c) (fun a1 a2 a3 a4 a5 σ9 => wl_X1_verdictOf_25 (lN m) (fun z5 z6 z7 z8 σ9 => wp_X1_verdictOf_117 z5 z6 z7 z8 Q σ9) Q f a1 a2 a3 a4 a5 σ9) Q σ := by
        intro c hc
        have hf : ((some (vd s) : Option Nat), c, (p.2.2.1 || decide (vd s % 2 = 1)), (p.2.2.2 || !decide (vd s % 2 = 1))) = vf m vd (s + 1) := by
          simp only [vf, hb, if_true]
          rw [hc, hp]
        have h9 := hs2 _ hf
        refine sp_keepsX hM hX hs ?_
        intro x ex
        rw [ex, bI_or]
        refine sp_keepsX hM hX hs (bI_rb (fun z => ?_) (fun z => ?_))
        · intro y ey
          rw [ey, ← bI_f, bI_or]
          intro w ew
          rw [ew, nI_add]
          rw [z, Bool.not_true] at h9
          rw [z]
          exact h9
        · intro y ey
          rw [ey, ← bI_t, bI_or]
          intro w ew
          rw [ew, nI_add]
          rw [z, Bool.not_false] at h9
          rw [z]
          exact h9
      refine bI_br (fun z => go false (by rw [z, Bool.false_and])) (fun z => ?_)
      cases h1 : p.1 with
      | none => exact br_t rfl (go true (by rw [z, h1]; rfl))
      | some d =>
        have hd := hone d h1
        show (nI d = -9 → _) ∧ (_ → _)
        refine br_f (ni9 (by omega)) ⟨fun hne => go false ?_, fun heq => go true ?_⟩
        · rw [z, h1]
          have : ¬ d = vd s := fun e => hne (by rw [e]; rfl)
          simp [this]
        · have : d = vd s := ninj heq (by omega) (by omega)
          rw [z, h1, this]
          simp
theorem sp_keyM {σ : Sg} {n k : Nat} {m : Nat} {to : Nat → Nat → Nat} {vd : Nat → Nat} {Q : Int32 → Sg → Prop} (hM : PMa to vd n) (hO : PMo σ n to vd) (hk : k < 16) (hm : ∀ s, s < 60 → gA σ 79 (60 * k + s) = bI (m.testBit s)) (h : Q (vk m vd n) σ) : wp_X9_verdictOf (nI k) σ Q := by
  have hn := hM.1
  refine lq1 (fun f s (p : Option Nat × Bool × Bool × Bool) => wl_X9_verdictOf_14 (nI k) (fun z2 z3 z4 z5 σ9 => wp_X9_verdictOf_123 z2 z3 z4 z5 Q σ9) Q f (oI p.1) (bI p.2.1) (bI (!p.2.2.2)) (bI (!p.2.2.1)) (nI s) σ) (fun s p => p = vf m vd s) n ?_ ?_ (none, true, false, false) rfl
  · intro f p hp
    show wb_X9_verdictOf_14 _ _ _ _ _ _ _ _ _ _
    unfold wb_X9_verdictOf_14
    rw [hO.1]
    refine pk_le n n (fun _ => ?_) (fun z => by omega)
    have h1 := vf_some (m := m) (vd := vd) n
    rw [← hp] at h1
    have h2 : Q (vfin p) σ := by rw [hp]; exact h
    obtain ⟨one, same, ak, an⟩ := p
    show wp_X9_verdictOf_123 _ _ _ _ _ _
    unfold wp_X9_verdictOf_123
    refine bI_br (fun z => bI_br (fun y => bI_br (fun x => ?_) (fun x => ?_)) (fun y => ?_)) (fun z => ?_)
    · dsimp only at z y x h1
      cases ak <;> cases an <;> simp_all [vfin]
    · dsimp only at z y x h1
      cases ak <;> cases an <;> simp_all [vfin]
    · dsimp only at z y h1
      cases ak <;> cases an <;> simp_all [vfin]
    · dsimp only at z
      subst z
      exact h2
  · intro f s p hs hp hs2
    show wb_X9_verdictOf_14 _ _ _ _ _ _ _ _ _ _
    unfold wb_X9_verdictOf_14
    rw [hO.1]
    refine pk_le n s (fun z => by omega) (fun _ => ?_)
    have i1 : nI 60 * nI k + nI s = nI (60 * k + s) := by rw [pk_mul, nI_add]
    rw [i1, nI_clamp (by omega), nI_clamp (by omega), hm s (by omega), (hO.2.2 s hs).1]
    refine ⟨vp_in_nI (by show _ < 960; omega) (by decide), bI_br (fun hb => ?_) (fun hb => ?_)⟩
    · intro x ex
      rw [ex, nI_add]
      refine hs2 p ?_
      simp only [vf, hb]
      exact hp
    · have hone := vf_one (m := m) (vd := vd) (fun s hs => (hM.2.1 s hs).1) s (by omega)
      have hv := (hM.2.1 s hs).1
      have h72 := (hO.2.2 s hs).2.1
      rw [← hp] at hone
      have go : ∀ c : Bool, c = (p.2.1 && (p.1 == none || p.1 == some (vd s))) → wp_X9_verdictOf_64 (nI k) (bI (!p.2.2.2)) (bI (!p.2.2.1)) (nI s) (bI c) (fun a1 a2 a3 a4 a5 σ9 => wl_X9_verdictOf_14 (nI k) (fun z2 z3 z4 z5 σ9 => wp_X9_verdictOf_123 z2 z3 z4 z5 Q σ9) Q f a1 a2 a3 a4 a5 σ9) Q σ := by
        intro c hc
        have hf : ((some (vd s) : Option Nat), c, (p.2.2.1 || decide (vd s % 2 = 1)), (p.2.2.2 || !decide (vd s % 2 = 1))) = vf m vd (s + 1) := by
          simp only [vf, hb, if_true]
          rw [hc, hp]
        have h9 := hs2 _ hf
        have last : ∀ b d : Bool, b = !(p.2.2.2 || !decide (vd s % 2 = 1)) → d = !(p.2.2.1 || decide (vd s % 2 = 1)) → wp_X9_verdictOf_115 (nI k) (nI (vd s)) (bI c) (bI b) (nI s) (bI d) (fun a1 a2 a3 a4 a5 σ9 => wl_X9_verdictOf_14 (nI k) (fun z2 z3 z4 z5 σ9 => wp_X9_verdictOf_123 z2 z3 z4 z5 Q σ9) Q f a1 a2 a3 a4 a5 σ9) Q σ := by
          intro b d hb2 hd2 x ex
          rw [ex, nI_add, hb2, hd2]
          exact h9
        have mid : ∀ b : Bool, b = !(p.2.2.2 || !decide (vd s % 2 = 1)) → wp_X9_verdictOf_93 (nI k) (nI (vd s)) (bI c) (bI (!p.2.2.1)) (nI s) (bI b) (fun a1 a2 a3 a4 a5 σ9 => wl_X9_verdictOf_14 (nI k) (fun z2 z3 z4 z5 σ9 => wp_X9_verdictOf_123 z2 z3 z4 z5 Q σ9) Q f a1 a2 a3 a4 a5 σ9) Q σ := by
          intro b hb2
          unfold wp_X9_verdictOf_93
          rw [nI_clamp (by omega), h72]
          refine bI_br (fun z => last b false hb2 ?_) (fun z => ⟨vp_in_nI (by show s < 60; omega) (by decide), bI_rb (fun y => last b false hb2 ?_) (fun y => last b true hb2 ?_)⟩)
          · rw [Bool.not_eq_false'] at z; rw [z]; rfl
          · rw [y, Bool.or_true]; rfl
          · rw [Bool.not_eq_true'] at z; rw [y, z]; rfl
        unfold wp_X9_verdictOf_64
        rw [nI_clamp (by omega), (hO.2.2 s hs).1, h72]
        refine ⟨vp_in_nI (by show s < 60; omega) (by decide), ?_⟩
        intro x ex
        subst ex
        refine bI_br (fun z => mid false ?_) (fun z => ⟨vp_in_nI (by show s < 60; omega) (by decide), bI_br (fun y => mid false ?_) (fun y => mid true ?_)⟩)
        · rw [Bool.not_eq_false'] at z; rw [z]; rfl
        · rw [y, Bool.not_false, Bool.or_true]; rfl
        · rw [Bool.not_eq_true'] at z; rw [y, z]; rfl
      refine bI_br (fun z => go false (by rw [z, Bool.false_and])) (fun z => ?_)
      cases h1 : p.1 with
      | none => exact br_t rfl (go true (by rw [z, h1]; rfl))
      | some d =>
        have hd := hone d h1
        show (nI d = -9 → _) ∧ (_ → _)
        refine br_f (ni9 (by omega)) ⟨vp_in_nI (by show s < 60; omega) (by decide), ⟨fun hne => go false ?_, fun heq => go true ?_⟩⟩
        · rw [z, h1]
          have : ¬ d = vd s := fun e => hne (by rw [e]; rfl)
          simp [this]
        · have : d = vd s := ninj heq (by omega) (by omega)
          rw [z, h1, this]
          simp
