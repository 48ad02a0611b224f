/-! ===== the pure part: what the wp's say. State reads, small rows ===== -/
def bI (b : Bool) : Int32 := if b then nI 1 else nI 0
theorem bI_0 {b : Bool} : bI b = nI 0 ↔ b = false := by cases b <;> decide
theorem bI_1 {b : Bool} : bI b = nI 1 ↔ b = true := by cases b <;> decide
theorem bI_bl (b : Bool) : bl (bI b) := by
  cases b
  · exact bl_0
  · exact bl_1
theorem gF_stF {σ : Sg} {o k : Nat} {v : Int32} {a b : Nat} : gF (stF σ o k v) a b = if a = o then (if b = k then v else gF σ a b) else gF σ a b := rfl
theorem gF_stF_row {σ : Sg} {o k : Nat} {v : Int32} {a : Nat} (h : a ≠ o) : gF (stF σ o k v) a = gF σ a := up2_row h
theorem gF_stA {σ : Sg} {o k : Nat} {v : Int32} : gF (stA σ o k v) = gF σ := rfl
theorem gF_stL {σ : Sg} {o k : Nat} {v : Int64} : gF (stL σ o k v) = gF σ := rfl
theorem gF_stR {σ : Sg} {o k : Nat} {v : Nat} : gF (stR σ o k v) = gF σ := rfl
theorem gA_stA {σ : Sg} {o k : Nat} {v : Int32} {a b : Nat} : gA (stA σ o k v) a b = if a = o then (if b = k then v else gA σ a b) else gA σ a b := rfl
theorem gA_stA_row {σ : Sg} {o k : Nat} {v : Int32} {a : Nat} (h : a ≠ o) : gA (stA σ o k v) a = gA σ a := up2_row h
theorem gA_stF {σ : Sg} {o k : Nat} {v : Int32} : gA (stF σ o k v) = gA σ := rfl
theorem gA_stL {σ : Sg} {o k : Nat} {v : Int64} : gA (stL σ o k v) = gA σ := rfl
theorem gA_stR {σ : Sg} {o k : Nat} {v : Nat} : gA (stR σ o k v) = gA σ := rfl
theorem gL_stL {σ : Sg} {o k : Nat} {v : Int64} {a b : Nat} : gL (stL σ o k v) a b = if a = o then (if b = k then v else gL σ a b) else gL σ a b := rfl
theorem gL_stL_row {σ : Sg} {o k : Nat} {v : Int64} {a : Nat} (h : a ≠ o) : gL (stL σ o k v) a = gL σ a := up2_row h
theorem gL_stF {σ : Sg} {o k : Nat} {v : Int32} : gL (stF σ o k v) = gL σ := rfl
theorem gL_stA {σ : Sg} {o k : Nat} {v : Int32} : gL (stA σ o k v) = gL σ := rfl
theorem gL_stR {σ : Sg} {o k : Nat} {v : Nat} : gL (stR σ o k v) = gL σ := rfl
theorem gR_stR {σ : Sg} {o k : Nat} {v : Nat} {a b : Nat} : gR (stR σ o k v) a b = if a = o then (if b = k then v else gR σ a b) else gR σ a b := rfl
theorem gR_stF {σ : Sg} {o k : Nat} {v : Int32} : gR (stF σ o k v) = gR σ := rfl
theorem gR_stA {σ : Sg} {o k : Nat} {v : Int32} : gR (stA σ o k v) = gR σ := rfl
theorem gR_stL {σ : Sg} {o k : Nat} {v : Int64} : gR (stL σ o k v) = gR σ := rfl
theorem gF_stC {σ : Sg} {a b : Nat} {x y z : Int32} : gF (stC σ a b x y z) = gF σ := rfl
theorem gL_stC {σ : Sg} {a b : Nat} {x y z : Int32} : gL (stC σ a b x y z) = gL σ := rfl
theorem gR_stC {σ : Sg} {a b : Nat} {x y z : Int32} : gR (stC σ a b x y z) = gR σ := rfl
theorem gA_stC_row {σ : Sg} {a b c : Nat} {x y z : Int32} (h : c ≠ b) : gA (stC σ a b x y z) c = gA σ c := by
  funext q
  show (if c = b then _ else σ.2.1 c) q = σ.2.1 c q
  rw [if_neg h]
theorem aN_small (q : Nat) : aN q ≤ 33300 := by
  unfold aN
  rw [List.getD_eq_getElem?_getD]
  cases h : lyAL[q - 11]? with
  | none => exact Nat.zero_le _
  | some x =>
    have h1 : ∀ y ∈ lyAL, y ≤ 33300 := by decide
    exact h1 x (List.mem_of_getElem? h)
/-- what may have changed: fields of the objects fo, rows of the cells fc -/
def Fr (fo fc : List Nat) (σ σ' : Sg) : Prop := (∀ o, o ∉ fo → gF σ' o = gF σ o ∧ gR σ' o = gR σ o) ∧ ∀ c, c ∉ fc → gA σ' c = gA σ c ∧ gL σ' c = gL σ c
theorem Fr.rf {fo fc : List Nat} {σ : Sg} : Fr fo fc σ σ := ⟨fun _ _ => ⟨rfl, rfl⟩, fun _ _ => ⟨rfl, rfl⟩⟩
theorem Fr.tr {fo fc : List Nat} {σ σ1 σ2 : Sg} (h1 : Fr fo fc σ σ1) (h2 : Fr fo fc σ1 σ2) : Fr fo fc σ σ2 :=
  ⟨fun o h => ⟨(h2.1 o h).1.trans (h1.1 o h).1, (h2.1 o h).2.trans (h1.1 o h).2⟩, fun c h => ⟨(h2.2 c h).1.trans (h1.2 c h).1, (h2.2 c h).2.trans (h1.2 c h).2⟩⟩
theorem Fr.mono {fo fc fo' fc' : List Nat} {σ σ1 : Sg} (h : Fr fo fc σ σ1) (h1 : ∀ x ∈ fo, x ∈ fo') (h2 : ∀ x ∈ fc, x ∈ fc') : Fr fo' fc' σ σ1 := ⟨fun o ho => h.1 o (fun z => ho (h1 o z)), fun c hc => h.2 c (fun z => hc (h2 c z))⟩
theorem Fr.stF {fo fc : List Nat} {σ σ1 : Sg} {o k : Nat} {v : Int32} (h : Fr fo fc σ σ1) (ho : o ∈ fo) : Fr fo fc σ (stF σ1 o k v) :=
  h.tr ⟨fun a ha => ⟨gF_stF_row (fun z => ha (z ▸ ho)), rfl⟩, fun _ _ => ⟨rfl, rfl⟩⟩
theorem Fr.stR {fo fc : List Nat} {σ σ1 : Sg} {o k : Nat} {v : Nat} (h : Fr fo fc σ σ1) (ho : o ∈ fo) : Fr fo fc σ (stR σ1 o k v) :=
  h.tr ⟨fun a ha => ⟨rfl, up2_row (fun z => ha (z ▸ ho))⟩, fun _ _ => ⟨rfl, rfl⟩⟩
theorem Fr.stA {fo fc : List Nat} {σ σ1 : Sg} {c k : Nat} {v : Int32} (h : Fr fo fc σ σ1) (hc : c ∈ fc) : Fr fo fc σ (stA σ1 c k v) :=
  h.tr ⟨fun _ _ => ⟨rfl, rfl⟩, fun a ha => ⟨gA_stA_row (fun z => ha (z ▸ hc)), rfl⟩⟩
theorem Fr.stL {fo fc : List Nat} {σ σ1 : Sg} {c k : Nat} {v : Int64} (h : Fr fo fc σ σ1) (hc : c ∈ fc) : Fr fo fc σ (stL σ1 c k v) :=
  h.tr ⟨fun _ _ => ⟨rfl, rfl⟩, fun a ha => ⟨rfl, gL_stL_row (fun z => ha (z ▸ hc))⟩⟩
theorem Fr.stC {fo fc : List Nat} {σ σ1 : Sg} {c d : Nat} {x y z : Int32} (h : Fr fo fc σ σ1) (hc : d ∈ fc) : Fr fo fc σ (stC σ1 c d x y z) :=
  h.tr ⟨fun _ _ => ⟨rfl, rfl⟩, fun a ha => ⟨gA_stC_row (fun z => ha (z ▸ hc)), rfl⟩⟩
theorem Fr.F {fo fc : List Nat} {σ σ1 : Sg} (h : Fr fo fc σ σ1) {o : Nat} (ho : o ∉ fo) : gF σ1 o = gF σ o := (h.1 o ho).1
theorem Fr.R {fo fc : List Nat} {σ σ1 : Sg} (h : Fr fo fc σ σ1) {o : Nat} (ho : o ∉ fo) : gR σ1 o = gR σ o := (h.1 o ho).2
theorem Fr.A {fo fc : List Nat} {σ σ1 : Sg} (h : Fr fo fc σ σ1) {c : Nat} (hc : c ∉ fc) : gA σ1 c = gA σ c := (h.2 c hc).1
theorem Fr.L {fo fc : List Nat} {σ σ1 : Sg} (h : Fr fo fc σ σ1) {c : Nat} (hc : c ∉ fc) : gL σ1 c = gL σ c := (h.2 c hc).2
-- numbers
theorem ni9 {k : Nat} (h : k < 2 ^ 31) : ¬ nI k = (-9 : Int32) := by
  intro e
  have h1 := congrArg Int32.toInt e
  rw [nI_toInt h] at h1
  have h2 : (-9 : Int32).toInt = -9 := by decide
  omega
theorem ninj {a b : Nat} (h : nI a = nI b) (ha : a < 2 ^ 31) (hb : b < 2 ^ 31) : a = b := (nI_eq ha hb).mp h
/-- any int is below 0 or a number -/
theorem ni_cases (x : Int32) : x < nI 0 ∨ ∃ k : Nat, k < 2 ^ 31 ∧ x = nI k := by
  rcases pk_ix x (n := 0) (by omega) with h | h | ⟨j, hj, -⟩
  · exact Or.inl h
  · exact Or.inr (nI_of (by
      intro hx
      have h1 : (0 : Int32) ≤ x := h
      exact absurd hx (Int32.not_lt.mpr h1)))
  · omega
theorem neg_not_in {x : Int32} (h : x < nI 0) {k : Nat} (hk : k < 2 ^ 31) : x < nI k := by
  rw [Int32.lt_iff_toInt_lt] at h ⊢
  have h0 : (nI 0).toInt = 0 := by decide
  rw [h0] at h
  rw [nI_toInt hk]
  omega
theorem neg_ne {x : Int32} (h : x < nI 0) {k : Nat} (hk : k < 2 ^ 31) : ¬ x = nI k := by
  intro e
  subst e
  exact nI_pos hk h
-- branches known
theorem sp_pick {q k : Nat} {i : Int32} {σ : Sg} {Q : Int32 → Sg → Prop} (hi : i = nI k) (hk : k < aN q) (h : Q (gA σ q k) σ) : wp_X8_pick q i σ Q := by
  have hq := aN_small q
  subst hi
  refine br_f (nI_nlt (Nat.zero_le k) (by omega)) (br_f (nI_ge hk (by omega)) ⟨vp_in_nI hk (by omega), ?_⟩)
  rw [nI_clamp (by omega)]
  exact h
theorem sp_pickO {q k : Nat} {i : Int32} {σ : Sg} {Q : Int32 → Sg → Prop} (hi : i < nI 0 ∨ (i = nI k ∧ aN q ≤ k ∧ k < 2 ^ 31)) (h : Q (-9) σ) : wp_X8_pick q i σ Q := by
  rcases hi with hi | ⟨rfl, h1, h2⟩
  · exact br_t hi h
  · exact br_f (nI_nlt (Nat.zero_le k) h2) (br_t (nI_le h1 h2) h)
theorem sp_put {q k : Nat} {i v : Int32} {σ : Sg} {Q : Sg → Prop} (hi : i = nI k) (hk : k < aN q) (h : Q (stA σ q k v)) : wp_X8_put q i v σ Q := by
  have hq := aN_small q
  subst hi
  refine br_f (nI_nlt (Nat.zero_le k) (by omega)) (br_f (nI_ge hk (by omega)) ⟨vp_in_nI hk (by omega), ?_⟩)
  rw [nI_clamp (by omega)]
  intro s1 e
  rw [e]
  exact h
theorem sp_pickLong {q k : Nat} {i : Int32} {σ : Sg} {Q : Int64 → Sg → Prop} (hi : i = nI k) (hk : k < aN q) (h : Q (gL σ q k) σ) : wp_X8_pickLong q i σ Q := by
  have hq := aN_small q
  subst hi
  refine br_f (nI_nlt (Nat.zero_le k) (by omega)) (br_f (nI_ge hk (by omega)) ⟨vp_in_nI hk (by omega), ?_⟩)
  rw [nI_clamp (by omega)]
  exact h
theorem sp_putLong {q k : Nat} {i : Int32} {v : Int64} {σ : Sg} {Q : Sg → Prop} (hi : i = nI k) (hk : k < aN q) (h : Q (stL σ q k v)) : wp_X8_putLong q i v σ Q := by
  have hq := aN_small q
  subst hi
  refine br_f (nI_nlt (Nat.zero_le k) (by omega)) (br_f (nI_ge hk (by omega)) ⟨vp_in_nI hk (by omega), ?_⟩)
  rw [nI_clamp (by omega)]
  intro s1 e
  rw [e]
  exact h
theorem sp_isSet {q k : Nat} {i : Int32} {b : Bool} {σ : Sg} {Q : Int32 → Sg → Prop} (hi : i = nI k) (hk : k < aN q) (hb : gA σ q k = bI b) (h : Q (bI b) σ) : wp_X8_isSet q i σ Q := by
  have hq := aN_small q
  subst hi
  refine br_f (nI_nlt (Nat.zero_le k) (by omega)) (br_f (nI_ge hk (by omega)) ⟨vp_in_nI hk (by omega), ?_⟩)
  rw [nI_clamp (by omega), hb]
  cases b
  · exact br_t rfl h
  · exact br_f (by decide) h
theorem sp_isSetO {q : Nat} {i : Int32} {σ : Sg} {Q : Int32 → Sg → Prop} (hi : i < nI 0) (h : Q (nI 0) σ) : wp_X8_isSet q i σ Q := br_t hi h
theorem nar_bI (b : Bool) : vp_nar .boolean (bI b) = bI b := by cases b <;> rfl
theorem sp_set {q k : Nat} {i v : Int32} {b : Bool} {σ : Sg} {Q : Sg → Prop} (hi : i = nI k) (hk : k < aN q) (hv : v = bI b) (h : Q (stA σ q k (bI b))) : wp_X8_set q i v σ Q := by
  have hq := aN_small q
  subst hi
  refine br_f (nI_nlt (Nat.zero_le k) (by omega)) (br_f (nI_ge hk (by omega)) ⟨vp_in_nI hk (by omega), ?_⟩)
  rw [nI_clamp (by omega)]
  intro s1 e
  rw [e, hv, nar_bI]
  exact h
theorem sp_setO {q : Nat} {i v : Int32} {σ : Sg} {Q : Sg → Prop} (hi : i < nI 0) (h : Q σ) : wp_X8_set q i v σ Q := br_t hi h
/-- one of the numbers below N, or none: both sides of a guard '0 ≤ x < N' -/
theorem sp_lim (N : Nat) (hN : N < 2 ^ 31) {x : Int32} {A B : Prop} (hout : (x < nI 0 ∨ ∃ k, N ≤ k ∧ k < 2 ^ 31 ∧ x = nI k) → A) (hin : ∀ k, k < N → x = nI k → B) : (x < nI 0 → A) ∧ (¬ x < nI 0 → ((nI N ≤ x → A) ∧ (¬ nI N ≤ x → B))) := by
  refine ⟨fun h => hout (Or.inl h), fun h => ⟨fun h1 => ?_, fun h1 => ?_⟩⟩
  · rcases ni_cases x with h2 | ⟨k, hk, rfl⟩
    · exact absurd h2 h
    · exact hout (Or.inr ⟨k, (nI_leI hN hk).mp h1, hk, rfl⟩)
  · rcases ni_cases x with h2 | ⟨k, hk, rfl⟩
    · exact absurd h2 h
    · refine hin k ?_ rfl
      rw [nI_leI hN hk] at h1
      omega
-- counting loops with several values
theorem lq1 {A1 : Type} (W : Nat → Nat → A1 → Prop) (I : Nat → A1 → Prop) (e : Nat) (hx : ∀ n a1, I e a1 → W (n + 1) e a1) (hs : ∀ n i a1, i < e → I i a1 → (∀ b1, I (i + 1) b1 → W n (i + 1) b1) → W (n + 1) i a1) (a1 : A1) (h0 : I 0 a1) : ∃ n, W n 0 a1 :=
  loop_0 (σ := A1) (fun n i a => W n i a) (fun i a => I i a) e (a1) h0 (fun n a h => hx n a h) (fun n i a hi h ih => hs n i a hi h (fun b1 hb => ih (b1) hb))
theorem lq2 {A1 A2 : Type} (W : Nat → Nat → A1 → A2 → Prop) (I : Nat → A1 → A2 → Prop) (e : Nat) (hx : ∀ n a1 a2, I e a1 a2 → W (n + 1) e a1 a2) (hs : ∀ n i a1 a2, i < e → I i a1 a2 → (∀ b1 b2, I (i + 1) b1 b2 → W n (i + 1) b1 b2) → W (n + 1) i a1 a2) (a1 : A1) (a2 : A2) (h0 : I 0 a1 a2) : ∃ n, W n 0 a1 a2 :=
  loop_0 (σ := A1 × A2) (fun n i a => W n i a.1 a.2) (fun i a => I i a.1 a.2) e (a1, a2) h0 (fun n a h => hx n a.1 a.2 h) (fun n i a hi h ih => hs n i a.1 a.2 hi h (fun b1 b2 hb => ih (b1, b2) hb))
theorem lq3 {A1 A2 A3 : Type} (W : Nat → Nat → A1 → A2 → A3 → Prop) (I : Nat → A1 → A2 → A3 → Prop) (e : Nat) (hx : ∀ n a1 a2 a3, I e a1 a2 a3 → W (n + 1) e a1 a2 a3) (hs : ∀ n i a1 a2 a3, i < e → I i a1 a2 a3 → (∀ b1 b2 b3, I (i + 1) b1 b2 b3 → W n (i + 1) b1 b2 b3) → W (n + 1) i a1 a2 a3) (a1 : A1) (a2 : A2) (a3 : A3) (h0 : I 0 a1 a2 a3) : ∃ n, W n 0 a1 a2 a3 :=
  loop_0 (σ := A1 × A2 × A3) (fun n i a => W n i a.1 a.2.1 a.2.2) (fun i a => I i a.1 a.2.1 a.2.2) e (a1, a2, a3) h0 (fun n a h => hx n a.1 a.2.1 a.2.2 h) (fun n i a hi h ih => hs n i a.1 a.2.1 a.2.2 hi h (fun b1 b2 b3 hb => ih (b1, b2, b3) hb))
theorem lq4 {A1 A2 A3 A4 : Type} (W : Nat → Nat → A1 → A2 → A3 → A4 → Prop) (I : Nat → A1 → A2 → A3 → A4 → Prop) (e : Nat) (hx : ∀ n a1 a2 a3 a4, I e a1 a2 a3 a4 → W (n + 1) e a1 a2 a3 a4) (hs : ∀ n i a1 a2 a3 a4, i < e → I i a1 a2 a3 a4 → (∀ b1 b2 b3 b4, I (i + 1) b1 b2 b3 b4 → W n (i + 1) b1 b2 b3 b4) → W (n + 1) i a1 a2 a3 a4) (a1 : A1) (a2 : A2) (a3 : A3) (a4 : A4) (h0 : I 0 a1 a2 a3 a4) : ∃ n, W n 0 a1 a2 a3 a4 :=
  loop_0 (σ := A1 × A2 × A3 × A4) (fun n i a => W n i a.1 a.2.1 a.2.2.1 a.2.2.2) (fun i a => I i a.1 a.2.1 a.2.2.1 a.2.2.2) e (a1, a2, a3, a4) h0 (fun n a h => hx n a.1 a.2.1 a.2.2.1 a.2.2.2 h) (fun n i a hi h ih => hs n i a.1 a.2.1 a.2.2.1 a.2.2.2 hi h (fun b1 b2 b3 b4 hb => ih (b1, b2, b3, b4) hb))
theorem lq5 {A1 A2 A3 A4 A5 : Type} (W : Nat → Nat → A1 → A2 → A3 → A4 → A5 → Prop) (I : Nat → A1 → A2 → A3 → A4 → A5 → Prop) (e : Nat) (hx : ∀ n a1 a2 a3 a4 a5, I e a1 a2 a3 a4 a5 → W (n + 1) e a1 a2 a3 a4 a5) (hs : ∀ n i a1 a2 a3 a4 a5, i < e → I i a1 a2 a3 a4 a5 → (∀ b1 b2 b3 b4 b5, I (i + 1) b1 b2 b3 b4 b5 → W n (i + 1) b1 b2 b3 b4 b5) → W (n + 1) i a1 a2 a3 a4 a5) (a1 : A1) (a2 : A2) (a3 : A3) (a4 : A4) (a5 : A5) (h0 : I 0 a1 a2 a3 a4 a5) : ∃ n, W n 0 a1 a2 a3 a4 a5 :=
  loop_0 (σ := A1 × A2 × A3 × A4 × A5) (fun n i a => W n i a.1 a.2.1 a.2.2.1 a.2.2.2.1 a.2.2.2.2) (fun i a => I i a.1 a.2.1 a.2.2.1 a.2.2.2.1 a.2.2.2.2) e (a1, a2, a3, a4, a5) h0 (fun n a h => hx n a.1 a.2.1 a.2.2.1 a.2.2.2.1 a.2.2.2.2 h) (fun n i a hi h ih => hs n i a.1 a.2.1 a.2.2.1 a.2.2.2.1 a.2.2.2.2 hi h (fun b1 b2 b3 b4 b5 hb => ih (b1, b2, b3, b4, b5) hb))
theorem lq6 {A1 A2 A3 A4 A5 A6 : Type} (W : Nat → Nat → A1 → A2 → A3 → A4 → A5 → A6 → Prop) (I : Nat → A1 → A2 → A3 → A4 → A5 → A6 → Prop) (e : Nat) (hx : ∀ n a1 a2 a3 a4 a5 a6, I e a1 a2 a3 a4 a5 a6 → W (n + 1) e a1 a2 a3 a4 a5 a6) (hs : ∀ n i a1 a2 a3 a4 a5 a6, i < e → I i a1 a2 a3 a4 a5 a6 → (∀ b1 b2 b3 b4 b5 b6, I (i + 1) b1 b2 b3 b4 b5 b6 → W n (i + 1) b1 b2 b3 b4 b5 b6) → W (n + 1) i a1 a2 a3 a4 a5 a6) (a1 : A1) (a2 : A2) (a3 : A3) (a4 : A4) (a5 : A5) (a6 : A6) (h0 : I 0 a1 a2 a3 a4 a5 a6) : ∃ n, W n 0 a1 a2 a3 a4 a5 a6 :=
  loop_0 (σ := A1 × A2 × A3 × A4 × A5 × A6) (fun n i a => W n i a.1 a.2.1 a.2.2.1 a.2.2.2.1 a.2.2.2.2.1 a.2.2.2.2.2) (fun i a => I i a.1 a.2.1 a.2.2.1 a.2.2.2.1 a.2.2.2.2.1 a.2.2.2.2.2) e (a1, a2, a3, a4, a5, a6) h0 (fun n a h => hx n a.1 a.2.1 a.2.2.1 a.2.2.2.1 a.2.2.2.2.1 a.2.2.2.2.2 h) (fun n i a hi h ih => hs n i a.1 a.2.1 a.2.2.1 a.2.2.2.1 a.2.2.2.2.1 a.2.2.2.2.2 hi h (fun b1 b2 b3 b4 b5 b6 hb => ih (b1, b2, b3, b4, b5, b6) hb))
