/-! ===== read: the class's lessening ===== -/
def XMc (σ : Sg) (c : Nat) (ld : Nat → Nat) (kp : Nat → Bool) : Prop := gF σ 4 10 = nI c ∧ c ≤ 1921 ∧ Gok c ld ∧ (∀ r, r < c → gA σ 25 r = bI (kp r)) ∧ ∀ j, j < 4 * c → gA σ 24 j = nI (ld j)
theorem XMc.fr {σ τ : Sg} {c : Nat} {ld : Nat → Nat} {kp : Nat → Bool} (h : XMc σ c ld kp) (f : Fr [5] [29, 30, 31, 32] σ τ) : XMc τ c ld kp := by
  unfold XMc at h ⊢
  rw [f.F (by decide), f.A (by decide), f.A (by decide)]
  exact h
def PLc (gc fc : Nat) : Prop := (gc = 29 ∧ fc = 30) ∨ (gc = 30 ∧ fc = 29)
theorem PLc.ok {gc fc : Nat} (h : PLc gc fc) : aN gc = 1921 ∧ aN fc = 1921 ∧ isK gc 0 ∧ isK fc 0 ∧ gc ≠ fc ∧ gc ≠ 31 ∧ gc ≠ 32 ∧ fc ≠ 31 ∧ fc ≠ 32 ∧ gc ∈ [29, 30, 31, 32] ∧ fc ∈ [29, 30, 31, 32] := by
  rcases h with ⟨rfl, rfl⟩ | ⟨rfl, rfl⟩
  · exact ⟨rfl, rfl, ⟨by decide, by decide, by decide⟩, ⟨by decide, by decide, by decide⟩, by decide, by decide, by decide, by decide, by decide, by simp, by simp⟩
  · exact ⟨rfl, rfl, ⟨by decide, by decide, by decide⟩, ⟨by decide, by decide, by decide⟩, by decide, by decide, by decide, by decide, by decide, by simp, by simp⟩
def mkn (g ld : Nat → Nat) (r : Nat) : Nat → Nat
  | 0 => g r
  | e + 1 => mkn g ld r e * 64 + g (ld (4 * r + e))
theorem mkn_lt {g ld : Nat → Nat} {c r : Nat} (hG : Gok c ld) (hg : ∀ i, i < c → g i < 60) (hr : r < c) : ∀ e, e ≤ 4 → mkn g ld r e < 64 ^ (e + 1)
  | 0, _ => by
    show g r < 64
    have := hg r hr
    omega
  | e + 1, he => by
    have h1 := mkn_lt hG hg hr e (by omega)
    have h2 := hg _ (hG.2 r e hr (by omega))
    show mkn g ld r e * 64 + g (ld (4 * r + e)) < 64 ^ (e + 1) * 64
    omega
theorem mkn_iff {g ld : Nat → Nat} {c a b : Nat} (hG : Gok c ld) (hg : ∀ i, i < c → g i < 60) (ha : a < c) (hb : b < c) : ∀ e, e ≤ 4 → (mkn g ld a e = mkn g ld b e ↔ lkn g ld a b e = true)
  | 0, _ => by
    show g a = g b ↔ decide _ = true
    rw [decide_eq_true_eq]
  | e + 1, he => by
    have ih := mkn_iff hG hg ha hb e (by omega)
    have h1 := hg _ (hG.2 a e ha (by omega))
    have h2 := hg _ (hG.2 b e hb (by omega))
    show mkn g ld a e * 64 + g (ld (4 * a + e)) = mkn g ld b e * 64 + g (ld (4 * b + e)) ↔ (lkn g ld a b e && decide _) = true
    rw [Bool.and_eq_true, ← ih, decide_eq_true_eq]
    constructor
    · intro h; exact ⟨by omega, by omega⟩
    · rintro ⟨h3, h4⟩; rw [h3, h4]
theorem or64 (a : Nat) {b : Nat} (hb : b < 64) : a * 64 ||| b = a * 64 + b := by
  have h := Nat.two_pow_add_eq_or_of_lt (i := 6) (b := b) hb a
  rw [show (2 : Nat) ^ 6 = 64 from rfl, Nat.mul_comm] at h
  exact h.symm
theorem sp_markOf {σ : Sg} {c gc r : Nat} {g ld : Nat → Nat} {kp : Nat → Bool} {a : Int32} {Q : Int32 → Sg → Prop} (hM : XMc σ c ld kp) (hgc : aN gc = 1921) (hK : isK gc 0) (hR : gR σ 5 0 = gc) (hgr : ∀ i, i < c → gA σ gc i = nI (g i)) (hg : ∀ i, i < c → g i < 60) (ha : a = nI r) (hr : r < c) (h : Q (nI (mkn g ld r 4)) σ) : wp_X2_markOf a σ Q := by
  subst ha
  obtain ⟨m1, m2, m3, m4, m5⟩ := hM
  unfold wp_X2_markOf
  rw [hR]
  refine ⟨hK, sp_pick rfl (by rw [hgc]; omega) ?_⟩
  rw [hgr r hr]
  refine lq1 (fun f e (v : Int32) => wl_X2_markOf_12 (nI r) Q f v (nI e) σ) (fun e v => v = nI (mkn g ld r e)) 4 ?_ ?_ (nI (g r)) rfl
  · intro f v hv
    show wb_X2_markOf_12 _ _ _ _ _ _
    subst hv
    exact pk_le 4 4 (fun _ => h) (fun z => by omega)
  · intro f e v he hv hs2
    show wb_X2_markOf_12 _ _ _ _ _ _
    subst hv
    refine pk_le 4 e (fun z => by omega) (fun _ => ?_)
    refine sp_pick (k := 4 * r + e) (by rw [pk_mul, nI_add, Nat.mul_comm]) (by show _ < 7684; omega) ?_
    rw [m5 _ (by omega), hR]
    have hl := m3.2 r e hr he
    refine ⟨hK, sp_pick rfl (by rw [hgc]; omega) ?_⟩
    rw [hgr _ hl]
    intro x ex y ey
    rw [ex, ey, nI_add]
    have h1 := mkn_lt m3 hg hr e (by omega)
    have h2 : (64 : Nat) ^ (e + 1) ≤ 64 ^ 4 := Nat.pow_le_pow_right (by decide) (by omega)
    have h3 := hg _ hl
    refine hs2 _ ?_
    rw [nIshl (n := 6) (by decide) (by show _ * 64 < 2 ^ 32; have : (64 : Nat) ^ 4 = 2 ^ 24 := by decide
                                       omega), nIor, show (2 : Nat) ^ 6 = 64 from rfl, or64 _ (by omega)]
    rfl
/-- what is known of the groups while one parting is made -/
def LSq (σ0 τ : Sg) (c gc fc : Nat) (g ld : Nat → Nat) (r : Nat) (s : GSt) : Prop :=
  Fr [5] [29, 30, 31, 32] σ0 τ ∧ gR τ 5 0 = gc ∧ gR τ 5 1 = fc ∧ gF τ 5 6 = nI s.1 ∧ s.1 ≤ 60 ∧ (∀ i, i < c → gA τ gc i = nI (g i)) ∧ (∀ i, i < r → gA τ fc i = nI (s.2.2 i)) ∧ ∀ k, k < s.1 → gA τ 31 k = nI (mkn g ld (s.2.1 k) 4) ∧ gA τ 32 k = nI (s.2.1 k)
theorem sp_groupOfMark {σ : Sg} {c r : Nat} {g ld : Nat → Nat} {s : GSt} {a b : Int32} {Q : Int32 → Sg → Prop} (hG : Gok c ld) (hg : ∀ i, i < c → g i < 60) (hW : GWq g ld r s) (hr : r < c) (hn : gF σ 5 6 = nI s.1) (h60 : s.1 ≤ 60) (hm : ∀ k, k < s.1 → gA σ 31 k = nI (mkn g ld (s.2.1 k) 4)) (ha : a = nI (mkn g ld r 4)) (hb : b = nI r) (hsome : ∀ k, ffst (fun k => lkn g ld (s.2.1 k) r 4) s.1 = some k → Q (nI k) σ) (hnone : ffst (fun k => lkn g ld (s.2.1 k) r 4) s.1 = none → s.1 < 60 → Q (nI s.1) (stF (stA (stA σ 31 s.1 (nI (mkn g ld r 4))) 32 s.1 (nI r)) 5 6 (nI (s.1 + 1)))) (hfull : ffst (fun k => lkn g ld (s.2.1 k) r 4) s.1 = none → s.1 = 60 → Q (-9) σ) : wp_X2_groupOfMark a b σ Q := by
  subst ha hb
  have hmr : mkn g ld r 4 < 2 ^ 31 := by
    have := mkn_lt hG hg hr 4 (by omega)
    have h2 : (64 : Nat) ^ (4 + 1) < 2 ^ 31 := by decide
    omega
  cases q : ffst (fun k => lkn g ld (s.2.1 k) r 4) s.1 with
  | none =>
    have hf := ffst_none _ q
    refine lq1 (fun f k (_ : Unit) => wl_X2_groupOfMark_2 (nI (mkn g ld r 4)) (nI r) (fun σ9 => wp_X2_groupOfMark_30 (nI (mkn g ld r 4)) (nI r) Q σ9) Q f (nI k) σ) (fun _ _ => True) s.1 ?_ ?_ () trivial
    · intro f _ _
      show wb_X2_groupOfMark_2 _ _ _ _ _ _ _
      unfold wb_X2_groupOfMark_2
      rw [hn]
      refine pk_le s.1 s.1 (fun _ => ?_) (fun z => by omega)
      show wp_X2_groupOfMark_30 _ _ Q σ
      unfold wp_X2_groupOfMark_30
      rw [hn]
      refine pk_lt s.1 60 (fun z => ?_) (fun z => hfull q (by omega))
      refine sp_put rfl (by show s.1 < 60; exact z) ?_
      show wp_X8_put 32 (gF σ 5 6) (nI r) _ _
      refine sp_put hn (by show s.1 < 60; exact z) ?_
      intro τ e
      have e1 : gF (stA (stA σ 31 s.1 (nI (mkn g ld r 4))) 32 s.1 (nI r)) 5 6 + nI 1 = nI (s.1 + 1) := by
        show gF σ 5 6 + nI 1 = _
        rw [hn, nI_add]
      rw [e1] at e
      rw [e]
      have e2 : gF (stF (stA (stA σ 31 s.1 (nI (mkn g ld r 4))) 32 s.1 (nI r)) 5 6 (nI (s.1 + 1))) 5 6 - nI 1 = nI s.1 := by
        show nI (s.1 + 1) - nI 1 = _
        rw [pk_sub (by omega)]
        rfl
      rw [e2]
      exact hnone q z
    · intro f k _ hk _ hs2
      show wb_X2_groupOfMark_2 _ _ _ _ _ _ _
      unfold wb_X2_groupOfMark_2
      rw [hn]
      refine pk_le s.1 k (fun z => by omega) (fun _ => sp_pick rfl (by show k < 60; omega) ?_)
      rw [hm k hk]
      have hx := (hW.2.1 k hk).1
      have hmk := mkn_lt hG hg (show s.2.1 k < c by omega) 4 (by omega)
      have h2 : (64 : Nat) ^ (4 + 1) < 2 ^ 31 := by decide
      refine ⟨fun _ => ?_, fun z => ?_⟩
      · intro x ex
        rw [ex, nI_add]
        exact hs2 () trivial
      · exfalso
        have e := (mkn_iff hG hg (show s.2.1 k < c by omega) hr 4 (by omega)).mp (ninj z (by omega) hmr)
        have e' : lkn g ld (s.2.1 k) r 4 = false := hf k hk
        rw [e] at e'
        cases e'
  | some i =>
    obtain ⟨f1, f2⟩ := ffst_some _ q
    have hlast : ∀ k, k < s.1 → lkn g ld (s.2.1 k) r 4 = true → k = i := fun k hk hl => by
      have h3 := lkn_tr hl (lkn_sy f2)
      rcases Nat.lt_trichotomy k i with t | t | t
      · rw [hW.2.2 k i t f1] at h3; cases h3
      · exact t
      · have h4 := lkn_sy h3
        rw [hW.2.2 i k t hk] at h4; cases h4
    refine lq1 (fun f k (_ : Unit) => wl_X2_groupOfMark_2 (nI (mkn g ld r 4)) (nI r) (fun σ9 => wp_X2_groupOfMark_30 (nI (mkn g ld r 4)) (nI r) Q σ9) Q f (nI k) σ) (fun _ _ => True) i ?_ ?_ () trivial
    · intro f _ _
      show wb_X2_groupOfMark_2 _ _ _ _ _ _ _
      unfold wb_X2_groupOfMark_2
      rw [hn]
      refine pk_le s.1 i (fun z => by omega) (fun _ => sp_pick rfl (by show i < 60; omega) ?_)
      rw [hm i f1, (mkn_iff hG hg (show s.2.1 i < c by have := (hW.2.1 i f1).1; omega) hr 4 (by omega)).mpr f2]
      exact ⟨fun z => absurd rfl z, fun _ => hsome i q⟩
    · intro f k _ hk _ hs2
      show wb_X2_groupOfMark_2 _ _ _ _ _ _ _
      unfold wb_X2_groupOfMark_2
      rw [hn]
      refine pk_le s.1 k (fun z => by omega) (fun _ => sp_pick rfl (by show k < 60; omega) ?_)
      rw [hm k (by omega)]
      have hx := (hW.2.1 k (by omega)).1
      have hmk := mkn_lt hG hg (show s.2.1 k < c by omega) 4 (by omega)
      have h2 : (64 : Nat) ^ (4 + 1) < 2 ^ 31 := by decide
      refine ⟨fun _ => ?_, fun z => ?_⟩
      · intro x ex
        rw [ex, nI_add]
        exact hs2 () trivial
      · exfalso
        have e := (mkn_iff hG hg (show s.2.1 k < c by omega) hr 4 (by omega)).mp (ninj z (by omega) hmr)
        have := hlast k (by omega) e
        omega
