/-! ===== keys: event ===== -/
def gone (m : Nat) (vd : Nat → Nat) (n : Nat) : Bool := decide (vk m vd n = nI 2 ∨ vk m vd n = nI 3)
theorem goneB {v : Int32} {P : Int32 → Sg → Prop} {σ : Sg} (h : P (bI (decide (v = nI 2 ∨ v = nI 3))) σ) : (v = nI 2 → P (nI 1) σ) ∧ (¬ v = nI 2 → ((¬ v = nI 3 → P (nI 0) σ) ∧ (v = nI 3 → P (nI 1) σ))) := by
  refine ⟨fun z => ?_, fun z => ⟨fun y => ?_, fun y => ?_⟩⟩
  · rw [decide_eq_true (Or.inl z)] at h; exact h
  · rw [decide_eq_false (fun w => w.elim z y)] at h; exact h
  · rw [decide_eq_true (Or.inr y)] at h; exact h
theorem sp_letGo {σ : Sg} {n k : Nat} {mk : Nat → Nat} {to : Nat → Nat → Nat} {vd : Nat → Nat} {ds : Nat → Nat → Option Nat} {Q : Int32 → Sg → Prop} (hM : PMa to vd n) (hX : PXa σ n to vd ds) (hm : gL σ 45 k = lN (mk k)) (hml : mk k < 2 ^ n) (hk : k < 16) (h : Q (bI (gone (mk k) vd n)) σ) : wp_X1_isLetGo (nI k) σ Q := by
  refine sp_keyX hM hX hm hml hk ?_
  exact goneB h
theorem sp_isGone {σ : Sg} {n k : Nat} {m : Nat} {to : Nat → Nat → Nat} {vd : Nat → Nat} {Q : Int32 → Sg → Prop} (hM : PMa to vd n) (hO : PMo σ n to vd) (hk : k < 16) (hm : ∀ s, s < 60 → gA σ 79 (60 * k + s) = bI (m.testBit s)) (h : Q (bI (gone m vd n)) σ) : wp_X9_isGone (nI k) σ Q := by
  refine sp_keyM hM hO hk hm ?_
  exact goneB h
theorem bit_out {m n s : Nat} (hm : m < 2 ^ n) (hs : n ≤ s) : m.testBit s = false := Nat.testBit_lt_two_pow (Nat.lt_of_lt_of_le hm (Nat.pow_le_pow_right (by decide) hs))
/-- what a step leaves in a key's cells -/
theorem step_cells {σ ρ : Sg} {n k m m' f l : Nat} {b : Bool} {to : Nat → Nat → Nat} (hn : n ≤ 60) (hm : m < 2 ^ n) (hm' : m' < 2 ^ n) (hs : ∀ s, s < 60 → gA σ 79 (60 * k + s) = bI (m.testBit s)) (hc : ∀ t, t < n → Cb (gA ρ 79 (60 * k + t)) (Ms to m b f l n f t)) (ho : ∀ j, (∀ t, t < n → j ≠ 60 * k + t) → gA ρ 79 j = gA σ 79 j) (he : ∀ t, t < n → (Ms to m b f l n f t ↔ m'.testBit t = true)) : ∀ s, s < 60 → gA ρ 79 (60 * k + s) = bI (m'.testBit s) := by
  intro s hs60
  by_cases q : s < n
  · obtain ⟨v, h1, h2⟩ := hc s q
    rw [h1]
    have h3 := h2.trans (he s q)
    cases hv : v <;> cases hb : m'.testBit s <;> simp_all
  · rw [ho _ (fun t ht => by omega), hs s hs60, bit_out hm (by omega), bit_out hm' (by omega)]
theorem Ms_stp {to : Nat → Nat → Nat} {m n e t : Nat} (hm : m < 2 ^ n) : Ms to m false e e n e t ↔ (stp to m e n).testBit t = true := by
  rw [stp_bit]
  constructor
  · rintro (⟨h, _⟩ | ⟨s, h1, h2, e', h3, h4, h5⟩ | ⟨h1, _⟩)
    · cases h
    · have : e' = e := by omega
      subst this
      exact ⟨s, h1, h2, h5⟩
    · rw [bit_out hm (Nat.le_refl n)] at h1; cases h1
  · rintro ⟨s, h1, h2, h3⟩
    exact Or.inr (Or.inl ⟨s, h1, h2, e, Nat.le_refl e, Nat.le_refl e, h3⟩)
theorem op_event (a0 a1 : Int32) : Both (wp_X8_event a0 a1) (wp_X9_event a0 a1) := by
  intro σ I
  obtain ⟨nb, tp, n, to, vd, ds, mk, n', to', vd', hT, hF, hM, hX, hO, hK, hXk, hMk, hL⟩ := id I
  have hn60 := hM.1
  refine sp_isThere hX.1 hM.1 (bI_rb (fun z => ?_) (fun z => ?_))
  · have hn : 0 < n := of_decide_eq_true z
    refine sp_isEvent (bI_br (fun hi => ?_) (fun hi => ?_))
    · refine sp_MrefS hO.2.1 (fun _ => sp_in rfl rfl (by decide) ?_) (fun z => by omega)
      rw [hi]
      exact br_t rfl ⟨rfl, I⟩
    · obtain ⟨e, he, rfl⟩ := inN_of hi
      refine sp_isKey (bI_rb (fun hj => ?_) (fun hj => ?_))
      · obtain ⟨k, hk, rfl⟩ := inN_of hj
        have hKk := hK k hk
        refine sp_letGo hM hX hKk.1 hKk.2.1 hk (bI_rb (fun hg => ?_) (fun hg => ?_))
        · refine sp_keyX hM hX hKk.1 hKk.2.1 hk (sp_MrefS hO.2.1 (fun _ => sp_in rfl rfl (by decide) ?_) (fun z => by omega))
          rw [hi]
          refine br_f (by decide) (sp_MisKey ?_)
          rw [hj]
          refine ⟨fun _ => sp_isGone hM hO hk hKk.2.2.2 ?_, fun z => absurd z (by decide)⟩
          rw [hg]
          exact ⟨fun _ => sp_keyM hM hO hk hKk.2.2.2 ⟨rfl, I⟩, fun z => absurd z (by decide)⟩
        · refine sp_pickLong rfl (by show k < 16; exact hk) (sp_stepped hM hX hKk.1 hKk.2.1 he ?_)
          have hsl := stp_lt (m := mk k) hM he n (Nat.le_refl n)
          refine sp_putLong rfl (by show k < 16; exact hk) (sp_pick rfl (by show k < 16; exact hk) (sp_put rfl (by show k < 16; exact hk) ?_))
          have f1 : Fr [] [45, 46] σ (stA (stL σ 45 k (lN (stp to (mk k) e n))) 46 k (gA (stL σ 45 k (lN (stp to (mk k) e n))) 46 k + nI 1)) := (Fr.rf.stL (by simp)).stA (by simp)
          generalize hσ1 : stA (stL σ 45 k (lN (stp to (mk k) e n))) 46 k (gA (stL σ 45 k (lN (stp to (mk k) e n))) 46 k + nI 1) = σ1 at f1 ⊢
          have hO1 : PMo σ1 n to vd := hO.fr (f1.F (by decide)) (f1.A (by decide)) (f1.A (by decide)) (f1.A (by decide))
          have hX1 : PXa σ1 n to vd ds := hX.fr (f1.F (by decide)) (f1.A (by decide)) (f1.A (by decide)) (f1.A (by decide)) (f1.L (by decide))
          have h45 : ∀ j, gL σ1 45 j = if j = k then lN (stp to (mk k) e n) else gL σ 45 j := by
            intro j
            rw [← hσ1]
            show gL (stL σ 45 k (lN (stp to (mk k) e n))) 45 j = _
            rw [gL_stL, if_pos rfl]
          have h46 : ∀ j, gA σ1 46 j = if j = k then gA σ 46 k + nI 1 else gA σ 46 j := by
            intro j
            rw [← hσ1, gA_stA, if_pos rfl]
            rfl
          show wp_X1_step_48 _ _ _
          unfold wp_X1_step_48
          refine sp_keyX (mk := fun _ => stp to (mk k) e n) hM hX1 (by rw [h45, if_pos rfl]) hsl hk ?_
          refine sp_MrefS hO1.2.1 (fun _ => sp_in rfl rfl (by decide) ?_) (fun z => by omega)
          rw [hi]
          refine br_f (by decide) (sp_MisKey ?_)
          rw [hj]
          have hm1 : ∀ s, s < 60 → gA σ1 79 (60 * k + s) = bI ((mk k).testBit s) := fun s hs => by rw [f1.A (by decide)]; exact hKk.2.2.2 s hs
          refine ⟨fun _ => sp_isGone hM hO1 hk hm1 ?_, fun z => absurd z (by decide)⟩
          rw [hg]
          refine ⟨fun z => absurd rfl z, fun _ => sp_Mstep (b := false) hM hO1 rfl rfl rfl rfl hk (Nat.le_refl e) he (fun s hs => hm1 s (by omega)) (fun σ2 f2 h1 h2 => ?_)⟩
          have hc := step_cells hn60 hKk.2.1 hsl hm1 h1 h2 (fun t _ => Ms_stp hKk.2.1)
          refine ⟨vp_in_nI (by show k < 16; exact hk) (by decide), vp_in_nI (by show k < 16; exact hk) (by decide), ?_⟩
          intro σ3 e3
          rw [nI_clamp (by omega)] at e3
          have f3 : Fr [] [45, 46, 79, 80, 81] σ σ3 := by
            rw [e3]
            exact ((f1.mono (by simp) (by simp)).tr (f2.mono (by simp) (by simp))).stA (by simp)
          have a79 : gA σ3 79 = gA σ2 79 := by rw [e3]; exact gA_stA_row (by decide)
          have hO3 : PMo σ3 n to vd := hO.fr (f3.F (by decide)) (f3.A (by decide)) (f3.A (by decide)) (f3.A (by decide))
          show wp_X9_event_57 _ _ _
          unfold wp_X9_event_57
          refine sp_keyM hM hO3 hk (m := stp to (mk k) e n) (fun s hs => by rw [a79]; exact hc s hs) ⟨rfl, ?_⟩
          have h81 : ∀ j, gA σ3 81 j = if j = k then gA σ 81 k + nI 1 else gA σ 81 j := by
            intro j
            rw [e3, gA_stA, if_pos rfl, f2.A (by decide), f1.A (by decide)]
          have h46' : gA σ3 46 = gA σ1 46 := by
            rw [e3, gA_stA_row (by decide), f2.A (by decide)]
          have h45' : gL σ3 45 = gL σ1 45 := by
            rw [e3]
            exact f2.L (by decide)
          refine inv_keys f3 hT hF hM hX hO (PKe_upd (k := k) hK hsl ?_ ?_ ?_ ?_ (fun s hs => by rw [a79]; exact hc s hs) ?_) hXk hMk hL
          · rw [h45', h45, if_pos rfl]
          · intro j hj hne
            rw [h45', h45, if_neg hne]
          · rw [h46', h46, if_pos rfl, h81, if_pos rfl, hKk.2.2.1]
          · intro j hj hne
            rw [h46', h46, if_neg hne, h81, if_neg hne]
            exact ⟨rfl, rfl⟩
          · intro j hj hne s hs
            rw [a79, h2 _ (fun t ht => by omega), f1.A (by decide)]
      · refine sp_MrefS hO.2.1 (fun _ => sp_in rfl rfl (by decide) ?_) (fun z => by omega)
        rw [hi]
        refine br_f (by decide) (sp_MisKey ?_)
        rw [hj]
        exact ⟨fun z => absurd rfl z, fun _ => ⟨rfl, I⟩⟩
  · have := of_decide_eq_false z
    exact sp_MrefS hO.2.1 (fun z => by omega) (fun _ => ⟨rfl, I⟩)
