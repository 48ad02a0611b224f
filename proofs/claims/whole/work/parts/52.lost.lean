/-! ===== keys: lost ===== -/
def wde (to : Nat → Nat → Nat) (n m : Nat) : Nat → Nat
  | 0 => m
  | e + 1 => wde to n m e ||| stp to m e n
def itw (to : Nat → Nat → Nat) (n m : Nat) : Nat → Nat
  | 0 => m
  | i + 1 => wde to n (itw to n m i) 4
theorem wde_lt {to : Nat → Nat → Nat} {vd : Nat → Nat} {n m : Nat} (hM : PMa to vd n) (hm : m < 2 ^ n) : ∀ e, e ≤ 4 → wde to n m e < 2 ^ n
  | 0, _ => hm
  | e + 1, he => Nat.or_lt_two_pow (wde_lt hM hm e (by omega)) (stp_lt hM (by omega) n (Nat.le_refl n))
theorem itw_lt {to : Nat → Nat → Nat} {vd : Nat → Nat} {n m : Nat} (hM : PMa to vd n) (hm : m < 2 ^ n) : ∀ i, itw to n m i < 2 ^ n
  | 0 => hm
  | i + 1 => wde_lt hM (itw_lt hM hm i) 4 (by omega)
theorem wde_bit {to : Nat → Nat → Nat} {n m t : Nat} : ∀ e, (wde to n m e).testBit t = true ↔ m.testBit t = true ∨ ∃ f, f < e ∧ (stp to m f n).testBit t = true
  | 0 => ⟨fun h => Or.inl h, fun h => h.elim id (fun ⟨f, hf, _⟩ => by omega)⟩
  | e + 1 => by
    unfold wde
    rw [Nat.testBit_or, Bool.or_eq_true, wde_bit e]
    constructor
    · rintro ((h | ⟨f, h1, h2⟩) | h)
      · exact Or.inl h
      · exact Or.inr ⟨f, by omega, h2⟩
      · exact Or.inr ⟨e, by omega, h⟩
    · rintro (h | ⟨f, h1, h2⟩)
      · exact Or.inl (Or.inl h)
      · by_cases q : f = e
        · subst q; exact Or.inr h2
        · exact Or.inl (Or.inr ⟨f, by omega, h2⟩)
theorem itw_fix {to : Nat → Nat → Nat} {n m i : Nat} (h : itw to n m (i + 1) = itw to n m i) : ∀ j, itw to n m (i + j) = itw to n m i
  | 0 => rfl
  | j + 1 => by
    show wde to n (itw to n m (i + j)) 4 = _
    rw [itw_fix h j]
    exact h
theorem Ms_wde {to : Nat → Nat → Nat} {m n t : Nat} (hm : m < 2 ^ n) : Ms to m true 0 3 n 0 t ↔ (wde to n m 4).testBit t = true := by
  rw [wde_bit]
  constructor
  · rintro (⟨_, h⟩ | ⟨s, h1, h2, e', h3, h4, h5⟩ | ⟨h1, _⟩)
    · exact Or.inl h
    · exact Or.inr ⟨e', by omega, stp_bit n |>.mpr ⟨s, h1, h2, h5⟩⟩
    · rw [bit_out hm (Nat.le_refl n)] at h1; cases h1
  · rintro (h | ⟨f, h1, h2⟩)
    · exact Or.inl ⟨rfl, h⟩
    · obtain ⟨s, h3, h4, h5⟩ := (stp_bit n).mp h2
      exact Or.inr (Or.inl ⟨s, h3, h4, f, by omega, by omega, h5⟩)
theorem vf_same {m : Nat} {vd : Nat → Nat} : ∀ s, (vf m vd s).2.1 = true → ∀ t, t < s → m.testBit t = true → (vf m vd s).1 = some (vd t)
  | 0, _, t, ht, _ => by omega
  | s + 1, h, t, ht, hb => by
    simp only [vf] at h ⊢
    by_cases q : m.testBit s = true
    · rw [if_pos q] at h ⊢
      simp only [Bool.and_eq_true, Bool.or_eq_true, beq_iff_eq] at h
      show some (vd s) = some (vd t)
      by_cases r : t = s
      · rw [r]
      · have h1 := vf_same s h.1 t (by omega) hb
        rcases h.2 with h2 | h2
        · rw [h1] at h2; cases h2
        · rw [← h2, h1]
    · rw [if_neg q] at h ⊢
      have : t ≠ s := fun e => q (e ▸ hb)
      exact vf_same s h t (by omega) hb
theorem gone_vd {m : Nat} {vd : Nat → Nat} {n : Nat} (hvd : ∀ s, s < n → vd s < 4) (h : gone m vd n = true) : ∀ s, s < n → m.testBit s = true → 2 ≤ vd s := by
  intro s hs hb
  have h1 := of_decide_eq_true h
  unfold vk vfin at h1
  cases h2 : (vf m vd n).2.1 with
  | true =>
    rw [h2, if_pos rfl, vf_same n h2 s hs hb] at h1
    have := hvd s hs
    rcases h1 with h1 | h1
    · have := ninj h1 (by omega) (by omega); omega
    · have := ninj h1 (by omega) (by omega); omega
  | false =>
    rw [h2] at h1
    simp only [Bool.false_eq_true, if_false] at h1
    exfalso
    revert h1
    generalize (vf m vd n).2.2.1 = x
    generalize (vf m vd n).2.2.2 = y
    intro h1
    cases x <;> cases y <;> exact absurd h1 (by decide)
theorem gone_fix {m : Nat} {to : Nat → Nat → Nat} {vd : Nat → Nat} {n : Nat} (hM : PMa to vd n) (hm : m < 2 ^ n) (h : gone m vd n = true) : wde to n m 4 = m := by
  apply Nat.eq_of_testBit_eq
  intro t
  have h1 : (wde to n m 4).testBit t = true ↔ m.testBit t = true := by
    rw [wde_bit]
    refine ⟨?_, Or.inl⟩
    rintro (h2 | ⟨f, hf, h2⟩)
    · exact h2
    · obtain ⟨s, h3, h4, h5⟩ := (stp_bit n).mp h2
      have h6 := gone_vd (fun s hs => (hM.2.1 s hs).1) h s h3 h4
      rw [hM.2.2 s h3 h6 f hf] at h5
      rw [← h5]; exact h4
  cases ha : (wde to n m 4).testBit t <;> cases hb : m.testBit t <;> simp_all
theorem gone_it {m : Nat} {to : Nat → Nat → Nat} {vd : Nat → Nat} {n : Nat} (hM : PMa to vd n) (hm : m < 2 ^ n) (h : gone m vd n = true) (i : Nat) : itw to n m i = m := by
  have := itw_fix (i := 0) (to := to) (n := n) (m := m) (gone_fix hM hm h) i
  rw [Nat.zero_add] at this
  exact this
theorem lN_inj64 {a b : Nat} (ha : a < 2 ^ 64) (hb : b < 2 ^ 64) (h : lN a = lN b) : a = b := by
  rw [← wb_tn ha, ← wb_tn hb, h]
theorem sp_lose {σ : Sg} {n k m c : Nat} {to : Nat → Nat → Nat} {vd : Nat → Nat} {ds : Nat → Nat → Option Nat} {Q : Int32 → Sg → Prop} (hM : PMa to vd n) (hX : PXa σ n to vd ds) (hm : gL σ 45 k = lN m) (hml : m < 2 ^ n) (hk : k < 16) (hc : c ≤ 100) (h : Q (vk (itw to n m c) vd n) (stL σ 45 k (lN (itw to n m c)))) : wp_X1_lose (nI k) (nI c) σ Q := by
  have hn := hM.1
  have hlt := itw_lt hM hml
  refine sp_pickLong rfl (by show k < 16; exact hk) ?_
  rw [hm]
  have fin : wp_X1_lose_84 (nI k) (lN (itw to n m c)) Q σ := by
    refine sp_putLong rfl (by show k < 16; exact hk) ?_
    have f1 : Fr [] [45] σ (stL σ 45 k (lN (itw to n m c))) := Fr.rf.stL (by simp)
    refine sp_keyX (mk := fun _ => itw to n m c) hM (hX.fr (f1.F (by decide)) (f1.A (by decide)) (f1.A (by decide)) (f1.A (by decide)) (f1.L (by decide))) ?_ (hlt c) hk h
    rw [gL_stL, if_pos rfl, if_pos rfl]
  refine lq2 (fun f i (a : Nat) (b : Bool) => wl_X1_lose_16 (nI k) (nI c) (fun z4 σ9 => wp_X1_lose_84 (nI k) z4 Q σ9) Q f (lN a) (bI b) (nI i) σ) (fun i a b => a = itw to n m i ∧ (b = false → ∀ j, itw to n m (i + j) = itw to n m i)) c ?_ ?_ m true ⟨rfl, fun z => by cases z⟩
  · intro f a b ⟨ha, _⟩
    subst ha
    show wb_X1_lose_16 _ _ _ _ _ _ _ _ _
    refine pk_le c c (fun _ => fin) (fun z => by omega)
  · intro f i a b hi ⟨ha, hb⟩ hs2
    show wb_X1_lose_16 _ _ _ _ _ _ _ _ _
    refine pk_le c i (fun z => by omega) (fun _ => bI_br (fun z => ?_) (fun z => ?_))
    · have h1 := hb z (c - i)
      have e1 : i + (c - i) = c := by omega
      rw [e1] at h1
      rw [ha, ← h1]
      exact fin
    · refine lq1 (fun g e (x : Nat) => wl_X1_lose_34 (nI k) (nI c) (lN a) (nI i) (fun z8 σ9 => wp_X1_lose_59 (nI k) (nI c) (lN a) (nI i) z8 (wl_X1_lose_16 (nI k) (nI c) (fun z4 σ9 => wp_X1_lose_84 (nI k) z4 Q σ9) Q f) Q σ9) Q g (lN x) (nI e) σ) (fun e x => x = wde to n a e) 4 ?_ ?_ a rfl
      · intro g x hx
        subst hx
        show wb_X1_lose_34 _ _ _ _ _ _ _ _ _ _
        refine pk_le 4 4 (fun _ => ?_) (fun z => by omega)
        show wp_X1_lose_59 _ _ _ _ _ _ _ _
        unfold wp_X1_lose_59
        rw [lgc_eq]
        have hal : a < 2 ^ n := by rw [ha]; exact hlt i
        refine ⟨fun heq => ?_, fun hne => ?_⟩
        · have e1 := lN_inj64 (p64 (wde_lt hM hal 4 (by omega)) hn) (p64 hal hn) heq
          intro x ex
          rw [ex, nI_add]
          refine hs2 _ false ⟨by rw [ha]; rfl, fun _ j => ?_⟩
          have h1 : itw to n m (i + 1) = itw to n m i := by
            show wde to n (itw to n m i) 4 = _
            rw [← ha]; exact e1
          have h2 := itw_fix h1
          rw [h1]
          have h3 := h2 (j + 1)
          rw [Nat.add_assoc, Nat.add_comm 1 j]
          exact h3
        · intro x ex
          rw [ex, nI_add]
          exact hs2 _ true ⟨by rw [ha]; rfl, fun z => by cases z⟩
      · intro g e x he hx hs3
        subst hx
        show wb_X1_lose_34 _ _ _ _ _ _ _ _ _ _
        refine pk_le 4 e (fun z => by omega) (fun _ => ?_)
        have hal : a < 2 ^ n := by rw [ha]; exact hlt i
        refine sp_stepped hM hX rfl hal he ?_
        intro x ex y ey
        rw [ex, ey, nI_add, wb_or (p64 (wde_lt hM hal e (by omega)) hn) (p64 (stp_lt hM he n (Nat.le_refl n)) hn)]
        exact hs3 _ rfl
theorem in100 {x : Int32} {σ : Sg} {Q : Int32 → Sg → Prop} (h : Q (bI (decide (1 ≤ x.toInt ∧ x.toInt ≤ 100))) σ) : wp_X9_in (Int32.toInt64 x) (lN 1) (lN 100) σ Q := by
  unfold wp_X9_in
  rw [lgc_lt, lgc_gt, Int64.lt_iff_toInt_lt, Int64.lt_iff_toInt_lt, Int32.toInt_toInt64]
  have e0 : (lN 1).toInt = 1 := by decide
  have e1 : (lN 100).toInt = 100 := by decide
  rw [e0, e1]
  refine ⟨fun q => ?_, fun q => ⟨fun r => ?_, fun r => ?_⟩⟩
  · rw [decide_eq_false (by omega)] at h; exact h
  · rw [decide_eq_false (by omega)] at h; exact h
  · rw [decide_eq_true (by omega)] at h; exact h
theorem op_lost (a0 a1 : Int32) : Both (wp_X8_lost a0 a1) (wp_X9_lost a0 a1) := by
  intro σ I
  obtain ⟨nb, tp, n, to, vd, ds, mk, n', to', vd', hT, hF, hM, hX, hO, hK, hXk, hMk, hL⟩ := id I
  have hn60 := hM.1
  refine sp_refK hX.1 hM.1 (fun h0 => br_f (by decide) ?_) (fun hn hi => br_f (by decide) ?_) (fun k hn hk e => br_t rfl ?_)
  · exact sp_MrefS hO.2.1 (fun z => by omega) (fun _ => ⟨rfl, I⟩)
  · exact sp_MrefK hO.2.1 hn (by rw [hi]; exact ⟨fun z => absurd rfl z, fun _ => ⟨rfl, I⟩⟩)
  · subst e
    have hKk := hK k hk
    have out : ¬ (1 ≤ a1.toInt ∧ a1.toInt ≤ 100) → wp_X9_lost (nI k) a1 σ (fun r' σ2 => (-2 : Int32) = r' ∧ Inv σ2) := by
      intro hz
      refine sp_MrefK hO.2.1 hn ?_
      rw [inN_nI (by omega), decide_eq_true hk]
      refine ⟨fun _ => in100 ?_, fun z => absurd z (by decide)⟩
      rw [decide_eq_false hz]
      exact ⟨fun z => absurd rfl z, fun _ => ⟨rfl, I⟩⟩
    have e1 : (nI 1).toInt = 1 := by decide
    have e2 : (nI 100).toInt = 100 := by decide
    refine ⟨fun h1 => out ?_, fun h1 => ⟨fun h2 => ?_, fun h2 => out ?_⟩⟩
    · rw [Int32.lt_iff_toInt_lt, e1] at h1; omega
    · rw [Int32.lt_iff_toInt_lt, e1] at h1
      rw [Int32.le_iff_toInt_le, e2] at h2
      obtain ⟨c, hc, rfl⟩ : ∃ c, c < 101 ∧ a1 = nI c := inN_of (n := 101) (decide_eq_true ⟨by omega, by omega⟩)
      have hc0 : 1 ≤ c := by
        by_cases q : c = 0
        · subst q; exact absurd (by decide : (nI 0).toInt < 1) h1
        · omega
      refine sp_lose hM hX hKk.1 hKk.2.1 hk (by omega) ?_
      have f1 : Fr [] [45] σ (stL σ 45 k (lN (itw to n (mk k) c))) := Fr.rf.stL (by simp)
      have h45 : ∀ j, gL (stL σ 45 k (lN (itw to n (mk k) c))) 45 j = if j = k then lN (itw to n (mk k) c) else gL σ 45 j := fun j => by rw [gL_stL, if_pos rfl]
      generalize stL σ 45 k (lN (itw to n (mk k) c)) = σ1 at f1 h45 ⊢
      have hO1 : PMo σ1 n to vd := hO.fr (f1.F (by decide)) (f1.A (by decide)) (f1.A (by decide)) (f1.A (by decide))
      have hm1 : ∀ s, s < 60 → gA σ1 79 (60 * k + s) = bI ((mk k).testBit s) := fun s hs => by rw [f1.A (by decide)]; exact hKk.2.2.2 s hs
      have hlt := itw_lt hM hKk.2.1
      refine sp_MrefK hO1.2.1 hn ?_
      rw [inN_nI (by omega), decide_eq_true hk]
      refine ⟨fun _ => in100 ?_, fun z => absurd z (by decide)⟩
      rw [nI_toInt (by omega), decide_eq_true (by omega)]
      refine ⟨fun _ => sp_isGone hM hO1 hk hm1 ?_, fun z => absurd z (by decide)⟩
      -- what is left at the end
      have fin : ∀ ρ, Fr [] [79, 80] σ1 ρ → (∀ s, s < 60 → gA ρ 79 (60 * k + s) = bI ((itw to n (mk k) c).testBit s)) → (∀ j, (∀ t, t < 60 → j ≠ 60 * k + t) → gA ρ 79 j = gA σ 79 j) → wp_X9_lost_67 (nI k) (fun r' σ2 => vk (itw to n (mk k) c) vd n = r' ∧ Inv σ2) ρ := by
        intro ρ fρ h1 h2
        have f3 : Fr [] [45, 46, 79, 80, 81] σ ρ := (f1.mono (by simp) (by simp)).tr (fρ.mono (by simp) (by simp))
        have hO3 : PMo ρ n to vd := hO.fr (f3.F (by decide)) (f3.A (by decide)) (f3.A (by decide)) (f3.A (by decide))
        unfold wp_X9_lost_67
        refine sp_keyM hM hO3 hk h1 ⟨rfl, ?_⟩
        refine inv_keys f3 hT hF hM hX hO (PKe_upd (k := k) hK (hlt c) ?_ ?_ ?_ ?_ h1 ?_) hXk hMk hL
        · rw [fρ.L (by decide), h45, if_pos rfl]
        · intro j hj hne
          rw [fρ.L (by decide), h45, if_neg hne]
        · rw [fρ.A (by decide), fρ.A (by decide), f1.A (by decide), f1.A (by decide)]; exact hKk.2.2.1
        · intro j hj hne
          rw [fρ.A (by decide), fρ.A (by decide), f1.A (by decide), f1.A (by decide)]
          exact ⟨rfl, rfl⟩
        · intro j hj hne s hs
          exact h2 _ (fun t ht => by omega)
      cases hg : gone (mk k) vd n with
      | true =>
        refine ⟨1, ?_⟩
        show wb_X9_lost_43 _ _ _ _ _ _ _ _
        refine pk_le c 0 (fun z => by omega) (fun _ => ⟨fun _ => ?_, fun z => absurd z (by decide)⟩)
        exact fin σ1 Fr.rf (fun s hs => by rw [gone_it hM hKk.2.1 hg]; exact hm1 s hs) (fun j _ => by rw [f1.A (by decide)])
      | false =>
        refine lq1 (fun f i (ρ : Sg) => wl_X9_lost_43 (nI k) (nI c) (bI false) (fun σ9 => wp_X9_lost_67 (nI k) _ σ9) _ f (nI i) ρ) (fun i ρ => Fr [] [79, 80] σ1 ρ ∧ (∀ s, s < 60 → gA ρ 79 (60 * k + s) = bI ((itw to n (mk k) i).testBit s)) ∧ ∀ j, (∀ t, t < 60 → j ≠ 60 * k + t) → gA ρ 79 j = gA σ 79 j) c ?_ ?_ σ1 ⟨Fr.rf, hm1, fun j _ => by rw [f1.A (by decide)]⟩
        · intro f ρ ⟨a, b, d⟩
          show wb_X9_lost_43 _ _ _ _ _ _ _ _
          exact pk_le c c (fun _ => fin ρ a b d) (fun z => by omega)
        · intro f i ρ hi ⟨a, b, d⟩ hs2
          show wb_X9_lost_43 _ _ _ _ _ _ _ _
          refine pk_le c i (fun z => by omega) (fun _ => ⟨fun z => absurd rfl z, fun _ => ?_⟩)
          have hOρ : PMo ρ n to vd := hO1.fr (a.F (by decide)) (a.A (by decide)) (a.A (by decide)) (a.A (by decide))
          refine sp_Mstep (b := true) hM hOρ rfl rfl rfl rfl hk (by omega) (by omega) (fun s hs => b s (by omega)) (fun σ2 f2 h1 h2 => ?_)
          have hcell := step_cells (m' := itw to n (mk k) (i + 1)) hn60 (hlt i) (hlt (i + 1)) b h1 h2 (fun t _ => Ms_wde (hlt i))
          intro x ex
          rw [ex, nI_add]
          exact hs2 σ2 ⟨a.tr f2, hcell, fun j hj => by rw [h2 j (fun t ht => hj t (by omega))]; exact d j hj⟩
    · rw [Int32.le_iff_toInt_le, e2] at h2; omega
