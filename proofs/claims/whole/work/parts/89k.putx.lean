/-! ===== read: the class's numbering ===== -/
def XNm (σ : Sg) (c gc : Nat) (ld : Nat → Nat) (kp : Nat → Bool) (G : Nat → Nat) (K : Nat) (ex : Nat → Nat) : Prop := XMc σ c ld kp ∧ (∃ fc, PLc gc fc) ∧ gR σ 5 0 = gc ∧ gF σ 5 6 = nI K ∧ K ≤ 60 ∧ (∀ i, i < c → gA σ gc i = nI (G i) ∧ G i < K) ∧ ∀ k, k < K → gA σ 32 k = nI (ex k) ∧ ex k < c
theorem XNm.fr {σ τ : Sg} {c gc K : Nat} {ld G ex : Nat → Nat} {kp : Nat → Bool} (h : XNm σ c gc ld kp G K ex) (f : Fr [6] [33, 34, 35, 36] σ τ) : XNm τ c gc ld kp G K ex := by
  obtain ⟨h1, ⟨fc, h2⟩, h3, h4, h5, h6, h7⟩ := h
  have hgc : gc ∉ [33, 34, 35, 36] := by
    rcases h2 with ⟨h, _⟩ | ⟨h, _⟩ <;> rw [h] <;> decide
  refine ⟨?_, ⟨fc, h2⟩, ?_, ?_, h5, ?_, ?_⟩
  · unfold XMc at h1 ⊢
    rw [f.F (by decide), f.A (by decide), f.A (by decide)]
    exact h1
  · rw [f.R (by decide)]; exact h3
  · rw [f.F (by decide)]; exact h4
  · rw [f.A hgc]; exact h6
  · rw [f.A (by decide)]; exact h7
/-- what is known of the numbers -/
def NXb (τ : Sg) (K : Nat) (kp : Nat → Bool) (ex : Nat → Nat) (n : Nat) (num : Nat → Option Nat) (ofk : Nat → Nat) : Prop :=
  gF τ 6 4 = nI n ∧ (∀ k, k < K → gA τ 33 k = oI (num k)) ∧ ∀ i, i < n → gA τ 34 i = nI (ofk i) ∧ gA τ 36 i = bI (kp (ex (ofk i)))
theorem sp_Xmeet {τ : Sg} {c gc K n w : Nat} {ld G ex : Nat → Nat} {kp : Nat → Bool} {num : Nat → Option Nat} {ofk : Nat → Nat} {a : Int32} {Q : Int32 → Sg → Prop} (hN : XNm τ c gc ld kp G K ex) (hB : NXb τ K kp ex n num ofk) (ha : a = nI w) (hw : w < K) (hsome : ∀ t, num w = some t → t < 60) (hn : num w = none → n < 60) (h1 : ∀ t, num w = some t → Q (nI t) τ) (h2 : num w = none → ∀ τ', Fr [6] [33, 34, 36] τ τ' → NXb τ' K kp ex (n + 1) (fun k => if k = w then some n else num k) (fun i => if i = n then w else ofk i) → Q (nI n) τ') : wp_X2_meet a τ Q := by
  subst ha
  obtain ⟨n1, n2, n3, n4, n5, n6, n7⟩ := hN
  obtain ⟨b1, b2, b3⟩ := hB
  refine sp_pick rfl (by show w < 60; omega) ?_
  rw [b2 w hw]
  cases q : num w with
  | some t =>
    have := hsome t q
    exact ⟨fun _ => h1 t q, fun z => absurd z (ni9 (by omega))⟩
  | none =>
    have hn60 := hn q
    refine ⟨fun z => absurd rfl z, fun _ => sp_pick rfl (by show w < 60; omega) ?_⟩
    obtain ⟨e1, e2⟩ := n7 w hw
    rw [e1]
    refine sp_isSet rfl (by show _ < 1921; have := n1.2.1; omega) (n1.2.2.2.1 _ e2) ⟨bI_bl _, ?_⟩
    have b29 : ∀ v : Bool, v = kp (ex w) → wp_X7_add_29 (bI v) (nI n) (fun r7 σ8 => wp_X8_put 33 (nI w) r7 σ8 (fun σ9 => wp_X8_put 34 r7 (nI w) σ9 (fun σ10 => Q r7 σ10))) τ := by
      intro v hv
      unfold wp_X7_add_29
      refine sp_put rfl (by show n < 60; exact hn60) ?_
      intro σ2 e
      have e3 : gF (stA τ 36 n (bI v)) 6 4 + nI 1 = nI (n + 1) := by
        show gF τ 6 4 + nI 1 = _
        rw [b1, nI_add]
      rw [e3] at e
      have e4 : gF σ2 6 4 - nI 1 = nI n := by
        rw [e]
        show nI (n + 1) - nI 1 = _
        rw [pk_sub (by omega)]
        rfl
      rw [e4]
      refine sp_put rfl (by show w < 60; omega) (sp_put rfl (by show n < 60; exact hn60) ?_)
      refine h2 q _ ?_ ⟨?_, fun k hk => ?_, fun i hi => ?_⟩
      · rw [e]
        exact Fr.stA (Fr.stA (Fr.stF (Fr.rf.stA (by simp)) (by simp)) (by simp)) (by simp)
      · rw [e]; rfl
      · rw [gA_stA_row (by decide), gA_stA, if_pos rfl, e]
        by_cases t : k = w
        · rw [if_pos t]
          simp only [if_pos t]
          rfl
        · rw [if_neg t]
          simp only [if_neg t]
          rw [gA_stF, gA_stA_row (by decide)]
          exact b2 k hk
      · simp only
        rw [gA_stA, if_pos rfl, gA_stA_row (by decide), gA_stA_row (by decide), gA_stA_row (by decide), e, gA_stF, gA_stA_row (by decide), gA_stA, if_pos rfl]
        by_cases t : i = n
        · rw [if_pos t, if_pos t, if_pos t, hv]
          exact ⟨rfl, rfl⟩
        · rw [if_neg t, if_neg t, if_neg t]
          exact b3 i (by omega)
    show wp_X7_add _ τ _
    unfold wp_X7_add
    rw [b1]
    exact pk_lt n 60 (fun _ => bI_br (fun z => b29 false z.symm) (fun z => b29 true z.symm)) (fun z => absurd hn60 (Nat.not_lt.mpr z))
def NXq (σ τ : Sg) (K : Nat) (kp : Nat → Bool) (ex : Nat → Nat) (j : Nat) (s : NSt) : Prop := Fr [6] [33, 34, 35, 36] σ τ ∧ NXb τ K kp ex s.1 s.2.1 s.2.2.1 ∧ ∀ j', j' < j → gA τ 35 j' = nI (s.2.2.2 j')
def trg (G ld ex : Nat → Nat) (k e : Nat) : Nat := G (ld (4 * ex k + e))
theorem trg_ok {σ : Sg} {c gc K : Nat} {ld G ex : Nat → Nat} {kp : Nat → Bool} (h : XNm σ c gc ld kp G K ex) : Nok K (G 0) (trg G ld ex) := by
  obtain ⟨h1, h2, h3, h4, h5, h6, h7⟩ := h
  exact ⟨h5, (h6 0 h1.2.2.1.1).2, fun k e hk he => (h6 _ (h1.2.2.1.2 _ e (h7 k hk).2 he)).2⟩
theorem sp_putX {σ : Sg} {c gc K : Nat} {ld G ex : Nat → Nat} {kp : Nat → Bool} {Q : Sg → Prop} (hN : XNm σ c gc ld kp G K ex) (h : ∀ J τ, 4 * (nsq (trg G ld ex) (G 0) J).1 = J → NWq K (G 0) (trg G ld ex) J (nsq (trg G ld ex) (G 0) J) → Nmn (trg G ld ex) (G 0) J → NXq σ τ K kp ex J (nsq (trg G ld ex) (G 0) J) → wp_X7_finish τ (fun σ1 => Q σ1)) : wp_X2_putInto σ Q := by
  have hok := trg_ok hN
  obtain ⟨n1, ⟨fc, n2⟩, n3, n4, n5, n6, n7⟩ := id hN
  obtain ⟨p1, p2, p3, -⟩ := n2.ok
  have hc := n1.2.1
  have hG := n1.2.2.1
  refine lq1 (fun f k (τ : Sg) => wl_X2_putInto_2 (fun σ9 => wp_X2_putInto_26 Q σ9) Q f (nI k) τ) (fun k τ => Fr [6] [33, 34, 35, 36] σ τ ∧ ∀ i, i < k → gA τ 33 i = oI none) K ?_ ?_ σ ⟨Fr.rf, fun i hi => by omega⟩
  · intro f τ ⟨a1, a2⟩
    show wb_X2_putInto_2 _ _ _ _ _
    have h56 : gF τ 5 6 = nI K := by rw [a1.F (by decide)]; exact n4
    unfold wb_X2_putInto_2
    rw [h56]
    refine pk_le K K (fun _ => ?_) (fun z => by omega)
    intro τ1 e1
    have hN1 : XNm τ1 c gc ld kp G K ex := hN.fr (by rw [e1]; exact a1.stF (by simp))
    have f1 : Fr [6] [33, 34, 35, 36] σ τ1 := by rw [e1]; exact a1.stF (by simp)
    have hB1 : NXb τ1 K kp ex 0 (fun _ => none) (fun _ => 0) := by
      rw [e1]
      exact ⟨rfl, a2, fun i hi => by omega⟩
    clear e1
    rw [hN1.2.2.1]
    refine ⟨p3, sp_pick (k := 0) rfl (by rw [p1]; decide) ?_⟩
    obtain ⟨g1, g2⟩ := hN1.2.2.2.2.2.1 0 hG.1
    rw [g1]
    refine sp_Xmeet hN1 hB1 rfl g2 (fun t ht => by cases ht) (fun _ => by decide) (fun t ht => by cases ht) (fun _ τ2 f2 hB2 => ?_)
    have h0 : NXq σ τ2 K kp ex 0 (nsq (trg G ld ex) (G 0) 0) := by
      refine ⟨f1.tr (f2.mono (by simp) (by simp)), ⟨hB2.1, hB2.2.1, fun i hi => ?_⟩, fun j' hj => by omega⟩
      have hi' : i < 1 := hi
      have hi0 : i = 0 := by omega
      have := hB2.2.2 i hi
      simp only [if_pos hi0] at this
      exact this
    refine loop_m (σ := Nat × Sg) (fun g a => wl_X2_putInto_47 (fun σ9 => wp_X2_putInto_131 Q σ9) Q g (nI a.1) a.2) (fun a => NXq σ a.2 K kp ex (4 * a.1) (nsq (trg G ld ex) (G 0) (4 * a.1)) ∧ NWq K (G 0) (trg G ld ex) (4 * a.1) (nsq (trg G ld ex) (G 0) (4 * a.1)) ∧ a.1 ≤ (nsq (trg G ld ex) (G 0) (4 * a.1)).1 ∧ Nmn (trg G ld ex) (G 0) (4 * a.1)) (fun a => 62 - a.1) ?_ (0, τ2) ⟨h0, nwq_0 hok, Nat.zero_le _, fun j' hj => absurd hj (Nat.not_lt_zero j')⟩
    rintro g0 ⟨s, ρ⟩ ⟨b1, b2, b3, b4⟩ hs
    simp only at b1 b2 b3 b4 hs ⊢
    have hlen := nwq_len b2
    show wb_X2_putInto_47 _ _ _ _ _
    have hNρ := hN.fr b1.1
    show wp_X7_size ρ _
    unfold wp_X7_size
    rw [b1.2.1.1]
    refine pk_le (nsq (trg G ld ex) (G 0) (4 * s)).1 s (fun z => h (4 * s) ρ (by omega) b2 b4 b1) (fun z => ?_)
    refine pk_le 60 s (fun z => by omega) (fun _ => ?_)
    refine sp_pick rfl (by show s < 60; omega) ?_
    obtain ⟨w1, w2⟩ := b2.2.2.1 s (by omega)
    rw [(b1.2.1.2.2 s (by omega)).1]
    refine sp_pick rfl (by show _ < 60; omega) ?_
    obtain ⟨x1, x2⟩ := hNρ.2.2.2.2.2.2 _ w1
    rw [x1]
    generalize hk : (nsq (trg G ld ex) (G 0) (4 * s)).2.2.1 s = k at w1 w2 x1 x2
    refine lq1 (fun g e (κ : Sg) => wl_X2_putInto_81 (nI s) (nI (ex k)) (fun σ9 => wp_X2_putInto_125 (nI s) (wl_X2_putInto_47 (fun σ9 => wp_X2_putInto_131 Q σ9) Q g0) Q σ9) Q g (nI e) κ) (fun e κ => NXq σ κ K kp ex (4 * s + e) (nsq (trg G ld ex) (G 0) (4 * s + e)) ∧ NWq K (G 0) (trg G ld ex) (4 * s + e) (nsq (trg G ld ex) (G 0) (4 * s + e)) ∧ s < (nsq (trg G ld ex) (G 0) (4 * s + e)).1 ∧ (nsq (trg G ld ex) (G 0) (4 * s + e)).2.2.1 s = k ∧ Nmn (trg G ld ex) (G 0) (4 * s + e)) 4 ?_ ?_ ρ ⟨b1, b2, by omega, hk, b4⟩
    · intro g κ ⟨c1, c2, c3, c4, c5⟩
      show wb_X2_putInto_81 _ _ _ _ _ _ _
      refine pk_le 4 4 (fun _ => ?_) (fun z => by omega)
      intro y ey
      rw [ey, nI_add]
      exact hs (s + 1, κ) ⟨c1, c2, c3, c5⟩ (by show 62 - (s + 1) < 62 - s; omega)
    · intro g e κ he ⟨c1, c2, c3, c4, c5⟩ hs2
      show wb_X2_putInto_81 _ _ _ _ _ _ _
      have hjd : (4 * s + e) / 4 = s ∧ (4 * s + e) % 4 = e := k4 he
      have hNκ := hN.fr c1.1
      have hlen2 := nwq_len c2
      have hok2 : NWq K (G 0) (trg G ld ex) (4 * s + e + 1) (nsq (trg G ld ex) (G 0) (4 * s + e + 1)) := nst_ok hok c2 (by rw [hjd.1]; exact c3)
      have hold := nst_old (tr := trg G ld ex) (j := 4 * s + e) (s := nsq (trg G ld ex) (G 0) (4 * s + e))
      have hpe : nsq (trg G ld ex) (G 0) (4 * s + e + 1) = nst (trg G ld ex) (4 * s + e) (nsq (trg G ld ex) (G 0) (4 * s + e)) := rfl
      have hlen3 := nwq_len hok2
      have hl := hG.2 _ e x2 he
      have htr : trg G ld ex ((nsq (trg G ld ex) (G 0) (4 * s + e)).2.2.1 ((4 * s + e) / 4)) ((4 * s + e) % 4) = G (ld (4 * ex k + e)) := by
        rw [hjd.1, hjd.2, c4]; rfl
      -- the lead is put
      have put : ∀ (t : Nat) (κ2 : Sg), (nsq (trg G ld ex) (G 0) (4 * s + e + 1)).2.2.2 (4 * s + e) = t → Fr [6] [33, 34, 36] κ κ2 → NXb κ2 K kp ex (nsq (trg G ld ex) (G 0) (4 * s + e + 1)).1 (nsq (trg G ld ex) (G 0) (4 * s + e + 1)).2.1 (nsq (trg G ld ex) (G 0) (4 * s + e + 1)).2.2.1 → wp_X7_lead (nI s) (nI e) (nI t) κ2 (fun σ7 => ∀ x119 : Int32, x119 = nI e + (nI 1) → (wl_X2_putInto_81 (nI s) (nI (ex k)) (fun σ9 => wp_X2_putInto_125 (nI s) (wl_X2_putInto_47 (fun σ9 => wp_X2_putInto_131 Q σ9) Q g0) Q σ9) Q g x119 σ7)) := by
        intro t κ2 ht f2 hB
        refine sp_put (k := 4 * s + e) (by rw [pk_mul, nI_add, Nat.mul_comm]) (by show _ < 240; omega) ?_
        intro y ey
        rw [ey, nI_add]
        refine hs2 _ ⟨⟨(c1.1.tr (f2.mono (by simp) (by simp))).stA (by simp), ⟨hB.1, ?_, ?_⟩, fun j' hj' => ?_⟩, hok2, ?_, ?_, fun j' hj' => ?_⟩
        · rw [gA_stA_row (by decide)]; exact hB.2.1
        · rw [gA_stA_row (by decide), gA_stA_row (by decide)]; exact hB.2.2
        · rw [gA_stA, if_pos rfl]
          by_cases q : j' = 4 * s + e
          · rw [if_pos q, q]
            exact congrArg nI ht.symm
          · rw [if_neg q, f2.A (by decide), c1.2.2 j' (by omega)]
            congr 1
            exact (hold.2.2.2 j' q).symm
        · have := hold.1
          rw [← hpe] at this
          show s < (nsq (trg G ld ex) (G 0) (4 * s + e + 1)).1
          omega
        · exact (hold.2.2.1 s c3).trans c4
        · by_cases q : j' = 4 * s + e
          · rw [q, hjd.1]; exact c3
          · exact c5 j' (by omega)
      refine pk_le 4 e (fun z => by omega) (fun _ => ?_)
      refine sp_pick (k := 4 * ex k + e) (by rw [pk_mul, nI_add, Nat.mul_comm]) (by show _ < 7684; omega) ?_
      rw [c1.1.A (by decide), n1.2.2.2.2 _ (show 4 * ex k + e < 4 * c by omega), hNκ.2.2.1]
      refine ⟨p3, sp_pick rfl (by rw [p1]; omega) ?_⟩
      obtain ⟨g1, g2⟩ := hNκ.2.2.2.2.2.1 _ hl
      rw [g1]
      refine sp_Xmeet hNκ c1.2.1 rfl g2 (fun t ht => ?_) (fun hno => ?_) (fun t ht => ?_) (fun hno κ2 f2 hB2 => ?_)
      · have := (c2.2.2.2.1 _ t ht).1
        omega
      · have e1 : nsq (trg G ld ex) (G 0) (4 * s + e + 1) = _ := nst_none (s := nsq (trg G ld ex) (G 0) (4 * s + e)) (by rw [htr]; exact hno)
        have e2 : (nsq (trg G ld ex) (G 0) (4 * s + e + 1)).1 = (nsq (trg G ld ex) (G 0) (4 * s + e)).1 + 1 := by rw [e1]
        omega
      · have e1 : nsq (trg G ld ex) (G 0) (4 * s + e + 1) = _ := nst_some (s := nsq (trg G ld ex) (G 0) (4 * s + e)) (by rw [htr]; exact ht)
        refine put t κ (by rw [e1]; simp only [if_true]) Fr.rf ?_
        rw [e1]; exact c1.2.1
      · have e1 : nsq (trg G ld ex) (G 0) (4 * s + e + 1) = _ := nst_none (s := nsq (trg G ld ex) (G 0) (4 * s + e)) (by rw [htr]; exact hno)
        refine put _ κ2 (by rw [e1]; simp only [if_true]) f2 ?_
        rw [e1, htr]; exact hB2
  · intro f k τ hk ⟨a1, a2⟩ hs2
    show wb_X2_putInto_2 _ _ _ _ _
    have h56 : gF τ 5 6 = nI K := by rw [a1.F (by decide)]; exact n4
    unfold wb_X2_putInto_2
    rw [h56]
    refine pk_le K k (fun z => by omega) (fun _ => sp_put rfl (by show k < 60; omega) ?_)
    intro y ey
    rw [ey, nI_add]
    refine hs2 _ ⟨a1.stA (by simp), fun i hi => ?_⟩
    rw [gA_stA, if_pos rfl]
    by_cases q : i = k
    · rw [if_pos q]; rfl
    · rw [if_neg q]; exact a2 i (by omega)
