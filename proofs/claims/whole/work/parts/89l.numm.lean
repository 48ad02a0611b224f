/-! ===== read: the reference's numbering ===== -/
def MNm (σ : Sg) (c : Nat) (ld : Nat → Nat) (kp : Nat → Bool) (G : Nat → Nat) (K : Nat) (ex : Nat → Nat) : Prop := MMc σ c ld kp ∧ gF σ 10 36 = nI K ∧ K ≤ 60 ∧ (∀ i, i < c → gA σ 68 i = nI (G i) ∧ G i < K) ∧ ∀ k, k < K → gA σ 70 k = nI (ex k) ∧ ex k < c
theorem MNm.fr {σ τ : Sg} {c K : Nat} {ld G ex : Nat → Nat} {kp : Nat → Bool} (h : MNm σ c ld kp G K ex) (f : Fr [10] [71, 72, 74, 75] σ τ) (g : ∀ k, k ≠ 39 → gF τ 10 k = gF σ 10 k) : MNm τ c ld kp G K ex := by
  unfold MNm MMc at h ⊢
  rw [g 27 (by decide), g 15 (by decide), g 18 (by decide), g 36 (by decide), f.A (by decide), f.A (by decide), f.A (by decide), f.A (by decide)]
  exact h
def MNb (τ : Sg) (K n : Nat) (num : Nat → Option Nat) (ofk : Nat → Nat) : Prop :=
  gF τ 10 39 = nI n ∧ (∀ k, k < K → gA τ 74 k = oI (num k)) ∧ ∀ i, i < n → gA τ 75 i = nI (ofk i)
def NMq (σ τ : Sg) (K : Nat) (kp : Nat → Bool) (ex : Nat → Nat) (s j : Nat) (q : NSt) : Prop := Fr [10] [71, 72, 74, 75] σ τ ∧ (∀ k, k ≠ 39 → gF τ 10 k = gF σ 10 k) ∧ MNb τ K q.1 q.2.1 q.2.2.1 ∧ (∀ i, i < s → gA τ 72 i = bI (kp (ex (q.2.2.1 i)))) ∧ ∀ j', j' < j → gA τ 71 j' = nI (q.2.2.2 j')
theorem trgm_ok {σ : Sg} {c K : Nat} {ld G ex : Nat → Nat} {kp : Nat → Bool} (h : MNm σ c ld kp G K ex) : Nok K (G 0) (trg G ld ex) := by
  obtain ⟨h1, h4, h5, h6, h7⟩ := h
  exact ⟨h5, (h6 0 h1.2.2.1.1).2, fun k e hk he => (h6 _ (h1.2.2.1.2 _ e (h7 k hk).2 he)).2⟩
theorem sp_numM {σ : Sg} {c K : Nat} {ld G ex : Nat → Nat} {kp : Nat → Bool} {Q : Sg → Prop} (hN : MNm σ c ld kp G K ex) (h : ∀ J τ, 4 * (nsq (trg G ld ex) (G 0) J).1 = J → NWq K (G 0) (trg G ld ex) J (nsq (trg G ld ex) (G 0) J) → Nmn (trg G ld ex) (G 0) J → NMq σ τ K kp ex (nsq (trg G ld ex) (G 0) J).1 J (nsq (trg G ld ex) (G 0) J) → wp_X9_number_183 Q τ) : wp_X9_number σ Q := by
  have hok := trgm_ok hN
  obtain ⟨n1, n4, n5, n6, n7⟩ := id hN
  have hc := n1.2.1
  have hG := n1.2.2.1
  have hg0 := (n6 0 hG.1).2
  refine lq1 (fun f k (τ : Sg) => wl_X9_number_2 (fun σ9 => wp_X9_number_24 Q σ9) Q f (nI k) τ) (fun k τ => Fr [] [74] σ τ ∧ ∀ i, i < k → gA τ 74 i = oI none) K ?_ ?_ σ ⟨Fr.rf, fun i hi => by omega⟩
  · intro f τ ⟨a1, a2⟩
    show wb_X9_number_2 _ _ _ _ _
    have h36 : gF τ 10 36 = nI K := by rw [a1.F (by decide)]; exact n4
    unfold wb_X9_number_2
    rw [h36]
    refine pk_le K K (fun _ => ?_) (fun z => by omega)
    intro τ1 e1
    have q68 : gA τ1 68 0 = nI (G 0) := by rw [e1, gA_stF, a1.A (by decide)]; exact (n6 0 hG.1).1
    rw [nI_clamp (show 0 < 2 ^ 31 by decide), q68, nI_clamp (show G 0 < 2 ^ 31 by omega)]
    refine ⟨vp_in_nI (by decide) (by decide), vp_in_nI (by show _ < 64; omega) (by decide), ?_⟩
    intro τ2 e2
    have q68' : gA τ2 68 0 = nI (G 0) := by rw [e2, gA_stA_row (by decide)]; exact q68
    refine ⟨vp_in_nI (by decide) (by decide), vp_in_nI (by decide) (by decide), ?_⟩
    intro τ3 e3
    rw [q68'] at e3
    have h0 : NMq σ τ3 K kp ex 0 0 (nsq (trg G ld ex) (G 0) 0) := by
      refine ⟨?_, fun k hk => ?_, ⟨?_, fun k hk => ?_, fun i hi => ?_⟩, fun i hi => by omega, fun i hi => by omega⟩
      · rw [e3, e2, e1]
        exact Fr.stA (Fr.stA (Fr.stF (a1.mono (by simp) (by simp)) (by simp)) (by simp)) (by simp)
      · rw [e3, e2, e1]
        show gF (stF τ 10 39 (nI 1)) 10 k = _
        rw [gF_stF, if_pos rfl, if_neg hk, a1.F (by decide)]
      · rw [e3, e2, e1]; rfl
      · show gA τ3 74 k = oI (if k = G 0 then some 0 else none)
        rw [e3, gA_stA_row (by decide), e2, gA_stA, if_pos rfl, e1]
        by_cases q : k = G 0
        · rw [if_pos q, if_pos q]; rfl
        · rw [if_neg q, if_neg q]
          exact a2 k hk
      · have hi' : i < 1 := hi
        have hi0 : i = 0 := by omega
        rw [e3, gA_stA, if_pos rfl, if_pos hi0]
        rfl
    clear e1 e2 e3
    refine loop_m (σ := Nat × Sg) (fun g a => wl_X9_number_55 (fun σ9 => wp_X9_number_183 Q σ9) Q g (nI a.1) a.2) (fun a => NMq σ a.2 K kp ex a.1 (4 * a.1) (nsq (trg G ld ex) (G 0) (4 * a.1)) ∧ NWq K (G 0) (trg G ld ex) (4 * a.1) (nsq (trg G ld ex) (G 0) (4 * a.1)) ∧ a.1 ≤ (nsq (trg G ld ex) (G 0) (4 * a.1)).1 ∧ Nmn (trg G ld ex) (G 0) (4 * a.1)) (fun a => 62 - a.1) ?_ (0, τ3) ⟨h0, nwq_0 hok, Nat.zero_le _, fun j' hj => absurd hj (Nat.not_lt_zero j')⟩
    rintro g0 ⟨s, ρ⟩ ⟨b1, b2, b3, b4⟩ hs
    simp only at b1 b2 b3 b4 hs ⊢
    have hlen := nwq_len b2
    show wb_X9_number_55 _ _ _ _ _
    have hNρ := hN.fr b1.1 b1.2.1
    unfold wb_X9_number_55
    rw [b1.2.2.1.1]
    refine pk_le (nsq (trg G ld ex) (G 0) (4 * s)).1 s (fun z => ?_) (fun z => ?_)
    · have e : (nsq (trg G ld ex) (G 0) (4 * s)).1 = s := by omega
      refine h (4 * s) ρ (by omega) b2 b4 ?_
      rw [e]
      exact b1
    · obtain ⟨w1, w2⟩ := b2.2.2.1 s (by omega)
      obtain ⟨x1, x2⟩ := hNρ.2.2.2.2 _ w1
      rw [nI_clamp (by omega), b1.2.2.1.2.2 s (by omega), nI_clamp (by omega), x1]
      refine ⟨vp_in_nI (by show s < 64; omega) (by decide), vp_in_nI (by show _ < 64; omega) (by decide), ?_⟩
      intro x74 e74
      subst e74
      generalize hk : (nsq (trg G ld ex) (G 0) (4 * s)).2.2.1 s = k at w1 w2 x1 x2
      refine sp_MisKept hNρ.1 rfl x2 ⟨vp_in_nI (by show s < 60; omega) (by decide), ?_⟩
      intro ρ3 e3
      rw [nar_bI] at e3
      have hq3 : NMq σ ρ3 K kp ex (s + 1) (4 * s) (nsq (trg G ld ex) (G 0) (4 * s)) := by
        refine ⟨by rw [e3]; exact b1.1.stA (by simp), fun k hk => by rw [e3]; exact b1.2.1 k hk, ⟨by rw [e3]; exact b1.2.2.1.1, ?_, ?_⟩, fun i hi => ?_, ?_⟩
        · rw [e3, gA_stA_row (by decide)]; exact b1.2.2.1.2.1
        · rw [e3, gA_stA_row (by decide)]; exact b1.2.2.1.2.2
        · rw [e3, gA_stA, if_pos rfl]
          by_cases q : i = s
          · rw [if_pos q, q, hk]
          · rw [if_neg q]; exact b1.2.2.2.1 i (by omega)
        · rw [e3, gA_stA_row (by decide)]; exact b1.2.2.2.2
      clear e3
      refine lq1 (fun g e (κ : Sg) => wl_X9_number_88 (nI s) (nI (ex k)) (fun σ9 => wp_X9_number_177 (nI s) (wl_X9_number_55 (fun σ9 => wp_X9_number_183 Q σ9) Q g0) Q σ9) Q g (nI e) κ) (fun e κ => NMq σ κ K kp ex (s + 1) (4 * s + e) (nsq (trg G ld ex) (G 0) (4 * s + e)) ∧ NWq K (G 0) (trg G ld ex) (4 * s + e) (nsq (trg G ld ex) (G 0) (4 * s + e)) ∧ s < (nsq (trg G ld ex) (G 0) (4 * s + e)).1 ∧ (nsq (trg G ld ex) (G 0) (4 * s + e)).2.2.1 s = k ∧ Nmn (trg G ld ex) (G 0) (4 * s + e)) 4 ?_ ?_ ρ3 ⟨hq3, b2, by omega, hk, b4⟩
      · intro g κ ⟨c1, c2, c3, c4, c5⟩
        show wb_X9_number_88 _ _ _ _ _ _ _
        refine pk_le 4 4 (fun _ => ?_) (fun z => by omega)
        intro y ey
        rw [ey, nI_add]
        exact hs (s + 1, κ) ⟨c1, c2, c3, c5⟩ (by show 62 - (s + 1) < 62 - s; omega)
      · intro g e κ he ⟨c1, c2, c3, c4, c5⟩ hs2
        show wb_X9_number_88 _ _ _ _ _ _ _
        have hjd : (4 * s + e) / 4 = s ∧ (4 * s + e) % 4 = e := k4 he
        have hNκ := hN.fr c1.1 c1.2.1
        have hlen2 := nwq_len c2
        have hok2 : NWq K (G 0) (trg G ld ex) (4 * s + e + 1) (nsq (trg G ld ex) (G 0) (4 * s + e + 1)) := nst_ok hok c2 (by rw [hjd.1]; exact c3)
        have hold := nst_old (tr := trg G ld ex) (j := 4 * s + e) (s := nsq (trg G ld ex) (G 0) (4 * s + e))
        have hpe : nsq (trg G ld ex) (G 0) (4 * s + e + 1) = nst (trg G ld ex) (4 * s + e) (nsq (trg G ld ex) (G 0) (4 * s + e)) := rfl
        have hlen3 := nwq_len hok2
        have hl := hG.2 _ e x2 he
        have htr : trg G ld ex ((nsq (trg G ld ex) (G 0) (4 * s + e)).2.2.1 ((4 * s + e) / 4)) ((4 * s + e) % 4) = G (ld (4 * ex k + e)) := by
          rw [hjd.1, hjd.2, c4]; rfl
        obtain ⟨g1, g2⟩ := hNκ.2.2.2.1 _ hl
        -- the lead is put
        have put : ∀ (t : Nat) (κ2 : Sg), (nsq (trg G ld ex) (G 0) (4 * s + e + 1)).2.2.2 (4 * s + e) = t → gA κ2 74 (G (ld (4 * ex k + e))) = nI t → Fr [10] [74, 75] κ κ2 → (∀ k, k ≠ 39 → gF κ2 10 k = gF κ 10 k) → MNb κ2 K (nsq (trg G ld ex) (G 0) (4 * s + e + 1)).1 (nsq (trg G ld ex) (G 0) (4 * s + e + 1)).2.1 (nsq (trg G ld ex) (G 0) (4 * s + e + 1)).2.2.1 → wp_X9_number_154 (nI s) (nI (ex k)) (nI e) (nI (G (ld (4 * ex k + e)))) (wl_X9_number_88 (nI s) (nI (ex k)) (fun σ9 => wp_X9_number_177 (nI s) (wl_X9_number_55 (fun σ9 => wp_X9_number_183 Q σ9) Q g0) Q σ9) Q g) Q κ2 := by
          intro t κ2 ht h74 f2 f3 hB
          unfold wp_X9_number_154
          rw [pk_mul, nI_add, nI_clamp (by omega), nI_clamp (by omega), h74]
          refine ⟨vp_in_nI (by show _ < 64; omega) (by decide), vp_in_nI (by show _ < 240; omega) (by decide), ?_⟩
          intro κ3 e3 y ey
          rw [ey, nI_add]
          refine hs2 κ3 ⟨⟨by rw [e3]; exact (c1.1.tr (f2.mono (by simp) (by simp))).stA (by simp), fun k hk => by rw [e3]; exact (f3 k hk).trans (c1.2.1 k hk), ⟨by rw [e3]; exact hB.1, ?_, ?_⟩, fun i hi => ?_, fun j' hj' => ?_⟩, hok2, ?_, ?_, fun j' hj' => ?_⟩
          · rw [e3, gA_stA_row (by decide)]; exact hB.2.1
          · rw [e3, gA_stA_row (by decide)]; exact hB.2.2
          · rw [e3, gA_stA_row (by decide), f2.A (by decide), c1.2.2.2.1 i hi]
            congr 3
            exact (hold.2.2.1 i (by omega)).symm
          · rw [e3, gA_stA, if_pos rfl]
            by_cases q : j' = 4 * s + e
            · rw [if_pos q, q]
              exact congrArg nI ht.symm
            · rw [if_neg q, f2.A (by decide), c1.2.2.2.2 j' (by omega)]
              congr 1
              exact (hold.2.2.2 j' q).symm
          · have := hold.1
            rw [← hpe] at this
            show s < (nsq (trg G ld ex) (G 0) (4 * s + e + 1)).1
            omega
          · exact (hold.2.2.1 s c3).trans c4
          · by_cases q : j' = 4 * s + e
            · rw [q, hjd.1]; exact c3
            · exact c5 j' (by omega)
        refine pk_le 4 e (fun z => by omega) (fun _ => ?_)
        rw [pk_mul, nI_add, nI_clamp (by omega), hNκ.1.2.2.2.1 _ (show 4 * ex k + e < 4 * c by omega), nI_clamp (by omega), g1]
        refine ⟨vp_in_nI (by show _ < 10400; omega) (by decide), vp_in_nI (by show _ < 2600; omega) (by decide), ?_⟩
        intro x108 e108
        subst e108
        have h74 := c1.2.2.1.2.1 _ g2
        rw [nI_clamp (by omega), h74]
        refine ⟨vp_in_nI (by show _ < 64; omega) (by decide), ?_⟩
        cases q : (nsq (trg G ld ex) (G 0) (4 * s + e)).2.1 (G (ld (4 * ex k + e))) with
        | some t =>
          have e1 : nsq (trg G ld ex) (G 0) (4 * s + e + 1) = _ := nst_some (s := nsq (trg G ld ex) (G 0) (4 * s + e)) (by rw [htr]; exact q)
          have ht60 := (c2.2.2.2.1 _ t q).1
          refine ⟨fun _ => put t κ (by rw [e1]; simp only [if_true]) (by rw [h74, q]; rfl) Fr.rf (fun _ _ => rfl) (by rw [e1]; exact c1.2.2.1), fun z => absurd z (ni9 (by omega))⟩
        | none =>
          have e1 : nsq (trg G ld ex) (G 0) (4 * s + e + 1) = _ := nst_none (s := nsq (trg G ld ex) (G 0) (4 * s + e)) (by rw [htr]; exact q)
          have e2 : (nsq (trg G ld ex) (G 0) (4 * s + e + 1)).1 = (nsq (trg G ld ex) (G 0) (4 * s + e)).1 + 1 := by rw [e1]
          refine ⟨fun z => absurd rfl z, fun _ => ⟨vp_in_nI (by show _ < 64; omega) (by decide), ?_⟩⟩
          rw [c1.2.2.1.1]
          intro κ1 d1
          have f39 : gF κ1 10 39 = nI (nsq (trg G ld ex) (G 0) (4 * s + e)).1 := by rw [d1]; exact c1.2.2.1.1
          rw [f39]
          refine ⟨vp_in_nI (by show _ < 64; omega) (by decide), ?_⟩
          intro κ2 d2
          have f39' : gF κ2 10 39 = nI (nsq (trg G ld ex) (G 0) (4 * s + e)).1 := by rw [d2]; exact f39
          rw [f39', nI_add]
          rw [nI_clamp (by omega)] at d2
          intro κ3 d3
          refine put (nsq (trg G ld ex) (G 0) (4 * s + e)).1 κ3 (by rw [e1]; simp only [if_true]) ?_ ?_ (fun k hk => ?_) ?_
          · rw [d3, gA_stF, d2, gA_stA_row (by decide), d1, gA_stA, if_pos rfl, if_pos rfl]
          · rw [d3, d2, d1]
            exact Fr.stF (Fr.stA (Fr.rf.stA (by simp)) (by simp)) (by simp)
          · rw [d3, gF_stF, if_pos rfl, if_neg hk, d2, d1]
            rfl
          · rw [e1, htr]
            refine ⟨?_, fun k' hk' => ?_, fun i hi => ?_⟩
            · rw [d3]; rfl
            · simp only
              rw [d3, gA_stF, d2, gA_stA_row (by decide), d1, gA_stA, if_pos rfl]
              by_cases t : k' = G (ld (4 * ex k + e))
              · rw [if_pos t, if_pos t]; rfl
              · rw [if_neg t, if_neg t]
                exact c1.2.2.1.2.1 k' hk'
            · have hi' : i < (nsq (trg G ld ex) (G 0) (4 * s + e)).1 + 1 := hi
              simp only
              rw [d3, gA_stF, d2, gA_stA, if_pos rfl, d1]
              by_cases t : i = (nsq (trg G ld ex) (G 0) (4 * s + e)).1
              · rw [if_pos t, if_pos t]
              · rw [if_neg t, if_neg t, gA_stA_row (by decide)]
                exact c1.2.2.1.2.2 i (by omega)
  · intro f k τ hk ⟨a1, a2⟩ hs2
    show wb_X9_number_2 _ _ _ _ _
    have h36 : gF τ 10 36 = nI K := by rw [a1.F (by decide)]; exact n4
    unfold wb_X9_number_2
    rw [h36]
    refine pk_le K k (fun z => by omega) (fun _ => ⟨vp_in_nI (by show k < 64; omega) (by decide), ?_⟩)
    intro τ1 e y ey
    rw [nI_clamp (by omega)] at e
    rw [ey, nI_add]
    refine hs2 _ ⟨by rw [e]; exact a1.stA (by simp), fun i hi => ?_⟩
    rw [e, gA_stA, if_pos rfl]
    by_cases q : i = k
    · rw [if_pos q]; rfl
    · rw [if_neg q]; exact a2 i (by omega)
