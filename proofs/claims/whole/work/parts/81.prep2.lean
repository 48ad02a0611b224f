/-! ===== read: what may come, the reference's ===== -/
def MCa (σ : Sg) (x : Nat → NdT) (N : Nat) : Prop := MNd σ x N ∧ gF σ 10 15 = nI (fbc x N) ∧ gF σ 10 16 = nI (pbc x N) ∧ gF σ 10 18 = nI (aEm x N) ∧ gF σ 10 19 = nI (aFm x N) ∧ MTb σ x N ∧ ∀ w z, w < 2 ^ pbc x N → z < 2 ^ fbc x N → Cb (gA σ 61 (w * 2 ^ fbc x N + z)) (Cn x N w z)
theorem MTb_fr {σ τ : Sg} {x : Nat → NdT} {N : Nat} (h : MTb σ x N) (fr : Fr [10] [61] σ τ) : MTb τ x N := by
  unfold MTb at h ⊢
  rw [fr.A (by decide), fr.A (by decide), fr.A (by decide)]
  exact h
theorem sp_closeM {σ : Sg} {x : Nat → NdT} {N : Nat} {Q : Sg → Prop} (hR : Rok x N) (hP : Pur x N) (h15 : gF σ 10 15 = nI (fbc x N)) (hT : MTb σ x N) (h61 : ∀ i, i < 2 ^ (fbc x N + pbc x N) → gA σ 61 i = bI (decide (i % 2 ^ fbc x N = aEm x N))) (h : ∀ σ', Fr [] [61] σ σ' → (∀ w z, w < 2 ^ pbc x N → z < 2 ^ fbc x N → Cb (gA σ' 61 (w * 2 ^ fbc x N + z)) (Cn x N w z)) → Q σ') : wp_X9_prepare_173 (nI (2 ^ pbc x N)) Q σ := by
  obtain ⟨r0, r9, rk, rb⟩ := id hR
  have hF8 : fbc x N ≤ 8 := by omega
  have hbig := big4 rb
  have h256 := pw8 rb
  have hD0 := Nat.two_pow_pos (fbc x N)
  have hD256 := pw8 hF8
  have hP256 := pw8 (show pbc x N ≤ 8 by omega)
  unfold wp_X9_prepare_173
  refine loop_m (σ := Bool × (Nat → Bool) × Sg) (fun g a => wl_X9_prepare_175 (nI (2 ^ pbc x N)) Q g (bI a.1) a.2.2) (fun a => Fr [] [61] σ a.2.2 ∧ (∀ i, i < 2 ^ (fbc x N + pbc x N) → gA a.2.2 61 i = bI (a.2.1 i)) ∧ Snd x N a.2.1 ∧ (∀ w, w < 2 ^ pbc x N → a.2.1 (w * 2 ^ fbc x N + aEm x N) = true) ∧ (a.1 = false → ∀ b e, b < 2 ^ (fbc x N + pbc x N) → e < 4 → Clp x N a.2.1 b e)) (fun a => (2 ^ (fbc x N + pbc x N) - fb_ct a.2.1 (2 ^ (fbc x N + pbc x N))) * 2 + (if a.1 = true then 1 else 0)) ?_ (true, (fun i => decide (i % 2 ^ fbc x N = aEm x N)), σ) ⟨Fr.rf, h61, fun b hb q => ?_, fun w hw => ?_, fun q => (by cases q)⟩
  · rintro g0 ⟨more, pos, ρ⟩ ⟨a2, a3, a4, a5, a6⟩ hs
    simp only at a2 a3 a4 a5 a6 hs ⊢
    show wb_X9_prepare_175 _ _ _ _ _
    refine bI_br (fun q => h ρ a2 (fun w z hw hz => ⟨_, a3 _ (wz_lt hw hz), clo_all a4 a5 (a6 q) w z hw hz⟩)) (fun q => ?_)
    have hct0 := fb_ct_le pos (2 ^ (fbc x N + pbc x N))
    -- the pass
    refine lq3 (fun g k (add : Bool) (ps : Nat → Bool) (κ : Sg) => wl_X9_prepare_183 (nI (2 ^ pbc x N)) (fun z2 σ9 => wp_X9_prepare_281 (nI (2 ^ pbc x N)) z2 _ Q σ9) Q g (bI add) (nI k) κ) (fun k add ps κ => Fr [] [61] σ κ ∧ (∀ i, i < 2 ^ (fbc x N + pbc x N) → gA κ 61 i = bI (ps i)) ∧ Snd x N ps ∧ (∀ i, pos i = true → ps i = true) ∧ (add = false → ps = pos ∧ ∀ k' z, k' < k → z < 2 ^ fbc x N → Clp x N pos (k' / 4 * 2 ^ fbc x N + z) (k' % 4)) ∧ (add = true → fb_ct pos (2 ^ (fbc x N + pbc x N)) + 1 ≤ fb_ct ps (2 ^ (fbc x N + pbc x N)))) (4 * 2 ^ pbc x N) ?_ ?_ false pos ρ ⟨a2, a3, a4, fun i w => w, fun _ => ⟨rfl, fun k' z hk _ => by omega⟩, fun w => (by cases w)⟩
    · intro g1 add ps κ ⟨c1, c2, c3, c4, c5, c6⟩
      show wb_X9_prepare_183 _ _ _ _ _ _ _
      unfold wb_X9_prepare_183
      rw [pk_mul]
      refine pk_le (4 * 2 ^ pbc x N) (4 * 2 ^ pbc x N) (fun _ => ?_) (fun z => by omega)
      refine hs (add, ps, κ) ⟨c1, c2, c3, fun w hw => c4 _ (a5 w hw), fun w => ?_⟩ ?_
      · obtain ⟨d1, d2⟩ := c5 w
        simp only
        rw [d1]
        intro b e hb he
        obtain ⟨w1, w2, w3⟩ := wz_of hb
        have := d2 (4 * (b / 2 ^ fbc x N) + e) (b % 2 ^ fbc x N) (by omega) w2
        rw [(k4 he).1, (k4 he).2, ← w3] at this
        exact this
      · have hct1 := fb_ct_le ps (2 ^ (fbc x N + pbc x N))
        show (2 ^ (fbc x N + pbc x N) - fb_ct ps (2 ^ (fbc x N + pbc x N))) * 2 + (if add = true then 1 else 0) < (2 ^ (fbc x N + pbc x N) - fb_ct pos (2 ^ (fbc x N + pbc x N))) * 2 + (if more = true then 1 else 0)
        rw [q]
        cases ha : add with
        | false =>
          rw [(c5 ha).1]
          simp
        | true =>
          have := c6 ha
          simp only [if_true]
          omega
    · intro g1 k add ps κ hk ⟨c1, c2, c3, c4, c5, c6⟩ hs3
      show wb_X9_prepare_183 _ _ _ _ _ _ _
      unfold wb_X9_prepare_183
      rw [pk_mul]
      refine pk_le (4 * 2 ^ pbc x N) k (fun z => by omega) (fun _ => ?_)
      refine lq3 (fun g z (add : Bool) (ps : Nat → Bool) (κ : Sg) => wl_X9_prepare_193 (nI (2 ^ pbc x N)) (nI k) (fun z2 σ9 => wp_X9_prepare_275 (nI (2 ^ pbc x N)) z2 (nI k) _ Q σ9) Q g (bI add) (nI z) κ) (fun z add ps κ => Fr [] [61] σ κ ∧ (∀ i, i < 2 ^ (fbc x N + pbc x N) → gA κ 61 i = bI (ps i)) ∧ Snd x N ps ∧ (∀ i, pos i = true → ps i = true) ∧ (add = false → ps = pos ∧ (∀ k' z', k' < k → z' < 2 ^ fbc x N → Clp x N pos (k' / 4 * 2 ^ fbc x N + z') (k' % 4)) ∧ ∀ z', z' < z → Clp x N pos (k / 4 * 2 ^ fbc x N + z') (k % 4)) ∧ (add = true → fb_ct pos (2 ^ (fbc x N + pbc x N)) + 1 ≤ fb_ct ps (2 ^ (fbc x N + pbc x N)))) (2 ^ fbc x N) ?_ ?_ add ps κ ⟨c1, c2, c3, c4, fun w => ⟨(c5 w).1, (c5 w).2, fun z' hz => by omega⟩, c6⟩
      · intro g2 add ps κ ⟨d1, d2, d3, d4, d5, d6⟩
        show wb_X9_prepare_193 _ _ _ _ _ _ _ _
        unfold wb_X9_prepare_193
        refine sp_wide (by rw [d1.F (by decide)]; exact h15) hF8 ?_
        refine pk_le (2 ^ fbc x N) (2 ^ fbc x N) (fun _ => ?_) (fun z => by omega)
        intro y ey
        rw [ey, nI_add]
        refine hs3 add ps κ ⟨d1, d2, d3, d4, fun w => ⟨(d5 w).1, fun k' z hk' hz => ?_⟩, d6⟩
        by_cases r : k' = k
        · rw [r]; exact (d5 w).2.2 z hz
        · exact (d5 w).2.1 k' z (by omega) hz
      · intro g2 z add ps κ hz ⟨d1, d2, d3, d4, d5, d6⟩ hs4
        show wb_X9_prepare_193 _ _ _ _ _ _ _ _
        have c15 : gF κ 10 15 = nI (fbc x N) := by rw [d1.F (by decide)]; exact h15
        have hki := kz_lt hk hz
        have hw : k / 4 < 2 ^ pbc x N := by omega
        have he : k % 4 < 4 := Nat.mod_lt _ (by decide)
        have htl := tlm_lt x N (k % 4) (k / 4) z
        have hlb := lbm_lt x N (k % 4) (k / 4) z
        have hbeh := wz_lt hlb hz
        have hher := wz_lt hw htl
        have hTp : Tpf x N (k * 2 ^ fbc x N + z) = tlm x N (k % 4) (k / 4) z := by
          unfold Tpf
          rw [(kdz hz).1, (kdz hz).2]
        have hLp : Lpf x N k = lbm x N (k % 4) (k / 4) z := hP (k % 4) (k / 4) 0 z
        have t59 : gA κ 59 (k * 2 ^ fbc x N + z) = nI (tlm x N (k % 4) (k / 4) z) := by rw [d1.A (by decide), (hT.1 _ hki).1, hTp]
        have t58 : gA κ 58 k = nI (lbm x N (k % 4) (k / 4) z) := by rw [d1.A (by decide), hT.2 k hk, hLp]
        unfold wb_X9_prepare_193
        refine sp_wide c15 hF8 ?_
        refine pk_le (2 ^ fbc x N) z (fun z => by omega) (fun _ => ?_)
        refine sp_wide c15 hF8 (sp_wide c15 hF8 ?_)
        have hdiv : nI k / nI 4 = nI (k / 4) := pk_div (by omega) (by decide) (by decide)
        rw [pk_mul, nI_add, nI_clamp (by omega), t59, hdiv, pk_mul, nI_add, nI_clamp (by omega), t58]
        refine ⟨vp_in_nI (by show _ < 1024; omega) (by decide), ?_⟩
        intro y ey
        subst ey
        refine ⟨vp_in_nI (by show _ < 1024; omega) (by decide), sp_wide c15 hF8 ?_⟩
        rw [pk_mul, nI_add, nI_clamp (by omega), nI_clamp (by omega), d2 _ hbeh, d2 _ hher]
        have hcl : Clp x N ps (k / 4 * 2 ^ fbc x N + z) (k % 4) ↔ (ps (lbm x N (k % 4) (k / 4) z * 2 ^ fbc x N + z) = true → ps (k / 4 * 2 ^ fbc x N + tlm x N (k % 4) (k / 4) z) = true) := by
          unfold Clp
          rw [(kdz hz).1, (kdz hz).2]
        have skip : Clp x N ps (k / 4 * 2 ^ fbc x N + z) (k % 4) → wp_X9_prepare_269 (nI (2 ^ pbc x N)) (bI add) (nI k) (nI z) (wl_X9_prepare_193 (nI (2 ^ pbc x N)) (nI k) (fun z2 σ9 => wp_X9_prepare_275 (nI (2 ^ pbc x N)) z2 (nI k) (wl_X9_prepare_183 (nI (2 ^ pbc x N)) (fun z2 σ9 => wp_X9_prepare_281 (nI (2 ^ pbc x N)) z2 (wl_X9_prepare_175 (nI (2 ^ pbc x N)) Q g0) Q σ9) Q g1) Q σ9) Q g2) Q κ := by
          intro hc y ey
          rw [ey, nI_add]
          refine hs4 add ps κ ⟨d1, d2, d3, d4, fun w => ⟨(d5 w).1, (d5 w).2.1, fun z' hz' => ?_⟩, d6⟩
          by_cases r : z' = z
          · rw [r, ← (d5 w).1]; exact hc
          · exact (d5 w).2.2 z' (by omega)
        refine ⟨vp_in_nI (by show _ < 256; omega) (by decide), bI_br (fun w => skip (hcl.mpr (fun v => by rw [w] at v; cases v))) (fun w => ⟨vp_in_nI (by show _ < 256; omega) (by decide), bI_rb (fun v => skip (hcl.mpr (fun _ => v))) (fun v => ⟨vp_in_nI (by show _ < 256; omega) (by decide), ?_⟩)⟩)⟩
        intro κ1 e1 y ey
        rw [show vp_nar .boolean (nI 1) = bI true from rfl] at e1
        rw [ey, nI_add]
        refine hs4 true (upb ps (k / 4 * 2 ^ fbc x N + tlm x N (k % 4) (k / 4) z)) κ1 ⟨by rw [e1]; exact d1.stA (by simp), fun i hi => ?_, fun i hi hpi => ?_, fun i hi => ?_, fun q => (by cases q), fun _ => ?_⟩
        · rw [e1, gA_stA, if_pos rfl]
          unfold upb
          by_cases r : i = k / 4 * 2 ^ fbc x N + tlm x N (k % 4) (k / 4) z
          · rw [if_pos r, if_pos r]
          · rw [if_neg r, if_neg r]; exact d2 i hi
        · unfold upb at hpi
          by_cases r : i = k / 4 * 2 ^ fbc x N + tlm x N (k % 4) (k / 4) z
          · rw [r, (wz_dm htl).1, (wz_dm htl).2]
            refine Cn_step hw he hz ?_
            have := d3 _ hbeh w
            rw [(wz_dm hz).1, (wz_dm hz).2] at this
            exact this
          · rw [if_neg r] at hpi; exact d3 i hi hpi
        · unfold upb
          split
          · rfl
          · exact d4 i hi
        · have h1 := upb_ct hher v
          have h2 : fb_ct pos (2 ^ (fbc x N + pbc x N)) ≤ fb_ct ps (2 ^ (fbc x N + pbc x N)) := fb_ct_sub (fun k _ q => d4 k q)
          omega
  · have : b % 2 ^ fbc x N = aEm x N := of_decide_eq_true q
    rw [this]
    exact Cn_base x N _
  · exact decide_eq_true (wz_dm (aEm_lt x N)).2
theorem sp_prepare {σ : Sg} {x : Nat → NdT} {N : Nat} {Q : Sg → Prop} (hR : Rok x N) (hP : Pur x N) (hX : MNd σ x N) (h : ∀ σ', Fr [10] [56, 57, 58, 59, 60, 61] σ σ' → (∀ k, k ∉ [15, 16, 18, 19, 21, 22] → gF σ' 10 k = gF σ 10 k) → MCa σ' x N → Q σ') : wp_X9_prepare σ Q := by
  obtain ⟨r0, r9, rk, rb⟩ := id hR
  have hF8 : fbc x N ≤ 8 := by omega
  have h256 := pw8 rb
  have hP256 := pw8 (show pbc x N ≤ 8 by omega)
  have hD256 := pw8 hF8
  refine sp_layBits hR hX (fun σ1 f1 g1 hB => ?_)
  obtain ⟨b1, b15, b16, b18, b19, b56⟩ := id hB
  intro x10 e10
  rw [b16, nI1shl (by omega)] at e10
  subst e10
  refine sp_prepTables hR hP hB (fun σ2 f2 g2 hT => ?_)
  have c15 : gF σ2 10 15 = nI (fbc x N) := by rw [g2 15 (by decide)]; exact b15
  have c18 : gF σ2 10 18 = nI (aEm x N) := by rw [g2 18 (by decide)]; exact b18
  -- the first of what may come
  unfold wp_X9_prepare_118
  refine lq1 (fun g w (τ : Sg) => wl_X9_prepare_120 (nI (2 ^ pbc x N)) (fun σ9 => wp_X9_prepare_173 (nI (2 ^ pbc x N)) Q σ9) Q g (nI w) τ) (fun w τ => Fr [] [61] σ2 τ ∧ ∀ i, i < w * 2 ^ fbc x N → gA τ 61 i = bI (decide (i % 2 ^ fbc x N = aEm x N))) (2 ^ pbc x N) ?_ ?_ σ2 ⟨Fr.rf, fun i hi => by omega⟩
  · intro g τ ⟨fr, hc⟩
    show wb_X9_prepare_120 _ _ _ _ _ _
    refine pk_le (2 ^ pbc x N) (2 ^ pbc x N) (fun _ => ?_) (fun z => by omega)
    refine sp_closeM hR hP (by rw [fr.F (by decide)]; exact c15) (MTb_fr hT (fr.mono (by simp) (by simp))) (fun i hi => hc i (by rw [Nat.mul_comm, ← Nat.pow_add]; exact hi)) (fun σ3 f3 h3 => ?_)
    have f23 := fr.tr f3
    refine h σ3 ((f1.mono (by simp) (by simp)).tr ((f2.mono (by simp) (by simp)).tr (f23.mono (by simp) (by simp)))) (fun k hk => ?_) ⟨?_, ?_, ?_, ?_, ?_, ?_, h3⟩
    · simp only [List.mem_cons, List.not_mem_nil, or_false, not_or] at hk
      rw [f23.F (by decide), g2 k (by simp [hk]), g1 k (by simp [hk])]
    · have hB2 := MBt_fr hB f2 g2
      unfold MBt MNd at hB2
      unfold MNd
      rw [f23.F (by decide), f23.A (by decide), f23.A (by decide), f23.A (by decide)]
      exact hB2.1
    · rw [f23.F (by decide)]; exact c15
    · rw [f23.F (by decide), g2 16 (by decide)]; exact b16
    · rw [f23.F (by decide)]; exact c18
    · rw [f23.F (by decide), g2 19 (by decide)]; exact b19
    · exact MTb_fr hT (f23.mono (by simp) (by simp))
  · intro g1 w τ hw ⟨fr, hc⟩ hs2
    show wb_X9_prepare_120 _ _ _ _ _ _
    refine pk_le (2 ^ pbc x N) w (fun z => by omega) (fun _ => ?_)
    refine lq1 (fun g z (τ : Sg) => wl_X9_prepare_127 (nI (2 ^ pbc x N)) (nI w) (fun σ9 => wp_X9_prepare_167 (nI (2 ^ pbc x N)) (nI w) _ Q σ9) Q g (nI z) τ) (fun z τ => Fr [] [61] σ2 τ ∧ ∀ i, i < w * 2 ^ fbc x N + z → gA τ 61 i = bI (decide (i % 2 ^ fbc x N = aEm x N))) (2 ^ fbc x N) ?_ ?_ τ ⟨fr, hc⟩
    · intro g ρ ⟨fr2, hc2⟩
      show wb_X9_prepare_127 _ _ _ _ _ _ _
      unfold wb_X9_prepare_127
      refine sp_wide (by rw [fr2.F (by decide)]; exact c15) hF8 ?_
      refine pk_le (2 ^ fbc x N) (2 ^ fbc x N) (fun _ => ?_) (fun z => by omega)
      intro y ey
      rw [ey, nI_add]
      refine hs2 ρ ⟨fr2, fun i hi => hc2 i ?_⟩
      rw [Nat.add_mul, Nat.one_mul] at hi; exact hi
    · intro g2 z ρ hz ⟨fr2, hc2⟩ hs3
      show wb_X9_prepare_127 _ _ _ _ _ _ _
      have q15 : gF ρ 10 15 = nI (fbc x N) := by rw [fr2.F (by decide)]; exact c15
      have hidx := wz_lt hw hz
      have hae := aEm_lt x N
      unfold wb_X9_prepare_127
      refine sp_wide q15 hF8 ?_
      refine pk_le (2 ^ fbc x N) z (fun z => by omega) (fun _ => ?_)
      refine sp_wide q15 hF8 ?_
      rw [fr2.F (by decide), c18]
      have fin : ∀ v : Bool, v = decide (z = aEm x N) → wp_X9_prepare_160 (nI (2 ^ pbc x N)) (nI w) (nI z) (bI v) (nI w * nI (2 ^ fbc x N) + nI z) (wl_X9_prepare_127 (nI (2 ^ pbc x N)) (nI w) (fun σ9 => wp_X9_prepare_167 (nI (2 ^ pbc x N)) (nI w) (wl_X9_prepare_120 (nI (2 ^ pbc x N)) (fun σ9 => wp_X9_prepare_173 (nI (2 ^ pbc x N)) Q σ9) Q g1) Q σ9) Q g2) Q ρ := by
        intro v hv
        unfold wp_X9_prepare_160
        rw [pk_mul, nI_add, nI_clamp (by omega), nar_bI]
        refine ⟨vp_in_nI (by show _ < 256; omega) (by decide), ?_⟩
        intro ρ1 e1 y ey
        rw [ey, nI_add]
        refine hs3 ρ1 ⟨by rw [e1]; exact fr2.stA (by simp), fun i hi => ?_⟩
        rw [e1, gA_stA, if_pos rfl]
        by_cases q : i = w * 2 ^ fbc x N + z
        · rw [if_pos q, q, (wz_dm hz).2, hv]
        · rw [if_neg q]; exact hc2 i (by omega)
      refine (pk_eq z (aEm x N) (fun q => fin true (decide_eq_true q).symm) (fun q => fin false (decide_eq_false q).symm)).symm
