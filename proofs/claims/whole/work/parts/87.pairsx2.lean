/-! ===== read: the pairs, the class's follow ===== -/
def XPo (σ : Sg) (x : Nat → NdT) (N : Nat) : Prop := XCa σ x N ∧ ∀ w z, w < 2 ^ pbc x N → z < 2 ^ fbc x N → Cb (gA σ 21 (w * 2 ^ fbc x N + z)) (Cn x N w z)
theorem XPo_fr {σ τ : Sg} {x : Nat → NdT} {N : Nat} (h : XPo σ x N) (fr : Fr [4] [22, 23, 24, 25, 26, 27, 28] σ τ) : XPo τ x N := by
  unfold XPo XCa at h ⊢
  rw [fr.F (by decide), fr.A (by decide), fr.A (by decide), fr.A (by decide)]
  exact h
theorem RXq_fr {σ0 σ τ : Sg} {x : Nat → NdT} {N : Nat} {s : PQt} (h : RXq σ0 σ x N s) (fr : Fr [4] [24, 28] σ τ) (g : ∀ k, k ≠ 7 → gF τ 4 k = gF σ 4 k) : RXq σ0 τ x N s := by
  obtain ⟨f, h8, h9, h10, hm, h22, h23, h26⟩ := h
  refine ⟨f.tr (fr.mono (by simp) (by simp)), by rw [g 8 (by decide)]; exact h8, by rw [g 9 (by decide)]; exact h9, by rw [g 10 (by decide)]; exact h10, hm, ?_, ?_, ?_⟩
  · rw [fr.A (by decide), fr.A (by decide)]; exact h22
  · rw [fr.L (by decide), fr.A (by decide)]; exact h23
  · rw [fr.A (by decide)]; exact h26
theorem sp_follow {σ0 σ : Sg} {x : Nat → NdT} {N r e j : Nat} {s : PQt} {Q : Sg → Prop} (hR : Rok x N) (hC : XPo σ0 x N) (hX : RXq σ0 σ x N s) (hq : PWq x N j s) (hr : r < s.1) (he : e < 4) (h : ∀ σ', Fr [4] [28] σ σ' → (∀ k, k ≠ 7 → gF σ' 4 k = gF σ 4 k) → gF σ' 4 7 = nI (nxw x N s r e) → (∀ q, q < nwd (fbc x N) → gL σ' 28 q = lN (wrd (nxs x N s r e) q)) → Q σ') : wp_X4_follow (nI r) (nI e) σ Q := by
  obtain ⟨r0, r9, rk, rb⟩ := id hR
  have hF8 : fbc x N ≤ 8 := by omega
  have h256 := pw8 rb
  have hD256 := pw8 hF8
  have hD0 := Nat.two_pow_pos (fbc x N)
  obtain ⟨n1, n2⟩ := nwd_ok hF8
  have hmo := mostq_le (pbc x N)
  have hsm := hX.2.2.2.2.1
  refine lq1 (fun g v (τ : Sg) => wl_X4_follow_3 (nI r) (nI e) (fun σ9 => wp_X4_follow_28 (nI r) (nI e) Q σ9) Q g (nI v) τ) (fun v τ => Fr [] [28] σ τ ∧ ∀ q, q < v → gL τ 28 q = lN 0) (nwd (fbc x N)) ?_ ?_ σ ⟨Fr.rf, fun q hq => by omega⟩
  · intro g τ ⟨fr, hz⟩
    show wb_X4_follow_3 _ _ _ _ _ _ _
    unfold wb_X4_follow_3
    rw [fr.F (by decide), hX.2.1]
    refine pk_le (nwd (fbc x N)) (nwd (fbc x N)) (fun _ => ?_) (fun z => by omega)
    show wp_X4_follow_28 _ _ _ _
    have hXτ : RXq σ0 τ x N s := RXq_fr hX (fr.mono (by simp) (by simp)) (fun k _ => by rw [fr.F (by decide)])
    have hCτ := XPo_fr hC hXτ.1
    have hps := hq.2.2.1 r hr
    have c3 : gF τ 3 3 = nI (fbc x N) := hCτ.1.1
    have hlb := lbm_lt x N e (s.2.1 r) 0
    have htl := tlm_lt x N e (s.2.1 r) 0
    have hidx := wz_lt hps hD0
    have hturn := wz_lt hlb htl
    refine sp_pick (k := r) rfl (by show r < 1921; omega) ?_
    rw [(hXτ.2.2.2.2.2.1 r hr).1]
    refine sp_both2 (F := fbc x N) (P := pbc x N) (z := 0) rfl rfl c3 rb hps hD0 ?_
    refine sp_pick (k := (s.2.1 r * 2 ^ fbc x N + 0) * 4 + e) (by rw [pk_mul, nI_add]) (by show _ < 1024; omega) ?_
    rw [(hCτ.1.2.2.2 (s.2.1 r) 0 e hps hD0 he).1]
    refine sp_pastOf (b := lbm x N e (s.2.1 r) 0 * 2 ^ fbc x N + tlm x N e (s.2.1 r) 0) rfl c3 hF8 (by omega) ?_
    rw [(wz_dm htl).1]
    intro σ9 e9
    have f9 : Fr [4] [28] σ σ9 := by rw [e9]; exact (fr.mono (by simp) (by simp)).stF (by simp)
    have g9 : ∀ k, k ≠ 7 → gF σ9 4 k = gF σ 4 k := fun k hk => by rw [e9, gF_stF, if_pos rfl, if_neg hk, fr.F (by decide)]
    have q7 : gF σ9 4 7 = nI (nxw x N s r e) := by rw [e9, gF_stF, if_pos rfl, if_pos rfl]; rfl
    have hz9 : ∀ q, q < nwd (fbc x N) → gL σ9 28 q = lN 0 := fun q hq => by rw [e9]; exact hz q hq
    clear e9
    have hw : nxw x N s r e < 2 ^ pbc x N := hlb
    have hX9 : RXq σ0 σ9 x N s := RXq_fr hX (f9.mono (by simp) (by simp)) g9
    -- the futures
    refine lq1 (fun g z (κ : Sg) => wl_X4_follow_61 (nI r) (nI e) (nI (s.2.1 r)) Q g (nI z) κ) (fun z κ => Fr [] [28] σ9 κ ∧ ∀ q, q < nwd (fbc x N) → gL κ 28 q = lN (wrd (bc (fun z => cnb x N (nxw x N s r e) z && (if r = 0 then rtm x N e (s.2.1 r) z else (s.2.2.1 r).testBit (tlm x N e (s.2.1 r) z))) id z) q)) (2 ^ fbc x N) ?_ ?_ σ9 ⟨Fr.rf, fun q hq => by rw [hz9 q hq]; show lN 0 = lN (wrd 0 q); rw [wrd_0]⟩
    · intro g κ ⟨f1, hk⟩
      show wb_X4_follow_61 _ _ _ _ _ _ _
      unfold wb_X4_follow_61
      have d3 : gF κ 3 3 = nI (fbc x N) := by rw [f1.F (by decide)]; exact (XPo_fr hC hX9.1).1.1
      refine sp_futures d3 hF8 ?_
      refine pk_le (2 ^ fbc x N) (2 ^ fbc x N) (fun _ => h κ (f9.tr (f1.mono (by simp) (by simp))) (fun k hk => by rw [f1.F (by decide)]; exact g9 k hk) (by rw [f1.F (by decide)]; exact q7) hk) (fun z => by omega)
    · intro g z κ hz ⟨f1, hk⟩ hs2
      show wb_X4_follow_61 _ _ _ _ _ _ _
      have hXκ : RXq σ0 κ x N s := RXq_fr hX9 (f1.mono (by simp) (by simp)) (fun k _ => by rw [f1.F (by decide)])
      have hCκ := XPo_fr hC hXκ.1
      have d3 : gF κ 3 3 = nI (fbc x N) := hCκ.1.1
      have htl2 := tlm_lt x N e (s.2.1 r) z
      have hlb2 := lbm_lt x N e (s.2.1 r) z
      have hi1 := wz_lt hps hz
      have hi2 := wz_lt hw hz
      have hi3 := wz_lt hlb2 htl2
      unfold wb_X4_follow_61
      refine sp_futures d3 hF8 ?_
      refine pk_le (2 ^ fbc x N) z (fun z => by omega) (fun _ => ?_)
      refine sp_both2 (F := fbc x N) (P := pbc x N) rfl rfl d3 rb hps hz ?_
      refine sp_both2 (F := fbc x N) (P := pbc x N) (by rw [f1.F (by decide)]; exact q7) rfl d3 rb hw hz ?_
      have no : (cnb x N (nxw x N s r e) z && (if r = 0 then rtm x N e (s.2.1 r) z else (s.2.2.1 r).testBit (tlm x N e (s.2.1 r) z))) = false → wp_X4_follow_172 (nI r) (nI e) (nI (s.2.1 r)) (nI z) (wl_X4_follow_61 (nI r) (nI e) (nI (s.2.1 r)) Q g) Q κ := by
        intro q y ey
        rw [ey, nI_add]
        refine hs2 κ ⟨f1, fun q' hq' => ?_⟩
        simp only [bc, q, Bool.false_eq_true, if_false]
        exact hk q' hq'
      have yes : (cnb x N (nxw x N s r e) z && (if r = 0 then rtm x N e (s.2.1 r) z else (s.2.2.1 r).testBit (tlm x N e (s.2.1 r) z))) = true → wp_X4_follow_140 (nI r) (nI e) (nI (s.2.1 r)) (nI z) (wl_X4_follow_61 (nI r) (nI e) (nI (s.2.1 r)) Q g) Q κ := by
        intro q
        have hd : nI z / nI 64 = nI (z / 64) := pk_div (by omega) (by decide) (by decide)
        have hrem : iREM (nI z) (nI 64) = nI (z % 64) := pk_rem (by omega) (by decide) (by decide)
        have hqq : z / 64 < nwd (fbc x N) := by omega
        have hm64 : z % 64 < 64 := Nat.mod_lt z (by decide)
        unfold wp_X4_follow_140
        rw [hd, hrem]
        refine sp_pickLong (k := z / 64) rfl (by show _ < 4; omega) ?_
        rw [hk _ hqq]
        have e1 : lSHL (lN 1) (nI (z % 64)) = lN (2 ^ (z % 64)) := by
          have := wb_shl 1 (k := z % 64) hm64
          rw [Nat.one_mul] at this
          exact this
        rw [e1, wb_or (wrd_lt _ _) (Nat.pow_lt_pow_right (by decide) hm64)]
        refine sp_putLong (k := z / 64) rfl (by show _ < 4; omega) ?_
        intro y ey
        rw [ey, nI_add]
        refine hs2 _ ⟨f1.stL (by simp), fun q' hq' => ?_⟩
        rw [gL_stL, if_pos rfl]
        simp only [bc, q, if_true, id]
        rw [wrd_or]
        by_cases w : q' = z / 64
        · rw [if_pos w, if_pos w, w]
        · rw [if_neg w, if_neg w]; exact hk q' hq'
      refine sp_isSet (k := nxw x N s r e * 2 ^ fbc x N + z) rfl (by show _ < 256; omega) (cb_cnb (hCκ.2 _ z hw hz)) ⟨bI_bl _, ?_⟩
      refine bI_rb (fun q => ?_) (fun q => no (by rw [q]; rfl))
      refine sp_pick (k := (s.2.1 r * 2 ^ fbc x N + z) * 4 + e) (by rw [pk_mul, nI_add]) (by show _ < 1024; omega) ?_
      rw [(hCκ.1.2.2.2 (s.2.1 r) z e hps hz he).1]
      refine sp_futureOf (b := lbm x N e (s.2.1 r) z * 2 ^ fbc x N + tlm x N e (s.2.1 r) z) rfl d3 hF8 (by omega) ?_
      rw [(wz_dm htl2).2]
      refine (pk_eq r 0 (fun q0 => ?_) (fun q0 => ?_)).symm
      · refine sp_isSet (k := (s.2.1 r * 2 ^ fbc x N + z) * 4 + e) (by rw [pk_mul, nI_add]) (by show _ < 1024; omega) (hCκ.1.2.2.2 (s.2.1 r) z e hps hz he).2 ⟨bI_bl _, ?_⟩
        exact bI_br (fun w => no (by rw [if_pos q0, w, Bool.and_false])) (fun w => yes (by rw [if_pos q0, w, q]; rfl))
      · refine sp_isIn hF8 hXκ rfl rfl (by omega) hr htl2 ?_
        exact bI_br (fun w => no (by rw [if_neg q0, w, Bool.and_false])) (fun w => yes (by rw [if_neg q0, w, q]; rfl))
  · intro g v τ hv ⟨fr, hz⟩ hs2
    show wb_X4_follow_3 _ _ _ _ _ _ _
    unfold wb_X4_follow_3
    rw [fr.F (by decide), hX.2.1]
    refine pk_le (nwd (fbc x N)) v (fun z => by omega) (fun _ => ?_)
    refine sp_putLong (k := v) rfl (by show v < 4; omega) ?_
    intro y ey
    rw [ey, nI_add]
    refine hs2 _ ⟨fr.stL (by simp), fun q hq' => ?_⟩
    rw [gL_stL, if_pos rfl]
    by_cases w : q = v
    · rw [if_pos w]
    · rw [if_neg w]; exact hz q (by omega)
