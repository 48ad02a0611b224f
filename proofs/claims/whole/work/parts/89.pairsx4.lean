/-! ===== read: the pairs, the class's new one ===== -/
theorem sp_isIn0 {σ : Sg} {F r z T : Nat} {a b : Int32} {Q : Int32 → Sg → Prop} (hF8 : F ≤ 8) (ha : a = nI r) (hb : b = nI z) (hr : r < 1921) (hz : z < 2 ^ F) (h23 : ∀ q, q < nwd F → gL σ 23 (r * 4 + q) = lN (wrd T q)) (h : Q (bI (T.testBit z)) σ) : wp_X4_isIn a b σ Q := by
  subst ha hb
  have hD256 := pw8 hF8
  obtain ⟨n1, n2⟩ := nwd_ok hF8
  have hd : nI z / nI 64 = nI (z / 64) := pk_div (by omega) (by decide) (by decide)
  have hrem : iREM (nI z) (nI 64) = nI (z % 64) := pk_rem (by omega) (by decide) (by decide)
  have hq : z / 64 < nwd F := by omega
  refine sp_pickLong (k := r * 4 + z / 64) (by rw [hd, pk_mul, nI_add]) (by show _ < 7684; omega) ?_
  rw [h23 _ hq, hrem]
  refine sp_hasBit rfl (wrd_lt _ _) rfl (Nat.mod_lt z (by decide : 0 < 64)) ?_
  rw [wrd_at]
  exact ⟨bI_bl _, h⟩
theorem sp_addWork {σ0 σ : Sg} {x : Nat → NdT} {N w S j : Nat} {s : PQt} {Q : Int32 → Sg → Prop} (hR : Rok x N) (hC : XPo σ0 x N) (hX : RXq σ0 σ x N s) (hq : PWq x N j s) (hw : w < 2 ^ pbc x N) (h7 : gF σ 4 7 = nI w) (h28 : ∀ q, q < nwd (fbc x N) → gL σ 28 q = lN (wrd S q)) (hfull : s.1 = mostq (pbc x N) → Q (-9) σ) (hnew : s.1 < mostq (pbc x N) → ∀ σ' ld', Fr [4] [22, 23, 25, 26, 27] σ σ' → RXq σ0 σ' x N (s.1 + 1, (fun k => if k = s.1 then w else s.2.1 k), (fun k => if k = s.1 then S else s.2.2.1 k), ld') → Q (nI s.1) σ') : wp_X4_addWork σ Q := by
  obtain ⟨r0, r9, rk, rb⟩ := id hR
  have hF8 : fbc x N ≤ 8 := by omega
  have hP256 := pw8 (show pbc x N ≤ 8 by omega)
  have hD256 := pw8 hF8
  obtain ⟨n1, n2⟩ := nwd_ok hF8
  have hmo := mostq_le (pbc x N)
  have hc1 := hq.1
  obtain ⟨fr, h8, h9, h10, hm, h22, h23, h26⟩ := hX
  unfold wp_X4_addWork
  rw [h10, h9]
  refine pk_lt s.1 (mostq (pbc x N)) (fun hlt => ?_) (fun hge => hfull (by omega))
  intro x18 e18
  subst e18
  rw [h7]
  refine sp_put (k := s.1) rfl (by show s.1 < 1921; omega) ?_
  have f1 : Fr [] [22, 23] σ (stA σ 22 s.1 (nI w)) := Fr.rf.stA (by simp)
  have b22 : ∀ i, gA (stA σ 22 s.1 (nI w)) 22 i = if i = s.1 then nI w else gA σ 22 i := fun i => by rw [gA_stA, if_pos rfl]
  have b23 : gL (stA σ 22 s.1 (nI w)) 23 = gL σ 23 := rfl
  generalize stA σ 22 s.1 (nI w) = σ1 at f1 b22 b23
  refine lq1 (fun g v (τ : Sg) => wl_X4_addWork_33 (nI s.1) (fun σ9 => wp_X4_addWork_67 (nI s.1) Q σ9) Q g (nI v) τ) (fun v τ => Fr [] [22, 23] σ τ ∧ gA τ 22 = gA σ1 22 ∧ (∀ q, q < v → gL τ 23 (s.1 * 4 + q) = lN (wrd S q)) ∧ ∀ i, i < s.1 * 4 → gL τ 23 i = gL σ 23 i) (nwd (fbc x N)) ?_ ?_ σ1 ⟨f1, rfl, fun q hq => by omega, fun i _ => by rw [b23]⟩
  · intro g τ ⟨t0, t1, t2, t3⟩
    show wb_X4_addWork_33 _ _ _ _ _ _
    unfold wb_X4_addWork_33
    rw [t0.F (by decide), h8]
    refine pk_le (nwd (fbc x N)) (nwd (fbc x N)) (fun _ => ?_) (fun z => by omega)
    show wp_X4_addWork_67 _ _ _
    have hae := aEm_lt x N
    have hnp := wz_lt (aFm_lt x N) hae
    have h256 := pw8 rb
    have d3 : gF τ 3 3 = nI (fbc x N) := by rw [t0.F (by decide), fr.F (by decide)]; exact hC.1.1
    have d5 : gF τ 3 5 = nI (aFm x N * 2 ^ fbc x N + aEm x N) := by rw [t0.F (by decide), fr.F (by decide)]; exact hC.1.2.2.1
    unfold wp_X4_addWork_67 wp_X0_noPlace
    refine sp_futureOf (b := aFm x N * 2 ^ fbc x N + aEm x N) d5 d3 hF8 (by omega) ?_
    rw [(wz_dm hae).2]
    refine sp_isIn0 (T := S) hF8 rfl rfl (by omega) hae t2 ?_
    refine sp_set (k := s.1) (b := S.testBit (aEm x N)) rfl (by show s.1 < 1921; omega) rfl ?_
    have d7 : gF τ 4 7 = nI w := by rw [t0.F (by decide)]; exact h7
    refine sp_pick (k := w) d7 (by show w < 256; omega) ?_
    rw [gA_stA_row (by decide), t0.A (by decide), h26 w hw]
    refine sp_put (k := s.1) rfl (by show s.1 < 1921; omega) ?_
    refine sp_put (k := w) d7 (by show w < 256; omega) ?_
    intro σ12 e12
    have w10 : gF (stA (stA (stA τ 25 s.1 (bI (S.testBit (aEm x N)))) 27 s.1 (oI (lst s.2.1 w s.1))) 26 w (nI s.1)) 4 10 + nI 1 = nI (s.1 + 1) := by
      show gF τ 4 10 + nI 1 = _
      rw [t0.F (by decide), h10, nI_add]
    rw [w10] at e12
    have frT : Fr [4] [22, 23, 25, 26, 27] σ σ12 := by
      rw [e12]
      exact ((((t0.mono (by simp) (by simp)).stA (by simp)).stA (by simp)).stA (by simp)).stF (by simp)
    have g4 : ∀ k, gF σ12 4 k = if k = 10 then nI (s.1 + 1) else gF σ 4 k := by
      intro k
      rw [e12, gF_stF, if_pos rfl]
      show (if k = 10 then _ else gF τ 4 k) = _
      rw [t0.F (by decide)]
    have q25 : ∀ i, gA σ12 25 i = if i = s.1 then bI (S.testBit (aEm x N)) else gA σ 25 i := by
      intro i
      rw [e12, gA_stF, gA_stA_row (by decide), gA_stA_row (by decide), gA_stA, if_pos rfl, t0.A (by decide)]
    have q27 : ∀ i, gA σ12 27 i = if i = s.1 then oI (lst s.2.1 w s.1) else gA σ 27 i := by
      intro i
      rw [e12, gA_stF, gA_stA_row (by decide), gA_stA, if_pos rfl, gA_stA_row (by decide), t0.A (by decide)]
    have q26 : ∀ i, gA σ12 26 i = if i = w then nI s.1 else gA σ 26 i := by
      intro i
      rw [e12, gA_stF, gA_stA, if_pos rfl, gA_stA_row (by decide), gA_stA_row (by decide), t0.A (by decide)]
    have q22 : ∀ i, gA σ12 22 i = if i = s.1 then nI w else gA σ 22 i := by
      intro i
      rw [e12, gA_stF, gA_stA_row (by decide), gA_stA_row (by decide), gA_stA_row (by decide), t1]
      exact b22 i
    have q23 : gL σ12 23 = gL τ 23 := by rw [e12]; rfl
    clear e12 w10
    refine hnew hlt σ12 s.2.2.2 frT ⟨fr.tr (frT.mono (by simp) (by simp)), by rw [g4, if_neg (by decide)]; exact h8, by rw [g4, if_neg (by decide)]; exact h9, by rw [g4, if_pos rfl], hlt, fun r hr => ?_, fun r r1 hr => ?_, fun v hv => ?_⟩
    · simp only at hr ⊢
      rw [q22, q25]
      by_cases q : r = s.1
      · rw [if_pos q, if_pos q, if_pos q]
        refine ⟨rfl, ?_⟩
        unfold kpq
        rw [if_neg (by omega)]
        simp only [if_pos q]
      · rw [if_neg q, if_neg q, if_neg q]
        obtain ⟨p1, p2⟩ := h22 r (by omega)
        refine ⟨p1, p2.trans ?_⟩
        unfold kpq
        simp only [if_neg q]
    · simp only at hr ⊢
      rw [q23, q27]
      by_cases q : r = s.1
      · rw [if_pos q, if_pos q, if_pos q]
        refine ⟨fun q' hq' => by rw [q]; exact t2 q' hq', ?_⟩
        rw [q]
        congr 1
        exact (lst_old s.1 (fun k hk => by simp only [if_neg (show ¬ k = s.1 by omega)])).symm
      · rw [if_neg q, if_neg q, if_neg q]
        obtain ⟨p1, p2⟩ := h23 r r1 (by omega)
        refine ⟨fun q' hq' => ?_, p2.trans ?_⟩
        · rw [t3 _ (by omega)]; exact p1 q' hq'
        · congr 1
          exact (lst_old r (fun k hk => by simp only [if_neg (show ¬ k = s.1 by omega)])).symm
    · simp only
      rw [q26]
      have hl : lst (fun k => if k = s.1 then w else s.2.1 k) v (s.1 + 1) = if w = v then some s.1 else lst s.2.1 v s.1 := by
        show (if 1 ≤ s.1 ∧ (if s.1 = s.1 then w else s.2.1 s.1) = v then some s.1 else lst (fun k => if k = s.1 then w else s.2.1 k) v s.1) = _
        rw [if_pos (rfl : s.1 = s.1), lst_old (ps := s.2.1) (ps' := fun k => if k = s.1 then w else s.2.1 k) s.1 (fun k hk => by simp only [if_neg (show ¬ k = s.1 by omega)])]
        by_cases q : w = v
        · rw [if_pos ⟨hc1, q⟩, if_pos q]
        · rw [if_neg (fun z => q z.2), if_neg q]
      rw [hl]
      by_cases q : v = w
      · rw [if_pos q, if_pos q.symm]; rfl
      · rw [if_neg q, if_neg (fun z => q z.symm)]; exact h26 v hv
  · intro g v τ hv ⟨t0, t1, t2, t3⟩ hs2
    show wb_X4_addWork_33 _ _ _ _ _ _
    unfold wb_X4_addWork_33
    rw [t0.F (by decide), h8]
    refine pk_le (nwd (fbc x N)) v (fun z => by omega) (fun _ => ?_)
    refine sp_pickLong (k := v) rfl (by show v < 4; omega) ?_
    rw [t0.L (by decide), h28 v hv]
    refine sp_putLong (k := s.1 * 4 + v) (by rw [pk_mul, nI_add]) (by show _ < 7684; omega) ?_
    intro y ey
    rw [ey, nI_add]
    refine hs2 _ ⟨t0.stL (by simp), t1, fun q hq' => ?_, fun i hi => ?_⟩
    · rw [gL_stL, if_pos rfl]
      by_cases c : q = v
      · rw [if_pos (by omega), c]
      · rw [if_neg (by omega)]; exact t2 q (by omega)
    · rw [gL_stL, if_pos rfl, if_neg (by omega)]
      exact t3 i hi
