/-! ===== read: the partings' end (plain) ===== -/
def Gdn (kp : Nat → Bool) (ld : Nat → Nat) (c m : Nat) : Prop := (∀ i, i ≤ m + 1 → (grs kp ld c i).1 ≤ 60) ∧ (∀ i, i < m → ¬ (grs kp ld c (i + 1)).1 = (grs kp ld c i).1) ∧ (grs kp ld c (m + 1)).1 = (grs kp ld c m).1
def Gfl (kp : Nat → Bool) (ld : Nat → Nat) (c m : Nat) : Prop := (∀ i, i < m → (grs kp ld c i).1 ≤ 60) ∧ (∀ i, i + 1 < m → ¬ (grs kp ld c (i + 1)).1 = (grs kp ld c i).1) ∧ 60 < (grs kp ld c m).1
theorem gdn_gdn {kp : Nat → Bool} {ld : Nat → Nat} {c m k : Nat} (h1 : Gdn kp ld c m) (h2 : Gdn kp ld c k) : m = k := by
  rcases Nat.lt_trichotomy m k with q | q | q
  · exact absurd h1.2.2 (h2.2.1 m q)
  · exact q
  · exact absurd h2.2.2 (h1.2.1 k q)
theorem gdn_gfl {kp : Nat → Bool} {ld : Nat → Nat} {c m k : Nat} (h1 : Gdn kp ld c m) (h2 : Gfl kp ld c k) : False := by
  by_cases q : k ≤ m + 1
  · have := h1.1 k q
    have := h2.2.2
    omega
  · exact h2.2.1 m (by omega) h1.2.2
/-- as long as it parts, the groups grow -/
theorem grs_grow {kp : Nat → Bool} {ld : Nat → Nat} {c m : Nat} (hc : 0 < c) (h : ∀ i, i < m → ¬ (grs kp ld c (i + 1)).1 = (grs kp ld c i).1) : ∀ i, i ≤ m → i + 1 ≤ (grs kp ld c i).1
  | 0, _ => grs_pos hc
  | i + 1, hi => by
    have h1 := grs_grow hc h i (by omega)
    have h2 := h i (by omega)
    have h3 := grs_mono (kp := kp) (ld := ld) (c := c) (i := i)
    omega
theorem gdn_stab {kp : Nat → Bool} {ld : Nat → Nat} {c m a b e : Nat} (hG : Gok c ld) (h : Gdn kp ld c m) (ha : a < c) (hb : b < c) (he : e < 4) (hg : gri kp ld c (m + 2) a = gri kp ld c (m + 2) b) : gri kp ld c (m + 2) (ld (4 * a + e)) = gri kp ld c (m + 2) (ld (4 * b + e)) :=
  grs_stop h.2.2 (hG.2 a e ha he) (hG.2 b e hb he) ((gri_fine ha hb hg).2 e he)
/-- where all that comes after keeps alike, one group -/
theorem gri_one {kp : Nat → Bool} {ld : Nat → Nat} {c : Nat} (hG : Gok c ld) (T : Nat → Prop) (kv : Bool) (hk : ∀ a, a < c → T a → kp a = kv) (hs : ∀ a e, a < c → e < 4 → T a → T (ld (4 * a + e))) : ∀ i a b, a < c → b < c → T a → T b → gri kp ld c i a = gri kp ld c i b
  | 0, a, b, ha, hb, ta, tb => by
    show (if kp a = true then 1 else 0) = (if kp b = true then 1 else 0)
    rw [hk a ha ta, hk b hb tb]
  | i + 1, a, b, ha, hb, ta, tb => gri_fine_of ha hb (gri_one hG T kv hk hs i a b ha hb ta tb) (fun e he => gri_one hG T kv hk hs i _ _ (hG.2 a e ha he) (hG.2 b e hb he) (hs a e ha he ta) (hs b e hb he tb))
theorem gok_of {x : Nat → NdT} {N J : Nat} {s : PQt} (h1 : 4 * s.1 = J) (hq : PWq x N J s) : Gok s.1 s.2.2.2 := ⟨hq.1, fun r e hr he => (hq.2.2.2.2.2 (4 * r + e) (by omega)).2.1⟩
/-- sets of one past that differ are told apart -/
theorem pairs_bit {x : Nat → NdT} {N J m : Nat} {s : PQt} (hP : Pur x N) (h1 : 4 * s.1 = J) (hq : PWq x N J s) (hd : Gdn (kpq x N s) s.2.2.2 s.1 m) {w z : Nat} (hc : Cn x N w z) : Cn x N w z ∧ ∀ a b, 1 ≤ a → a < s.1 → 1 ≤ b → b < s.1 → s.2.1 a = w → s.2.1 b = w → gri (kpq x N s) s.2.2.2 s.1 (m + 2) a = gri (kpq x N s) s.2.2.2 s.1 (m + 2) b → (s.2.2.1 a).testBit z = (s.2.2.1 b).testBit z := by
  refine hc (fun w z => Cn x N w z ∧ ∀ a b, 1 ≤ a → a < s.1 → 1 ≤ b → b < s.1 → s.2.1 a = w → s.2.1 b = w → gri (kpq x N s) s.2.2.2 s.1 (m + 2) a = gri (kpq x N s) s.2.2.2 s.1 (m + 2) b → (s.2.2.1 a).testBit z = (s.2.2.1 b).testBit z) (fun w => ⟨Cn_base x N w, fun a b a1 a2 b1 b2 _ _ e => ?_⟩) (fun w e z' hw he hz ⟨ih1, ih2⟩ => ⟨Cn_step hw he hz ih1, fun a b a1 a2 b1 b2 pa pb g => ?_⟩)
  · have h := gri_kept a2 b2 _ e
    unfold kpq at h
    rw [if_neg (by omega), if_neg (by omega)] at h
    exact h
  · obtain ⟨q1, q2, q3, q4, q5, q6⟩ := hq
    have ka := k4 (w := a) he
    have kb := k4 (w := b) he
    obtain ⟨l1, l2, l3, l4⟩ := q6 (4 * a + e) (by omega)
    obtain ⟨r1, r2, r3, r4⟩ := q6 (4 * b + e) (by omega)
    rw [ka.1, ka.2] at l3 l4
    rw [kb.1, kb.2] at r3 r4
    have na : nxw x N s a e = lbm x N e w z' := by
      unfold nxw
      rw [pa]
      exact hP e w 0 z'
    have nb : nxw x N s b e = lbm x N e w z' := by
      unfold nxw
      rw [pb]
      exact hP e w 0 z'
    have i2 := ih2 _ _ l1 l2 r1 r2 (l3.trans na) (r3.trans nb) (gdn_stab (gok_of h1 ⟨q1, q2, q3, q4, q5, q6⟩) hd a2 b2 he g)
    rw [l4, r4] at i2
    have ba := nxs_bit (x := x) (N := N) (s := s) (r := a) (e := e) (z := z')
    have bb := nxs_bit (x := x) (N := N) (s := s) (r := b) (e := e) (z := z')
    rw [na, pa, if_neg (by omega)] at ba
    rw [nb, pb, if_neg (by omega)] at bb
    have ba' : (nxs x N s a e).testBit z' = true ↔ (s.2.2.1 a).testBit (tlm x N e w z') = true := ⟨fun h => (ba.mp h).2.2, fun h => ba.mpr ⟨hz, ih1, h⟩⟩
    have bb' : (nxs x N s b e).testBit z' = true ↔ (s.2.2.1 b).testBit (tlm x N e w z') = true := ⟨fun h => (bb.mp h).2.2, fun h => bb.mpr ⟨hz, ih1, h⟩⟩
    rw [i2] at ba'
    have h3 := ba'.symm.trans bb'
    cases u : (s.2.2.1 a).testBit (tlm x N e w z') <;> cases v : (s.2.2.1 b).testBit (tlm x N e w z') <;> simp_all
theorem pairs_apart {x : Nat → NdT} {N J m : Nat} {s : PQt} (hP : Pur x N) (h1 : 4 * s.1 = J) (hq : PWq x N J s) (hd : Gdn (kpq x N s) s.2.2.2 s.1 m) {a b : Nat} (a1 : 1 ≤ a) (hab : a < b) (hb : b < s.1) (hp : s.2.1 a = s.2.1 b) : ¬ gri (kpq x N s) s.2.2.2 s.1 (m + 2) a = gri (kpq x N s) s.2.2.2 s.1 (m + 2) b := by
  intro g
  have q := hq
  obtain ⟨q1, q2, q3, q4, q5, q6⟩ := q
  refine q5 a b a1 hab hb ⟨hp, mask_eq (q4 a a1 (by omega)).1 (q4 b (by omega) hb).1 (fun z hz => ?_)⟩
  by_cases u : Cn x N (s.2.1 b) z
  · exact (pairs_bit hP h1 hq hd u).2 a b a1 (by omega) (by omega) hb hp rfl g
  · cases t1 : (s.2.2.1 a).testBit z with
    | true => exact absurd (by rw [← hp]; exact ((q4 a a1 (by omega)).2 z t1).2) u
    | false =>
      cases t2 : (s.2.2.1 b).testBit z with
      | true => exact absurd ((q4 b (by omega) hb).2 z t2).2 u
      | false => rfl
/-- a machine of at most 60 states has at most 60 sets of a past -/
theorem pairs_60 {x : Nat → NdT} {N J m : Nat} {s : PQt} (hP : Pur x N) (h1 : 4 * s.1 = J) (hq : PWq x N J s) (hd : Gdn (kpq x N s) s.2.2.2 s.1 m) (w : Nat) : ctp s.2.1 w s.1 ≤ 60 := by
  have hk : ∀ k, ∃ i, k < ctp s.2.1 w s.1 → i < s.1 ∧ ofp s.2.1 w i = true ∧ fb_ct (ofp s.2.1 w) i = k := fun k => by
    by_cases q : k < ctp s.2.1 w s.1
    · obtain ⟨i, h⟩ := fb_ct_kth q
      exact ⟨i, fun _ => h⟩
    · exact ⟨0, fun z => absurd z q⟩
  have hof : ∀ i, ofp s.2.1 w i = true → 1 ≤ i ∧ s.2.1 i = w := fun i h => by
    unfold ofp at h
    rw [Bool.and_eq_true, decide_eq_true_eq, decide_eq_true_eq] at h
    exact h
  have hf : ∃ f : Nat → Nat, ∀ k, k < ctp s.2.1 w s.1 → f k < s.1 ∧ ofp s.2.1 w (f k) = true ∧ fb_ct (ofp s.2.1 w) (f k) = k := ⟨fun k => Classical.choose (hk k), fun k => Classical.choose_spec (hk k)⟩
  obtain ⟨f, hf⟩ := hf
  refine fb_holes 60 (ctp s.2.1 w s.1) (fun k => gri (kpq x N s) s.2.2.2 s.1 (m + 2) (f k)) (fun k hk => ?_) (fun i k hik hk => ?_)
  · exact gri_lt (hf k hk).1 (fun i hi => hd.1 i (by omega))
  · have fi := hf i (by omega)
    have fk := hf k hk
    have oi := hof _ fi.2.1
    have ok := hof _ fk.2.1
    rcases Nat.lt_trichotomy (f i) (f k) with q | q | q
    · exact pairs_apart hP h1 hq hd oi.1 q fk.1 (oi.2.trans ok.2.symm)
    · rw [q] at fi
      omega
    · exact fun z => pairs_apart hP h1 hq hd ok.1 q fi.1 (ok.2.trans oi.2.symm) z.symm
/-- where the reference is full the class does not come to an end -/
theorem fullM {x : Nat → NdT} {N J j m : Nat} (hP : Pur x N) (h1 : 4 * (pseq x N J).1 = J) (m1 : Mnq x N J) (hq : PWq x N J (pseq x N J)) (hd : Gdn (kpq x N (pseq x N J)) (pseq x N J).2.2.2 (pseq x N J).1 m) (hj : j / 4 < (pseq x N j).1) (m2 : Mnq x N j) (hq2 : PWq x N j (pseq x N j)) (hn : fnd (pseq x N j).2.1 (pseq x N j).2.2.1 (nxw x N (pseq x N j) (j / 4) (j % 4)) (nxs x N (pseq x N j) (j / 4) (j % 4)) (pseq x N j).1 = none) (hc : ctp (pseq x N j).2.1 (nxw x N (pseq x N j) (j / 4) (j % 4)) (pseq x N j).1 = 60) : False := by
  have hlt := pseq_stop h1 hj m2
  have e : pseq x N (j + 1) = ((pseq x N j).1 + 1, (fun k => if k = (pseq x N j).1 then nxw x N (pseq x N j) (j / 4) (j % 4) else (pseq x N j).2.1 k), (fun k => if k = (pseq x N j).1 then nxs x N (pseq x N j) (j / 4) (j % 4) else (pseq x N j).2.2.1 k), fun k => if k = j then (pseq x N j).1 else (pseq x N j).2.2.2 k) := by
    show pst x N j (pseq x N j) = _
    unfold pst
    rw [hn]
  generalize hw : nxw x N (pseq x N j) (j / 4) (j % 4) = w at *
  have hJ : j + 1 + (J - (j + 1)) = J := by omega
  have hle : (pseq x N (j + 1)).1 ≤ (pseq x N (j + 1 + (J - (j + 1)))).1 := pseq_le _
  rw [hJ] at hle
  have e1 : (pseq x N (j + 1)).1 = (pseq x N j).1 + 1 := by rw [e]
  have hold : ∀ i, i < (pseq x N j).1 + 1 → (pseq x N J).2.1 i = (pseq x N (j + 1)).2.1 i := fun i hi => by
    have := (pseq_old (x := x) (N := N) (j := j + 1) (i := i) (by omega) (J - (j + 1))).1
    rw [hJ] at this
    exact this
  have h2 : (pseq x N (j + 1)).2.1 (pseq x N j).1 = w := by rw [e]; simp only [if_true]
  have h3 : ∀ i, i < (pseq x N j).1 → (pseq x N (j + 1)).2.1 i = (pseq x N j).2.1 i := fun i hi => by
    rw [e]
    simp only
    rw [if_neg (by omega)]
  have h61 : ctp (pseq x N J).2.1 w ((pseq x N j).1 + 1) = 61 := by
    unfold ctp at hc ⊢
    rw [fb_ct_succ, fb_ct_cong (q := ofp (pseq x N j).2.1 w) (fun k hk => ?_), hc]
    · have : ofp (pseq x N J).2.1 w (pseq x N j).1 = true := by
        unfold ofp
        rw [hold _ (Nat.lt_succ_self _), h2, decide_eq_true rfl, decide_eq_true hq2.1]
        rfl
      rw [this]
      rfl
    · unfold ofp
      rw [hold k (by omega), h3 k hk]
  have h5 : ctp (pseq x N J).2.1 w ((pseq x N j).1 + 1) ≤ ctp (pseq x N J).2.1 w (pseq x N J).1 := fb_ct_mono _ (by omega)
  have h6 := pairs_60 hP h1 hq hd w
  omega
