/-! ===== read: both ways to the least machine ===== -/
noncomputable def rdk (x : Nat → NdT) (N J : Nat) : Nat → Bool := kpq x N (pseq x N J)
noncomputable def rdl (x : Nat → NdT) (N J : Nat) : Nat → Nat := (pseq x N J).2.2.2
noncomputable def rdc (x : Nat → NdT) (N J : Nat) : Nat := (pseq x N J).1
noncomputable def rdG (x : Nat → NdT) (N J m : Nat) : Nat → Nat := gri (rdk x N J) (rdl x N J) (rdc x N J) (m + 2)
noncomputable def rdS (x : Nat → NdT) (N J m : Nat) : GSt := grs (rdk x N J) (rdl x N J) (rdc x N J) (m + 1)
noncomputable def rdT (x : Nat → NdT) (N J m : Nat) : Nat → Nat → Nat := trg (rdG x N J m) (rdl x N J) (rdS x N J m).2.1
noncomputable def rdQ (x : Nat → NdT) (N J m J' : Nat) : NSt := nsq (rdT x N J m) (rdG x N J m 0) J'
noncomputable def rdK (x : Nat → NdT) (N J m J' : Nat) : Nat → Bool := fkp (rdQ x N J m J') (rdk x N J) (rdS x N J m).2.1
noncomputable def rdV (x : Nat → NdT) (N J m J' : Nat) : Nat → Nat := fvd (fto (rdQ x N J m J')) (rdK x N J m J')
def ROk (x : Nat → NdT) (N J m J' : Nat) : Prop := 4 * (pseq x N J).1 = J ∧ PWq x N J (pseq x N J) ∧ Mnq x N J ∧ Gdn (rdk x N J) (rdl x N J) (rdc x N J) m ∧ 4 * (rdQ x N J m J').1 = J' ∧ NWq (rdS x N J m).1 (rdG x N J m 0) (rdT x N J m) J' (rdQ x N J m J') ∧ Nmn (rdT x N J m) (rdG x N J m 0) J'
def Rno (x : Nat → NdT) (N : Nat) : Prop := ∀ J m J', ¬ ROk x N J m J'
theorem rok_uniq {x : Nat → NdT} {N J m J' K k K' : Nat} (h1 : ROk x N J m J') (h2 : ROk x N K k K') : J = K ∧ m = k ∧ J' = K' := by
  obtain ⟨a1, a2, a3, a4, a5, a6, a7⟩ := h1
  obtain ⟨b1, b2, b3, b4, b5, b6, b7⟩ := h2
  have e1 := pseq_end a1 a3 b1 b3
  subst e1
  have e2 := gdn_gdn a4 b4
  subst e2
  exact ⟨rfl, rfl, nsq_end a5 a7 b5 b7⟩
theorem rno_gfl {x : Nat → NdT} {N J m : Nat} (h1 : 4 * (pseq x N J).1 = J) (m1 : Mnq x N J) (hf : Gfl (rdk x N J) (rdl x N J) (rdc x N J) m) : Rno x N := by
  rintro K k K' ⟨b1, b2, b3, b4, b5, b6, b7⟩
  have e1 := pseq_end h1 m1 b1 b3
  subst e1
  exact gdn_gfl b4 hf
theorem rno_X {x : Nat → NdT} {N j : Nat} (hP : Pur x N) (h8 : fbc x N + pbc x N ≤ 8) (h2 : j / 4 < (pseq x N j).1) (m2 : Mnq x N j) (hn : fnd (pseq x N j).2.1 (pseq x N j).2.2.1 (nxw x N (pseq x N j) (j / 4) (j % 4)) (nxs x N (pseq x N j) (j / 4) (j % 4)) (pseq x N j).1 = none) (hc : (pseq x N j).1 = mostq (pbc x N)) : Rno x N := by
  rintro K k K' ⟨b1, b2, b3, b4, b5, b6, b7⟩
  exact stopX h8 b1 b2 (fun w _ => pairs_60 hP b1 b2 b4 w) h2 m2 hn hc
theorem rno_M {x : Nat → NdT} {N j : Nat} (hP : Pur x N) (hj : j / 4 < (pseq x N j).1) (m2 : Mnq x N j) (hq2 : PWq x N j (pseq x N j)) (hn : fnd (pseq x N j).2.1 (pseq x N j).2.2.1 (nxw x N (pseq x N j) (j / 4) (j % 4)) (nxs x N (pseq x N j) (j / 4) (j % 4)) (pseq x N j).1 = none) (hc : ctp (pseq x N j).2.1 (nxw x N (pseq x N j) (j / 4) (j % 4)) (pseq x N j).1 = 60) : Rno x N := by
  rintro K k K' ⟨b1, b2, b3, b4, b5, b6, b7⟩
  exact fullM hP b1 b3 b2 b4 hj m2 hq2 hn hc
theorem rok_nok {x : Nat → NdT} {N J m : Nat} (h1 : 4 * (pseq x N J).1 = J) (hq : PWq x N J (pseq x N J)) (hd : Gdn (rdk x N J) (rdl x N J) (rdc x N J) m) : Nok (rdS x N J m).1 (rdG x N J m 0) (rdT x N J m) := by
  have hG : Gok (rdc x N J) (rdl x N J) := gok_of h1 hq
  obtain ⟨w1, w2, w3⟩ := gsq_ok (gri (rdk x N J) (rdl x N J) (rdc x N J) (m + 1)) (rdl x N J) (rdc x N J)
  exact ⟨hd.1 (m + 1) (Nat.le_refl _), (w1 0 hG.1).1, fun k e hk he => (w1 _ (hG.2 _ e (w2 k hk).1 he)).1⟩
theorem rok_pma {x : Nat → NdT} {N J m J' : Nat} (h : ROk x N J m J') : PMa (fto (rdQ x N J m J')) (rdV x N J m J') (rdQ x N J m J').1 := by
  obtain ⟨b1, b2, b3, b4, b5, b6, b7⟩ := h
  exact fpm (rok_nok b1 b2 b4) b6 b5
theorem sp_buildX {σ : Sg} {x : Nat → NdT} {N : Nat} {K : Sg → Prop} {Q : Int32 → Sg → Prop} (hR : Rok x N) (hP : Pur x N) (hC : XPo σ x N) (hL : PLe σ) (hok : ∀ J m J' τ, ROk x N J m J' → Fr [4, 5, 6] [22, 23, 24, 25, 26, 27, 28, 29, 30, 31, 32, 33, 34, 35, 36, 37, 38] σ τ → PLe τ → PXa τ (rdQ x N J m J').1 (fto (rdQ x N J m J')) (rdV x N J m J') (dso (fto (rdQ x N J m J')) (rdV x N J m J')) → K τ) (hno : ∀ τ, Rno x N → Fr [4, 5] [22, 23, 24, 25, 26, 27, 28, 29, 30, 31, 32] σ τ → PLe τ → Q (-4) τ) : wp_X4_make σ (fun r8 σ9 => ((r8 = (nI 0) → Q (-4 : Int32) σ9) ∧ (¬ r8 = (nI 0) → wp_X2_lessen σ9 (fun r10 σ11 => ((¬ r10 = (nI 0) → wp_X2_putInto σ11 (fun σ12 => K σ12)) ∧ (r10 = (nI 0) → Q (-4 : Int32) σ11)))))) := by
  refine sp_makeX hR hC (fun J τ h1 hq mn hX hLd => ?_) (fun j τ h1 hq mn hn hc f1 => ?_)
  · refine ⟨fun z => absurd z (by decide), fun _ => ?_⟩
    have hLτ : PLe τ := hL.fr (hX.1.R (by decide))
    have hM : XMc τ (rdc x N J) (rdl x N J) (rdk x N J) := by
      refine ⟨hX.2.2.2.1, ?_, gok_of h1 hq, fun r hr => (hX.2.2.2.2.2.1 r hr).2, fun j hj => hLd j ?_⟩
      · have := hX.2.2.2.2.1
        have := mostq_le (pbc x N)
        show (pseq x N J).1 ≤ 1921
        omega
      · have hj' : j < 4 * (pseq x N J).1 := hj
        omega
    refine sp_lessen hM hLτ (fun m τ2 hd hS => ?_) (fun m τ2 hf f2 hL2 => ?_)
    · refine ⟨fun _ => ?_, fun z => absurd z (by decide)⟩
      obtain ⟨gc, fc, hPL, hLS⟩ := hS
      have hL2 : PLe τ2 := by
        rcases hPL with ⟨e1, e2⟩ | ⟨e1, e2⟩
        · exact Or.inl ⟨hLS.2.1.trans e1, hLS.2.2.1.trans e2⟩
        · exact Or.inr ⟨hLS.2.1.trans e1, hLS.2.2.1.trans e2⟩
      obtain ⟨w1, w2, w3⟩ := gsq_ok (gri (rdk x N J) (rdl x N J) (rdc x N J) (m + 1)) (rdl x N J) (rdc x N J)
      have hN : XNm τ2 (rdc x N J) gc (rdl x N J) (rdk x N J) (rdG x N J m) (rdS x N J m).1 (rdS x N J m).2.1 := ⟨hM.fr hLS.1, ⟨fc, hPL⟩, hLS.2.1, hLS.2.2.2.1, hd.1 (m + 1) (Nat.le_refl _), fun i hi => ⟨hLS.2.2.2.2.1 i hi, (w1 i hi).1⟩, fun k hk => ⟨hLS.2.2.2.2.2 k hk, (w2 k hk).1⟩⟩
      refine sp_putX hN (fun J' τ3 c1 c2 c3 c4 => ?_)
      have hro : ROk x N J m J' := ⟨h1, hq, mn, hd, c1, c2, c3⟩
      refine sp_finish (to := fto (rdQ x N J m J')) (kv := rdK x N J m J') (n := (rdQ x N J m J').1) (rok_pma hro) c4.2.1.1 (fun s hs e he => ?_) (fun s hs => (c4.2.1.2.2 s hs).2) (fun τ4 f4 hX4 => ?_)
      · have hs' : s < (nsq (trg (rdG x N J m) (rdl x N J) (rdS x N J m).2.1) (rdG x N J m 0) J').1 := hs
        have := c4.2.2 (4 * s + e) (by omega)
        rw [Nat.mul_comm s 4]
        exact this
      · refine hok J m J' τ4 hro ?_ ?_ hX4
        · exact ((hX.1.mono (by simp) (by simp)).tr (hLS.1.mono (by simp) (by simp))).tr ((c4.1.mono (by simp) (by simp)).tr (f4.mono (by simp) (by simp)))
        · exact (hL2.fr (c4.1.R (by decide))).fr (f4.R (by decide))
    · refine ⟨fun z => absurd rfl z, fun _ => hno τ2 (rno_gfl h1 mn hf) ((hX.1.mono (by simp) (by simp)).tr (f2.mono (by simp) (by simp))) hL2⟩
  · exact ⟨fun _ => hno τ (rno_X hP hR.2.2.2 h1 mn hn hc) (f1.mono (by simp) (by simp)) (hL.fr (f1.R (by decide))), fun z => absurd rfl z⟩
theorem sp_buildM {σ : Sg} {x : Nat → NdT} {N : Nat} {K : Sg → Prop} {Q : Int32 → Sg → Prop} (hR : Rok x N) (hP : Pur x N) (hC : MCa σ x N) (hok : ∀ J m J' τ, ROk x N J m J' → Fr [10] [62, 63, 64, 65, 66, 67, 68, 69, 70, 71, 72, 73, 74, 75, 76, 77] σ τ → (∀ k, k ∉ [27, 36, 39] → gF τ 10 k = gF σ 10 k) → gF τ 10 39 = nI (rdQ x N J m J').1 → (∀ s, s < (rdQ x N J m J').1 → gA τ 73 s = nI (rdV x N J m J' s) ∧ gA τ 72 s = bI (decide (rdV x N J m J' s % 2 = 1)) ∧ ∀ e, e < 4 → gA τ 71 (4 * s + e) = nI (fto (rdQ x N J m J') s e)) → K τ) (hno : ∀ τ, Rno x N → Fr [10] [62, 63, 64, 65, 66, 67, 68, 69, 70] σ τ → (∀ k, k ∉ [27, 36] → gF τ 10 k = gF σ 10 k) → Q (-4) τ) : wp_X9_meet σ (fun r5 σ6 => ((r5 = (nI 0) → Q (-4 : Int32) σ6) ∧ (¬ r5 = (nI 0) → wp_X9_least σ6 (fun r7 σ8 => ((¬ r7 = (nI 0) → wp_X9_number σ8 (fun σ9 => K σ9)) ∧ (r7 = (nI 0) → Q (-4 : Int32) σ8)))))) := by
  have nin : ∀ k, k ∉ [27, 36, 39] → k ≠ 27 ∧ k ≠ 36 ∧ k ≠ 39 := fun k hk => by
    simp only [List.mem_cons, List.not_mem_nil, or_false] at hk
    omega
  have nin2 : ∀ k, k ∉ [27, 36] → k ≠ 27 ∧ k ≠ 36 := fun k hk => by
    simp only [List.mem_cons, List.not_mem_nil, or_false] at hk
    omega
  refine sp_meetM hR hC (fun J τ h1 hq mn hX hLd => ?_) (fun j τ h1 hq mn hn hc f1 g1 => ?_)
  · refine ⟨fun z => absurd z (by decide), fun _ => ?_⟩
    have hlim := lim_of hR.2.2.2 hq (fun w hw => (hX.2.2.2.2 w hw).2.1)
    have hM : MMc τ (rdc x N J) (rdl x N J) (rdk x N J) := by
      refine ⟨hX.2.2.1, hlim.1, gok_of h1 hq, fun j hj => hLd j ?_, rfl, fbc x N, aEm x N, ?_, ?_, ?_, fun r r1 r2 => ⟨?_, ?_⟩⟩
      · have hj' : j < 4 * (pseq x N J).1 := hj
        omega
      · rw [hX.2.1 15 (by decide)]; exact hC.2.1
      · have := hR.2.2.2; omega
      · rw [hX.2.1 18 (by decide)]; exact hC.2.2.2.1
      · have e : rdk x N J r = ((pseq x N J).2.2.1 r).testBit (aEm x N) := by
          show (if r = 0 then true else _) = _
          rw [if_neg (by omega)]
        rw [e]
        exact (hX.2.2.2.1 r r1 r2).2 _ (aEm_lt x N)
      · have r2' : r < (pseq x N J).1 := r2
        have h9 : (r + 1) * 2 ^ fbc x N ≤ ((pseq x N J).1 + 1) * 2 ^ fbc x N := Nat.mul_le_mul_right _ (by omega)
        rw [Nat.add_mul r 1, Nat.one_mul] at h9
        have := aEm_lt x N
        omega
    refine sp_least hM (fun m τ2 hd hS => ?_) (fun m τ2 hf f2 g2 => ?_)
    · refine ⟨fun _ => ?_, fun z => absurd z (by decide)⟩
      obtain ⟨w1, w2, w3⟩ := gsq_ok (gri (rdk x N J) (rdl x N J) (rdc x N J) (m + 1)) (rdl x N J) (rdc x N J)
      have hN : MNm τ2 (rdc x N J) (rdl x N J) (rdk x N J) (rdG x N J m) (rdS x N J m).1 (rdS x N J m).2.1 := ⟨hM.fr hS.1 hS.2.1, hS.2.2.1, hd.1 (m + 1) (Nat.le_refl _), fun i hi => ⟨hS.2.2.2.1 i hi, (w1 i hi).1⟩, fun k hk => ⟨hS.2.2.2.2 k hk, (w2 k hk).1⟩⟩
      refine sp_numM hN (fun J' τ3 c1 c2 c3 c4 => ?_)
      have hro : ROk x N J m J' := ⟨h1, hq, mn, hd, c1, c2, c3⟩
      have h71 : ∀ s, s < (rdQ x N J m J').1 → ∀ e, e < 4 → gA τ3 71 (4 * s + e) = nI (fto (rdQ x N J m J') s e) := fun s hs e he => by
        have hs' : s < (nsq (trg (rdG x N J m) (rdl x N J) (rdS x N J m).2.1) (rdG x N J m 0) J').1 := hs
        exact c4.2.2.2.2 (4 * s + e) (by omega)
      have h72 : ∀ s, s < (rdQ x N J m J').1 → gA τ3 72 s = bI (rdK x N J m J' s) := c4.2.2.2.1
      refine sp_verdM (rok_pma hro) c4.2.2.1.1 h71 h72 (fun s hs => alk_iff (gok_of h1 hq) hd c2 c1 hs) (fun τ4 f4 h73 => ?_)
      refine hok J m J' τ4 hro ?_ (fun k hk => ?_) ?_ (fun s hs => ⟨h73 s hs, ?_, fun e he => ?_⟩)
      · exact ((hX.1.mono (by simp) (by simp)).tr (hS.1.mono (by simp) (by simp))).tr ((c4.1.mono (by simp) (by simp)).tr (f4.mono (by simp) (by simp)))
      · obtain ⟨k1, k2, k3⟩ := nin k hk
        rw [f4.F (by decide), c4.2.1 k k3, hS.2.1 k k2, hX.2.1 k k1]
      · rw [f4.F (by decide)]; exact c4.2.2.1.1
      · rw [f4.A (by decide), h72 s hs]
        congr 1
        have := (fvd_2 (to := fto (rdQ x N J m J')) (kv := rdK x N J m J') (s := s)).2.2
        show _ = decide (fvd _ _ s % 2 = 1)
        cases q : rdK x N J m J' s with
        | true => exact (decide_eq_true (this.mpr q)).symm
        | false => exact (decide_eq_false (fun z => by rw [this.mp z] at q; cases q)).symm
      · rw [f4.A (by decide)]; exact h71 s hs e he
    · refine ⟨fun z => absurd rfl z, fun _ => hno τ2 (rno_gfl h1 mn hf) ((hX.1.mono (by simp) (by simp)).tr (f2.mono (by simp) (by simp))) (fun k hk => ?_)⟩
      obtain ⟨k1, k2⟩ := nin2 k hk
      rw [g2 k k2, hX.2.1 k k1]
  · refine ⟨fun _ => hno τ (rno_M hP h1 mn hq hn hc) (f1.mono (by simp) (by simp)) (fun k hk => g1 k (nin2 k hk).1), fun z => absurd rfl z⟩
