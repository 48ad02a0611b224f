/-! ===== read ===== -/
theorem inv_r {σ0 σ : Sg} {nb n n' : Nat} {tp : Nat → Nat} {to to' : Nat → Nat → Nat} {vd vd' : Nat → Nat} {ds : Nat → Nat → Option Nat} {mk : Nat → Nat} (fr : Fr [0, 1, 2, 3, 4, 5, 10] [13, 14, 15, 16, 17, 18, 19, 20, 21, 22, 23, 24, 25, 26, 27, 28, 29, 30, 31, 32, 48, 49, 50, 51, 52, 53, 54, 55, 56, 57, 58, 59, 60, 61, 62, 63, 64, 65, 66, 67, 68, 69, 70] σ0 σ) (g01 : gF σ 0 1 = nI nb) (g02 : gF σ 0 2 = gF σ 10 2) (g10 : ∀ k, k ∈ [1, 38, 39, 51] → gF σ 10 k = gF σ0 10 k) (hL : PLe σ) (hT : PTa σ0 nb tp) (hM : PMa to vd n) (hX : PXa σ0 n to vd ds) (hO : PMo σ0 n to vd) (hK : PKe σ0 n mk) (hXk : PXk σ0 n' to' vd') (hMk : PMk σ0 n' to' vd') : Inv σ := by
  refine ⟨nb, tp, n, to, vd, ds, mk, n', to', vd', ?_, g02, hM, ?_, ?_, ?_, ?_, ?_, hL⟩
  · unfold PTa at hT ⊢
    rw [g10 1 (by decide), fr.A (by decide), fr.A (by decide)]
    exact ⟨hT.1, g01, hT.2.2⟩
  · exact hX.fr (fr.F (by decide)) (fr.A (by decide)) (fr.A (by decide)) (fr.A (by decide)) (fr.L (by decide))
  · unfold PMo at hO ⊢
    rw [g10 39 (by decide), g10 38 (by decide), fr.A (by decide), fr.A (by decide), fr.A (by decide)]
    exact hO
  · exact hK.fr (fr.L (by decide)) (fr.A (by decide)) (fr.A (by decide)) (fr.A (by decide))
  · exact hXk.fr (fr.F (by decide)) (fr.A (by decide)) (fr.A (by decide))
  · unfold PMk at hMk ⊢
    rw [g10 51 (by decide), fr.A (by decide), fr.A (by decide)]
    exact hMk
theorem op_read : Both wp_X8_read wp_X9_read := by
  intro σ I
  obtain ⟨nb, tp, n, to, vd, ds, mk, n', to', vd', hT, hF, hM, hX, hO, hK, hXk, hMk, hL⟩ := id I
  have hTp : Tpe σ nb tp := ⟨hT.1, fun i hi => ⟨(hT.2.2.2 i hi).1, (hT.2.2.2 i hi).2.1⟩⟩
  have h47 : ∀ i, i < nb → tp i < 256 ∧ gA σ 47 i = sby (tp i) := fun i hi => ⟨(hT.2.2.2 i hi).1, (hT.2.2.2 i hi).2.2⟩
  -- behind a refused read all is as it was
  have back : ∀ τ τ2, Fr [0, 1, 2, 3, 4, 5] [13, 14, 15, 16, 17, 18, 19, 20, 21, 22, 23, 24, 25, 26, 27, 28, 29, 30, 31, 32] σ τ → PLe τ → gF τ 0 1 = nI nb → FrM τ τ2 → gF τ 0 2 = gF τ2 10 2 → Inv τ2 := by
    intro τ τ2 f1 l1 z1 f2 z2
    refine inv_r (σ0 := σ) ((f1.mono (by simp) (by simp)).tr (f2.1.mono (by simp) (by simp))) ?_ ?_ (fun k hk => ?_) (l1.fr (f2.1.R (by decide))) hT hM hX hO hK hXk hMk
    · rw [f2.1.F (by decide)]; exact z1
    · rw [f2.1.F (by decide)]; exact z2
    · rw [f2.2 k hk, f1.F (by decide)]
  have hMr : ∀ (τ : Sg) (Q : Int32 → Sg → Prop), Fr [0, 1, 2, 3, 4, 5, 6] [13, 14, 15, 16, 17, 18, 19, 20, 21, 22, 23, 24, 25, 26, 27, 28, 29, 30, 31, 32, 33, 34, 35, 36, 37, 38, 45, 46] σ τ → nb ≤ 60 ∧ gF τ 10 1 = nI nb ∧ ∀ i, i < nb → tp i < 256 ∧ gA τ 47 i = sby (tp i) := by
    intro τ Q f
    refine ⟨hT.1, ?_, ?_⟩
    · rw [f.F (by decide)]; exact hT.2.2.1
    · rw [f.A (by decide)]; exact h47
  refine sp_readX hT.2.1 hTp hL (fun f τ hp f1 z2 z1 => ?_) (fun nd f τ hp hi hne f1 z2 z1 => ?_) (fun nd τ hp h99 hno f1 l1 z2 z1 => ?_) (fun nd J m J' τ hp h99 hro f1 l1 z2 z1 hX1 hk1 => ?_)
  · obtain ⟨m1, m2, m3⟩ := hMr τ (fun _ _ => True) (f1.mono (by simp) (by simp))
    refine sp_readM m1 m2 m3 (fun f' τ2 hp2 f2 q2 => ?_) (fun nd' f' τ2 hp2 _ _ f2 q2 => ?_) (fun nd' τ2 hp2 _ _ f2 q2 => ?_) (fun nd' J m J' τ2 hp2 _ _ _ _ _ _ _ _ _ _ => ?_)
    · rw [hp] at hp2
      cases hp2
      exact ⟨rfl, back τ τ2 (f1.mono (by simp) (by simp)) (hL.fr (f1.R (by decide))) z1 f2 (z2.trans q2.symm)⟩
    all_goals
      rw [hp] at hp2
      cases hp2
  · obtain ⟨m1, m2, m3⟩ := hMr τ (fun _ _ => True) (f1.mono (by simp) (by simp))
    refine sp_readM m1 m2 m3 (fun f' τ2 hp2 f2 q2 => ?_) (fun nd' f' τ2 hp2 hi2 _ f2 q2 => ?_) (fun nd' τ2 hp2 h99 _ f2 q2 => ?_) (fun nd' J m J' τ2 hp2 h99 _ _ _ _ _ _ _ _ _ => ?_)
    · rw [hp] at hp2
      cases hp2
    · rw [hp] at hp2
      cases hp2
      rw [hi] at hi2
      rw [← hi2]
      exact ⟨rfl, back τ τ2 (f1.mono (by simp) (by simp)) (hL.fr (f1.R (by decide))) z1 f2 (z2.trans q2.symm)⟩
    · rw [hp] at hp2
      cases hp2
      exact absurd (hi.symm.trans h99) hne
    · rw [hp] at hp2
      cases hp2
      exact absurd (hi.symm.trans h99) hne
  · obtain ⟨m1, m2, m3⟩ := hMr τ (fun _ _ => True) (f1.mono (by simp) (by simp))
    refine sp_readM m1 m2 m3 (fun f' τ2 hp2 f2 q2 => ?_) (fun nd' f' τ2 hp2 hi2 h60 f2 q2 => ?_) (fun nd' τ2 hp2 _ _ f2 q2 => ?_) (fun nd' J m J' τ2 hp2 _ hro2 _ _ _ _ _ _ _ _ => ?_)
    · rw [hp] at hp2
      cases hp2
    · rw [hp] at hp2
      cases hp2
      unfold nd99 at h99
      omega
    · exact ⟨rfl, back τ τ2 f1 l1 z1 f2 (z2.trans q2.symm)⟩
    · rw [hp] at hp2
      cases hp2
      exact absurd hro2 (hno J m J')
  · obtain ⟨m1, m2, m3⟩ := hMr τ (fun _ _ => True) f1
    refine sp_readM m1 m2 m3 (fun f' τ2 hp2 f2 q2 => ?_) (fun nd' f' τ2 hp2 hi2 h60 f2 q2 => ?_) (fun nd' τ2 hp2 _ hno f2 q2 => ?_) (fun nd' K k K' τ2 hp2 _ hro2 f2 q51 q2 q1 q38 q39 q7 hk2 => ?_)
    · rw [hp] at hp2
      cases hp2
    · rw [hp] at hp2
      cases hp2
      unfold nd99 at h99
      omega
    · rw [hp] at hp2
      cases hp2
      exact absurd hro (hno J m J')
    · rw [hp] at hp2
      cases hp2
      obtain ⟨e1, e2, e3⟩ := rok_uniq hro hro2
      subst e1 e2 e3
      have hMn := rok_pma hro
      have hn1 : 1 ≤ (rdQ (ndAt nd) nd.length J m J').1 := hro.2.2.2.2.2.1.1
      refine ⟨rfl, 0, tp, (rdQ (ndAt nd) nd.length J m J').1, fto (rdQ (ndAt nd) nd.length J m J'), rdV (ndAt nd) nd.length J m J', dso (fto (rdQ (ndAt nd) nd.length J m J')) (rdV (ndAt nd) nd.length J m J'), fun _ => 1, n', to', vd', ?_, ?_, hMn, ?_, ?_, ?_, ?_, ?_, ?_⟩
      · refine ⟨Nat.zero_le 60, ?_, q1, fun i hi => by omega⟩
        rw [f2.F (by decide)]; exact z1
      · rw [f2.F (by decide), z2, q2]
      · exact hX1.fr (f2.F (by decide)) (f2.A (by decide)) (f2.A (by decide)) (f2.A (by decide)) (f2.L (by decide))
      · refine ⟨q39, ?_, q7⟩
        rw [q38, decide_eq_true (show 0 < (rdQ (ndAt nd) nd.length J m J').1 by omega)]
        rfl
      · intro k hk
        obtain ⟨a1, a2⟩ := hk1 k hk
        obtain ⟨b1, b2⟩ := hk2 k hk
        refine ⟨by rw [f2.L (by decide)]; exact a1, ?_, by rw [f2.A (by decide), a2, b1], b2⟩
        have := Nat.pow_lt_pow_right (a := 2) (by decide) (show 0 < (rdQ (ndAt nd) nd.length J m J').1 by omega)
        rw [Nat.pow_zero] at this
        exact this
      · exact (hXk.fr (f1.F (by decide)) (f1.A (by decide)) (f1.A (by decide))).fr (f2.F (by decide)) (f2.A (by decide)) (f2.A (by decide))
      · unfold PMk at hMk ⊢
        rw [q51, f2.A (by decide), f2.A (by decide), f1.F (by decide), f1.A (by decide), f1.A (by decide)]
        exact hMk
      · exact l1.fr (f2.R (by decide))
