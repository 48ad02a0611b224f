/-! ===== read: the reference's least, the rounds ===== -/
def pvb (kp : Nat → Bool) (ld : Nat → Nat) (c : Nat) : Nat → Int32
  | 0 => -1
  | i + 1 => nI (gnb kp ld c i)
def LMd (σ0 τ : Sg) (c : Nat) (ld : Nat → Nat) (kp : Nat → Bool) (m : Nat) : Prop := LMx σ0 τ c (gri kp ld c (m + 2)) (grs kp ld c (m + 1)).1 (grs kp ld c (m + 1)).2.1
theorem sp_least {σ : Sg} {c : Nat} {ld : Nat → Nat} {kp : Nat → Bool} {Q : Int32 → Sg → Prop} (hM : MMc σ c ld kp) (hdone : ∀ m τ, Gdn kp ld c m → LMd σ τ c ld kp m → Q (nI 1) τ) (hfail : ∀ m τ, Gfl kp ld c m → Fr [10] [68, 69, 70] σ τ → (∀ k, k ≠ 36 → gF τ 10 k = gF σ 10 k) → Q (nI 0) τ) : wp_X9_least σ Q := by
  have hG := hM.2.2.1
  have hc := hM.2.1
  refine lq1 (fun f r (τ : Sg) => wl_X9_least_2 (fun σ9 => wp_X9_least_35 Q σ9) Q f (nI r) τ) (fun r τ => Fr [] [68] σ τ ∧ ∀ i, i < r → gA τ 68 i = nI (gri kp ld c 0 i)) c ?_ ?_ σ ⟨Fr.rf, fun i hi => by omega⟩
  · intro f τ ⟨a1, a2⟩
    show wb_X9_least_2 _ _ _ _ _
    have h27 : gF τ 10 27 = nI c := by rw [a1.F (by decide)]; exact hM.1
    unfold wb_X9_least_2
    rw [h27]
    refine pk_le c c (fun _ => ?_) (fun z => by omega)
    intro τ1 e1
    have h0 : LMx σ τ1 c (gri kp ld c 0) (gnb kp ld c 0) (gxb kp ld c 0) := by
      rw [e1]
      refine ⟨Fr.stF (a1.mono (by simp) (by simp)) (by simp), fun k hk => ?_, rfl, a2, fun k hk => absurd hk (Nat.not_lt_zero k)⟩
      rw [gF_stF, if_pos rfl, if_neg hk, a1.F (by decide)]
    clear e1
    refine lq1 (fun f i (τ : Sg) => wl_X9_least_42 Q f (pvb kp ld c i) τ) (fun i τ => LMx σ τ c (gri kp ld c i) (gnb kp ld c i) (gxb kp ld c i) ∧ (∀ k, k < i → (grs kp ld c k).1 ≤ 60) ∧ ∀ k, k + 2 < i → ¬ (grs kp ld c (k + 1)).1 = (grs kp ld c k).1) 63 ?_ ?_ τ1 ⟨h0, fun k hk => by omega, fun k hk => by omega⟩
    · intro f ρ ⟨b1, b2, b3⟩
      exfalso
      have h1 := grs_grow (kp := kp) (ld := ld) (c := c) (m := 60) hG.1 (fun i hi => b3 i (by omega)) 60 (Nat.le_refl _)
      have h2 := b2 60 (by omega)
      omega
    · intro f i ρ hi ⟨b1, b2, b3⟩ hs2
      show wb_X9_least_42 _ _ _ _
      have hnb : gnb kp ld c i ≤ 60 := by
        cases i with
        | zero => exact Nat.zero_le _
        | succ i => exact b2 i (Nat.lt_succ_self _)
      unfold wb_X9_least_42
      rw [b1.2.2.1]
      -- one more round
      have go : (∀ k, k + 1 < i → ¬ (grs kp ld c (k + 1)).1 = (grs kp ld c k).1) → ∀ x54 : Int32, x54 = nI (gnb kp ld c i) → wp_X9_part ρ (fun r1 σ2 => ((¬ r1 = (nI 0) → wl_X9_least_42 Q f x54 σ2) ∧ (r1 = (nI 0) → Q (nI 0) σ2))) := by
        intro hne x ex
        subst ex
        refine sp_part hM b1 (fun k hk => gri_lt hk b2) (fun κ h60 hS => ?_) (fun κ h60 f1 q1 => ?_)
        · refine ⟨fun _ => ?_, fun z => absurd z (by decide)⟩
          have h60' : (grs kp ld c i).1 ≤ 60 := h60
          refine hs2 κ ⟨hS, fun k hk => ?_, fun k hk => hne k (by omega)⟩
          by_cases q : k = i
          · rw [q]; exact h60'
          · exact b2 k (by omega)
        · refine ⟨fun z => absurd rfl z, fun _ => ?_⟩
          exact hfail i κ ⟨b2, hne, h60⟩ f1 q1
      cases i with
      | zero => exact ⟨fun z => absurd z (show ¬ nI 0 = (-1 : Int32) by decide), fun _ => go (fun k hk => by omega)⟩
      | succ i =>
        have hnb2 : gnb kp ld c i ≤ 60 := by
          cases i with
          | zero => exact Nat.zero_le _
          | succ i => exact b2 i (by omega)
        refine pk_eq (gnb kp ld c (i + 1)) (gnb kp ld c i) (fun z => ?_) (fun z => ?_)
        · cases i with
          | zero =>
            have hp := grs_pos (kp := kp) (ld := ld) (c := c) (i := 0) hG.1
            have z' : (grs kp ld c 0).1 = 0 := z
            omega
          | succ m => exact hdone m ρ ⟨fun k hk => b2 k (by omega), fun k hk => b3 k (by omega), z⟩ b1
        · refine go (fun k hk => ?_)
          by_cases q : k + 1 = i
          · subst q; exact z
          · exact b3 k (by omega)
  · intro f r τ hr ⟨a1, a2⟩ hs2
    show wb_X9_least_2 _ _ _ _ _
    have hMt : MMc τ c ld kp := hM.fr (a1.mono (by simp) (by simp)) (fun k _ => by rw [a1.F (by decide)])
    have b28 : ∀ v : Nat, v = gri kp ld c 0 r → wp_X9_least_28 (nI r) (nI v) (nI r) (wl_X9_least_2 (fun σ9 => wp_X9_least_35 Q σ9) Q f) Q τ := by
      intro v hv
      unfold wp_X9_least_28
      rw [nI_clamp (by omega)]
      refine ⟨vp_in_nI (by show _ < 2600; omega) (by decide), ?_⟩
      intro κ e y ey
      rw [ey, nI_add]
      refine hs2 _ ⟨by rw [e]; exact a1.stA (by simp), fun i hi => ?_⟩
      rw [e, gA_stA, if_pos rfl]
      by_cases q : i = r
      · rw [if_pos q, hv, q]
      · rw [if_neg q]; exact a2 i (by omega)
    unfold wb_X9_least_2
    rw [hMt.1]
    refine pk_le c r (fun z => by omega) (fun _ => ?_)
    refine sp_MisKept hMt rfl hr ?_
    refine bI_br (fun q => b28 0 ?_) (fun q => b28 1 ?_)
    · show 0 = if kp r = true then 1 else 0
      rw [q]; rfl
    · show 1 = if kp r = true then 1 else 0
      rw [q]; rfl
