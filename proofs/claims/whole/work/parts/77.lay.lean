/-! ===== read: the reference's bits and looks ===== -/
def MNd (σ : Sg) (x : Nat → NdT) (N : Nat) : Prop := gF σ 10 4 = nI N ∧ ∀ n, n < N → gA σ 48 n = nI (x n).1 ∧ gA σ 49 n = oI (x n).2.1 ∧ gA σ 50 n = oI (x n).2.2.1
def MBt (σ : Sg) (x : Nat → NdT) (N : Nat) : Prop := MNd σ x N ∧ gF σ 10 15 = nI (fbc x N) ∧ gF σ 10 16 = nI (pbc x N) ∧ gF σ 10 18 = nI (aEm x N) ∧ gF σ 10 19 = nI (aFm x N) ∧ ∀ n, n < N → (futn x n = true → gA σ 56 n = nI (fbc x n)) ∧ (pasn x n = true → gA σ 56 n = nI (pbc x n))
theorem sp_layBits {σ : Sg} {x : Nat → NdT} {N : Nat} {Q : Sg → Prop} (hR : Rok x N) (hX : MNd σ x N) (h : ∀ σ', Fr [10] [56] σ σ' → (∀ k, k ∉ [15, 16, 18, 19] → gF σ' 10 k = gF σ 10 k) → MBt σ' x N → Q σ') : wp_X9_layBits σ Q := by
  obtain ⟨r0, r9, rk, rb⟩ := id hR
  obtain ⟨h4, hx⟩ := hX
  intro σ1 e1 σ2 e2 σ3 e3 σ4 e4
  have f4 : ∀ k, gF σ4 10 k = if k = 19 then nI 0 else if k = 18 then nI 0 else if k = 16 then nI 0 else if k = 15 then nI 0 else gF σ 10 k := by
    intro k
    rw [e4, gF_stF, if_pos rfl, e3, gF_stF, if_pos rfl, e2, gF_stF, if_pos rfl, e1, gF_stF, if_pos rfl]
  have fr4 : Fr [10] [56] σ σ4 := by
    rw [e4, e3, e2, e1]
    exact (((Fr.rf.stF (by simp)).stF (by simp)).stF (by simp)).stF (by simp)
  clear e1 e2 e3 e4
  have g4 : ∀ k, k ∉ [15, 16, 18, 19] → gF σ4 10 k = gF σ 10 k := by
    intro k hk
    simp only [List.mem_cons, List.not_mem_nil, or_false, not_or] at hk
    rw [f4, if_neg hk.2.2.2, if_neg hk.2.2.1, if_neg hk.2.1, if_neg hk.1]
  refine lq1 (fun g n (τ : Sg) => wl_X9_layBits_22 Q g (nI n) τ) (fun n τ => Fr [10] [56] σ τ ∧ (∀ k, k ∉ [15, 16, 18, 19] → gF τ 10 k = gF σ 10 k) ∧ gF τ 10 15 = nI (fbc x n) ∧ gF τ 10 16 = nI (pbc x n) ∧ gF τ 10 18 = nI (aEm x n) ∧ gF τ 10 19 = nI (aFm x n) ∧ ∀ i, i < n → (futn x i = true → gA τ 56 i = nI (fbc x i)) ∧ (pasn x i = true → gA τ 56 i = nI (pbc x i))) N ?_ ?_ σ4 ⟨fr4, g4, by rw [f4, if_neg (by decide), if_neg (by decide), if_neg (by decide), if_pos rfl]; rfl, by rw [f4, if_neg (by decide), if_neg (by decide), if_pos rfl]; rfl, by rw [f4, if_neg (by decide), if_pos rfl]; rfl, by rw [f4, if_pos rfl]; rfl, fun i hi => by omega⟩
  · intro g τ ⟨fr, t4, t15, t16, t18, t19, tc⟩
    show wb_X9_layBits_22 _ _ _ _
    unfold wb_X9_layBits_22
    rw [t4 4 (by decide), h4]
    refine pk_le N N (fun _ => h τ fr t4 ⟨⟨by rw [t4 4 (by decide)]; exact h4, fun n hn => ?_⟩, t15, t16, t18, t19, tc⟩) (fun z => by omega)
    rw [fr.A (by decide), fr.A (by decide), fr.A (by decide)]
    exact hx n hn
  · intro g n τ hn ⟨fr, t4, t15, t16, t18, t19, tc⟩ hs2
    show wb_X9_layBits_22 _ _ _ _
    unfold wb_X9_layBits_22
    rw [t4 4 (by decide), h4, nI_clamp (by omega), fr.A (by decide), (hx n hn).1]
    have hc := (rk n hn).2.2
    have hf1 : fbc x (n + 1) = fbc x n + (if futn x n = true then 1 else 0) := fb_ct_succ _ n
    have hp1 : pbc x (n + 1) = pbc x n + (if pasn x n = true then 1 else 0) := fb_ct_succ _ n
    have hfl : fbc x n ≤ 8 := by
      have : fbc x n ≤ fbc x N := fb_ct_mono _ (by omega)
      omega
    have hpl : pbc x n ≤ 8 := by
      have : pbc x n ≤ pbc x N := fb_ct_mono _ (by omega)
      omega
    refine pk_le N n (fun z => by omega) (fun _ => ⟨vp_in_nI (by show n < 9; omega) (by decide), ?_⟩)
    intro x36 e36
    subst e36
    have isf : futS (x n).1 = true → wp_X9_layBits_67 (nI n) (nI (x n).1) (wl_X9_layBits_22 Q g) Q τ := by
      intro q
      have hfn : futn x n = true := q
      have hpn : pasn x n = false := fut_not_pas q
      refine ⟨vp_in_nI (by show n < 9; omega) (by decide), ?_⟩
      intro τ1 e1
      rw [nI_clamp (by omega), t15] at e1
      have k1 : gF τ1 = gF τ := by rw [e1]; rfl
      have fin : ∀ v w : Nat, v = (if (x n).1 == 87 || (x n).1 == 71 then 2 ^ fbc x n else 0) → wp_X9_layBits_104 (nI n) (nI v) (gF τ1 10 18) (wl_X9_layBits_22 Q g) Q τ1 := by
        intro v w hv τ2 e2 τ3 e3
        rw [k1, t18, nIor] at e2
        have q15 : gF τ2 10 15 = nI (fbc x n) := by rw [e2, gF_stF, if_pos rfl, if_neg (by decide), k1]; exact t15
        rw [q15, nI_add] at e3
        have f3 : ∀ k, gF τ3 10 k = if k = 15 then nI (fbc x n + 1) else if k = 18 then nI (aEm x n ||| v) else gF τ 10 k := by
          intro k
          rw [e3, gF_stF, if_pos rfl, e2, gF_stF, if_pos rfl, k1]
        have h72 : ((x n).1 == 72) = false := by
          cases r : (x n).1 == 72 with
          | false => rfl
          | true => rw [beq_iff_eq] at r; rw [r] at q; cases q
        intro y ey
        rw [ey, nI_add]
        refine hs2 τ3 ⟨by rw [e3, e2, e1]; exact ((fr.stA (by simp)).stF (by simp)).stF (by simp), ?_, ?_, ?_, ?_, ?_, ?_⟩
        · intro k hk
          have hk2 := hk
          simp only [List.mem_cons, List.not_mem_nil, or_false, not_or] at hk2
          rw [f3, if_neg hk2.1, if_neg hk2.2.2.1]
          exact t4 k hk
        · rw [f3, if_pos rfl, hf1, hfn]; rfl
        · rw [f3, if_neg (by decide), if_neg (by decide), hp1, hpn]; exact t16
        · rw [f3, if_neg (by decide), if_pos rfl]
          congr 1
          unfold aEm
          simp only [bc]
          rw [hv]
          split
          · rfl
          · exact Nat.or_zero _
        · rw [f3, if_neg (by decide), if_neg (by decide), t19]
          unfold aFm
          simp only [bc, h72]
          rfl
        · intro i hi
          rw [e3, gA_stF, e2, gA_stF, e1, gA_stA, if_pos rfl]
          by_cases r : i = n
          · rw [if_pos r, r]
            exact ⟨fun _ => rfl, fun w => (by rw [hpn] at w; cases w)⟩
          · rw [if_neg r]; exact tc i (by omega)
      have big : ((x n).1 == 87 || (x n).1 == 71) = true → wp_X9_layBits_94 (nI n) (gF τ1 10 18) (wl_X9_layBits_22 Q g) Q τ1 := by
        intro r
        unfold wp_X9_layBits_94
        rw [k1, t15, nI1shl (by omega), ← k1]
        exact fin _ 0 (by rw [r]; rfl)
      refine pk_eq (x n).1 87 (fun r => big (by rw [r]; rfl)) (fun r1 => (pk_eq (x n).1 71 (fun r => big (by rw [r]; rfl)) (fun r2 => fin 0 0 ?_)).symm)
      rw [beq_eq_false_iff_ne.mpr r1, beq_eq_false_iff_ne.mpr r2]; rfl
    refine fut_br hc isf (fun q => pas_br hc (fun q2 => ?_) (fun q2 => ?_))
    · have hfn : futn x n = false := q
      have hpn : pasn x n = true := q2
      have h8771 : ((x n).1 == 87 || (x n).1 == 71) = false := by
        cases r : ((x n).1 == 87 || (x n).1 == 71) with
        | false => rfl
        | true =>
          rw [Bool.or_eq_true, beq_iff_eq, beq_iff_eq] at r
          rcases r with r | r <;> rw [r] at q <;> cases q
      refine ⟨vp_in_nI (by show n < 9; omega) (by decide), ?_⟩
      intro τ1 e1
      rw [nI_clamp (by omega), t16] at e1
      have k1 : gF τ1 = gF τ := by rw [e1]; rfl
      have fin : ∀ v : Nat, v = (if (x n).1 == 72 then 2 ^ pbc x n else 0) → wp_X9_layBits_176 (nI n) (nI v) (gF τ1 10 19) (wl_X9_layBits_22 Q g) Q τ1 := by
        intro v hv τ2 e2 τ3 e3
        rw [k1, t19, nIor] at e2
        have q16 : gF τ2 10 16 = nI (pbc x n) := by rw [e2, gF_stF, if_pos rfl, if_neg (by decide), k1]; exact t16
        rw [q16, nI_add] at e3
        have f3 : ∀ k, gF τ3 10 k = if k = 16 then nI (pbc x n + 1) else if k = 19 then nI (aFm x n ||| v) else gF τ 10 k := by
          intro k
          rw [e3, gF_stF, if_pos rfl, e2, gF_stF, if_pos rfl, k1]
        intro y ey
        rw [ey, nI_add]
        refine hs2 τ3 ⟨by rw [e3, e2, e1]; exact ((fr.stA (by simp)).stF (by simp)).stF (by simp), ?_, ?_, ?_, ?_, ?_, ?_⟩
        · intro k hk
          have hk2 := hk
          simp only [List.mem_cons, List.not_mem_nil, or_false, not_or] at hk2
          rw [f3, if_neg hk2.2.1, if_neg hk2.2.2.2]
          exact t4 k hk
        · rw [f3, if_neg (by decide), if_neg (by decide), hf1, hfn]; exact t15
        · rw [f3, if_pos rfl, hp1, hpn]; rfl
        · rw [f3, if_neg (by decide), if_neg (by decide), t18]
          unfold aEm
          simp only [bc, h8771]
          rfl
        · rw [f3, if_neg (by decide), if_pos rfl]
          congr 1
          unfold aFm
          simp only [bc]
          rw [hv]
          split
          · rfl
          · exact Nat.or_zero _
        · intro i hi
          rw [e3, gA_stF, e2, gA_stF, e1, gA_stA, if_pos rfl]
          by_cases r : i = n
          · rw [if_pos r, r]
            exact ⟨fun w => (by rw [hfn] at w; cases w), fun _ => rfl⟩
          · rw [if_neg r]; exact tc i (by omega)
      refine (pk_eq (x n).1 72 (fun r => ?_) (fun r => fin 0 ?_)).symm
      · rw [k1, t16, nI1shl (by omega), ← k1]
        exact fin _ (by rw [r]; rfl)
      · rw [beq_eq_false_iff_ne.mpr r]; rfl
    · have hfn : futn x n = false := q
      have hpn : pasn x n = false := q2
      have h8771 : ((x n).1 == 87 || (x n).1 == 71) = false := by
        cases r : ((x n).1 == 87 || (x n).1 == 71) with
        | false => rfl
        | true =>
          rw [Bool.or_eq_true, beq_iff_eq, beq_iff_eq] at r
          rcases r with r | r <;> rw [r] at q <;> cases q
      have h72 : ((x n).1 == 72) = false := by
        cases r : (x n).1 == 72 with
        | false => rfl
        | true => rw [beq_iff_eq] at r; rw [r] at q2; cases q2
      intro y ey
      rw [ey, nI_add]
      refine hs2 τ ⟨fr, t4, by rw [hf1, hfn]; exact t15, by rw [hp1, hpn]; exact t16, ?_, ?_, fun i hi => ?_⟩
      · unfold aEm at t18 ⊢
        simp only [bc, h8771]; exact t18
      · unfold aFm at t19 ⊢
        simp only [bc, h72]; exact t19
      · by_cases r : i = n
        · rw [r]
          exact ⟨fun w => (by rw [hfn] at w; cases w), fun w => (by rw [hpn] at w; cases w)⟩
        · exact tc i (by omega)
