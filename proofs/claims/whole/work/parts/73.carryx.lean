/-! ===== read: the class's carry, values ===== -/
theorem nIor (a b : Nat) : nI a ||| nI b = nI (a ||| b) := by
  apply Int32.toBitVec_inj.mp
  rw [Int32.toBitVec_or]
  show BitVec.ofNat 32 a ||| BitVec.ofNat 32 b = BitVec.ofNat 32 (a ||| b)
  apply BitVec.eq_of_toNat_eq
  rw [BitVec.toNat_or, BitVec.toNat_ofNat, BitVec.toNat_ofNat, BitVec.toNat_ofNat, Nat.or_mod_two_pow]
theorem nI1shl {n : Nat} (h : n < 31) : nI 1 <<< (nI n &&& 31) = nI (2 ^ n) := by
  have all : ∀ n, n < 31 → nI 1 <<< (nI n &&& 31) = nI (2 ^ n) := by decide +kernel
  exact all n h
theorem s_l2 {n : Nat} (h : n < 32) : ((nI n &&& 31).toBitVec.smod 32).toNat = n := by
  have all : ∀ n, n < 32 → ((nI n &&& 31).toBitVec.smod 32).toNat = n := by decide +kernel
  exact all n h
theorem nIshl {a n : Nat} (hn : n < 32) (h : a * 2 ^ n < 2 ^ 32) : nI a <<< (nI n &&& 31) = nI (a * 2 ^ n) := pk_shlN _ n (s_l2 hn) h
theorem nIshr {a n : Nat} (hn : n < 32) (h : a < 2 ^ 31) : nI a >>> (nI n &&& 31) = nI (a / 2 ^ n) := pk_shrN h _ n (s_l2 hn)
def XNd (σ : Sg) (x : Nat → NdT) (N : Nat) : Prop := gF σ 2 6 = nI N ∧ ∀ n, n < N → gA σ 13 n = nI (x n).1 ∧ gA σ 14 n = oI (x n).2.1 ∧ gA σ 15 n = oI (x n).2.2.1
def XBt (σ : Sg) (x : Nat → NdT) (N : Nat) : Prop := XNd σ x N ∧ (∀ i, i < N → gA σ 17 i = nI (slt x (fbc x N) i)) ∧ gF σ 2 7 = nI (fbc x N) ∧ gF σ 2 8 = nI (pbc x N)
theorem sp_giveBits {σ : Sg} {x : Nat → NdT} {N : Nat} {Q : Sg → Prop} (hR : Rok x N) (hX : XNd σ x N) (h : ∀ σ', Fr [2] [17] σ σ' → XBt σ' x N → Q σ') : wp_X6_giveBits σ Q := by
  obtain ⟨r0, r9, rk, rb⟩ := hR
  obtain ⟨h6, hx⟩ := hX
  intro σ1 e1
  have f1 : Fr [2] [17] σ σ1 := by rw [e1]; exact Fr.rf.stF (by simp)
  have g16 : gF σ1 2 6 = nI N := by rw [e1, gF_stF, if_pos rfl, if_neg (by decide)]; exact h6
  have g17 : gF σ1 2 7 = nI 0 := by rw [e1, gF_stF, if_pos rfl, if_pos rfl]
  clear e1
  have fle : ∀ n, n ≤ N → fbc x n ≤ fbc x N := fun n hn => fb_ct_mono _ hn
  refine lq1 (fun g n (τ : Sg) => wl_X6_giveBits_7 (fun σ9 => wp_X6_giveBits_67 Q σ9) Q g (nI n) τ) (fun n τ => Fr [2] [17] σ τ ∧ gF τ 2 6 = nI N ∧ gF τ 2 7 = nI (fbc x n) ∧ ∀ i, i < n → gA τ 17 i = nI (if futn x i = true then fbc x i else 31)) N ?_ ?_ σ1 ⟨f1, g16, g17, fun i hi => by omega⟩
  · intro g τ ⟨fr, t6, t7, tc⟩
    show wb_X6_giveBits_7 _ _ _ _ _
    unfold wb_X6_giveBits_7
    rw [t6]
    refine pk_le N N (fun _ => ?_) (fun z => by omega)
    intro σ2 e2
    refine lq1 (fun g n (τ : Sg) => wl_X6_giveBits_74 Q g (nI n) τ) (fun n τ => Fr [2] [17] σ τ ∧ gF τ 2 6 = nI N ∧ gF τ 2 7 = nI (fbc x N) ∧ gF τ 2 8 = nI (pbc x n) ∧ (∀ i, i < n → gA τ 17 i = nI (slt x (fbc x N) i)) ∧ ∀ i, n ≤ i → i < N → gA τ 17 i = nI (if futn x i = true then fbc x i else 31)) N ?_ ?_ σ2 ⟨by rw [e2]; exact fr.stF (by simp), by rw [e2, gF_stF, if_pos rfl, if_neg (by decide)]; exact t6, by rw [e2, gF_stF, if_pos rfl, if_neg (by decide)]; exact t7, by rw [e2, gF_stF, if_pos rfl, if_pos rfl]; rfl, fun i hi => by omega, fun i _ hi => by rw [e2]; exact tc i hi⟩
    · intro g ρ ⟨fr2, u6, u7, u8, uc, _⟩
      show wb_X6_giveBits_74 _ _ _ _
      unfold wb_X6_giveBits_74
      rw [u6]
      refine pk_le N N (fun _ => h ρ fr2 ⟨⟨u6, fun n hn => ?_⟩, uc, u7, u8⟩) (fun z => by omega)
      rw [fr2.A (by decide), fr2.A (by decide), fr2.A (by decide)]
      exact hx n hn
    · intro g n ρ hn ⟨fr2, u6, u7, u8, uc, ud⟩ hs2
      show wb_X6_giveBits_74 _ _ _ _
      unfold wb_X6_giveBits_74
      rw [u6]
      refine pk_le N n (fun z => by omega) (fun _ => ?_)
      refine sp_pick (k := n) rfl (by show n < 9; omega) ?_
      rw [fr2.A (by decide), (hx n hn).1]
      have hp1 : pbc x (n + 1) = pbc x n + (if pasn x n = true then 1 else 0) := fb_ct_succ _ n
      refine sp_looksAhead rfl (rk n hn).2.2 (bI_br (fun z => ?_) (fun z => ?_))
      · intro y ey
        rw [ey, nI_add]
        have hpn : pasn x n = false := z
        refine hs2 ρ ⟨fr2, u6, u7, by rw [hp1, hpn]; exact u8, fun i hi => ?_, fun i a b => ud i (by omega) b⟩
        by_cases q : i = n
        · subst q
          rw [ud i (Nat.le_refl i) hn]
          unfold slt
          rw [hpn]
          simp
        · exact uc i (by omega)
      · have hpn : pasn x n = true := z
        rw [u7, u8, nI_add]
        refine sp_put (k := n) rfl (by show n < 9; omega) ?_
        intro σ6 e6 y ey
        rw [ey, nI_add]
        have w8 : gF (stA ρ 17 n (nI (fbc x N + pbc x n))) 2 8 + nI 1 = nI (pbc x n + 1) := by
          show gF ρ 2 8 + nI 1 = _
          rw [u8, nI_add]
        rw [w8] at e6
        have hnf : ¬ futn x n = true := by
          intro q
          have := fut_not_pas q
          unfold pasn at hpn
          rw [this] at hpn; cases hpn
        refine hs2 σ6 ⟨?_, ?_, ?_, ?_, fun i hi => ?_, fun i a b => ?_⟩
        · rw [e6]; exact (fr2.stA (by simp)).stF (by simp)
        · rw [e6, gF_stF, if_pos rfl, if_neg (by decide)]; exact u6
        · rw [e6, gF_stF, if_pos rfl, if_neg (by decide)]; exact u7
        · rw [e6, gF_stF, if_pos rfl, if_pos rfl, hp1, hpn]; rfl
        · rw [e6, gA_stF, gA_stA, if_pos rfl]
          by_cases q : i = n
          · rw [if_pos q, q]
            unfold slt
            rw [if_neg hnf, if_pos hpn]
          · rw [if_neg q]; exact uc i (by omega)
        · rw [e6, gA_stF, gA_stA, if_pos rfl, if_neg (by omega)]
          exact ud i (by omega) b
  · intro g n τ hn ⟨fr, t6, t7, tc⟩ hs2
    show wb_X6_giveBits_7 _ _ _ _ _
    unfold wb_X6_giveBits_7
    rw [t6]
    refine pk_le N n (fun z => by omega) (fun _ => ?_)
    refine sp_put (k := n) rfl (by show n < 9; omega) ?_
    refine sp_pick (k := n) rfl (by show n < 9; omega) ?_
    rw [gA_stA_row (by decide), fr.A (by decide), (hx n hn).1]
    have hf1 : fbc x (n + 1) = fbc x n + (if futn x n = true then 1 else 0) := fb_ct_succ _ n
    refine sp_looksBehind rfl (rk n hn).2.2 (bI_br (fun z => ?_) (fun z => ?_))
    · have hfn : futn x n = false := z
      intro y ey
      rw [ey, nI_add]
      refine hs2 _ ⟨fr.stA (by simp), t6, by rw [hf1, hfn]; exact t7, fun i hi => ?_⟩
      rw [gA_stA, if_pos rfl]
      by_cases q : i = n
      · rw [if_pos q, q, hfn]; rfl
      · rw [if_neg q]; exact tc i (by omega)
    · have hfn : futn x n = true := z
      refine sp_put (k := n) rfl (by show n < 9; omega) ?_
      intro σ7 e7 y ey
      rw [ey, nI_add]
      have w7 : gF (stA (stA τ 17 n (nI 31)) 17 n (gF (stA τ 17 n (nI 31)) 2 7)) 2 7 + nI 1 = nI (fbc x n + 1) := by
        show gF τ 2 7 + nI 1 = _
        rw [t7, nI_add]
      have w7' : gF (stA τ 17 n (nI 31)) 2 7 = nI (fbc x n) := t7
      rw [w7, w7'] at e7
      refine hs2 σ7 ⟨?_, ?_, ?_, fun i hi => ?_⟩
      · rw [e7]; exact ((fr.stA (by simp)).stA (by simp)).stF (by simp)
      · rw [e7, gF_stF, if_pos rfl, if_neg (by decide)]; exact t6
      · rw [e7, gF_stF, if_pos rfl, if_pos rfl, hf1, hfn]; rfl
      · rw [e7, gA_stF, gA_stA, if_pos rfl]
        by_cases q : i = n
        · rw [if_pos q, q, hfn]; rfl
        · rw [if_neg q, gA_stA, if_pos rfl, if_neg q]; exact tc i (by omega)
theorem slt_lt {x : Nat → NdT} {N i : Nat} (hR : Rok x N) (hi : i < N) (h : (futn x i || pasn x i) = true) : slt x (fbc x N) i < 8 := by
  obtain ⟨r0, r9, rk, rb⟩ := hR
  unfold slt
  by_cases q : futn x i = true
  · rw [if_pos q]
    have := fbc_lt hi q
    omega
  · have hp : pasn x i = true := by
      cases h2 : pasn x i with
      | true => rfl
      | false => rw [h2, Bool.or_false] at h; exact absurd h q
    rw [if_neg q, if_pos hp]
    have := pbc_lt hi hp
    omega
theorem sp_noPlace {σ : Sg} {x : Nat → NdT} {N : Nat} {Q : Int32 → Sg → Prop} (hR : Rok x N) (hX : XBt σ x N) (h : Q (nI (aFm x N * 2 ^ fbc x N + aEm x N)) σ) : wp_X6_bitsOfNoPlace σ Q := by
  obtain ⟨r0, r9, rk, rb⟩ := id hR
  obtain ⟨⟨h6, hx⟩, hs, h7, h8⟩ := hX
  have hb := bc_both (x := x) (N := N) (p := fun i => (x i).1 == 87 || (x i).1 == 71 || (x i).1 == 72) (pf := fun i => (x i).1 == 87 || (x i).1 == 71) (pp := fun i => (x i).1 == 72) (fun i _ q => by
    unfold futn futS
    rw [Bool.or_eq_true, beq_iff_eq, beq_iff_eq] at q
    rcases q with q | q <;> rw [q] <;> rfl) (fun i _ q => by
    unfold pasn pasS
    rw [beq_iff_eq] at q
    rw [q]; rfl) (fun i _ => rfl)
  have hb' : bc (fun i => (x i).1 == 87 || (x i).1 == 71 || (x i).1 == 72) (slt x (fbc x N)) N = aFm x N * 2 ^ fbc x N + aEm x N := hb
  rw [← hb'] at h
  refine lq1 (fun g n (a : Nat) => wl_X6_bitsOfNoPlace_4 Q g (nI a) (nI n) σ) (fun n a => a = bc (fun i => (x i).1 == 87 || (x i).1 == 71 || (x i).1 == 72) (slt x (fbc x N)) n) N ?_ ?_ 0 rfl
  · intro g a ha
    show wb_X6_bitsOfNoPlace_4 _ _ _ _ _
    unfold wb_X6_bitsOfNoPlace_4
    rw [h6, ha]
    exact pk_le N N (fun _ => h) (fun z => by omega)
  · intro g n a hn ha hs2
    show wb_X6_bitsOfNoPlace_4 _ _ _ _ _
    unfold wb_X6_bitsOfNoPlace_4
    rw [h6]
    refine pk_le N n (fun z => by omega) (fun _ => ?_)
    refine sp_pick (k := n) rfl (by show n < 9; omega) ?_
    rw [(hx n hn).1]
    have hc := (rk n hn).2.2
    have yes : ((x n).1 == 87 || (x n).1 == 71 || (x n).1 == 72) = true → wp_X6_bitsOfNoPlace_39 (nI a) (nI n) (wl_X6_bitsOfNoPlace_4 Q g) Q σ := by
      intro z
      refine sp_pick (k := n) rfl (by show n < 9; omega) ?_
      rw [hs n hn]
      have hsl := slt_lt hR hn (by
        rw [Bool.or_eq_true, Bool.or_eq_true, beq_iff_eq, beq_iff_eq, beq_iff_eq] at z
        unfold futn pasn
        rcases z with (z | z) | z <;> rw [z] <;> rfl)
      intro y ey w ew
      rw [nI1shl (by omega), nIor] at ey
      rw [ey, ew, nI_add]
      refine hs2 _ ?_
      rw [ha]
      simp only [bc, z, if_true]
    have no : ((x n).1 == 87 || (x n).1 == 71 || (x n).1 == 72) = false → wp_X6_bitsOfNoPlace_52 (nI a) (nI n) (wl_X6_bitsOfNoPlace_4 Q g) Q σ := by
      intro z w ew
      rw [ew, nI_add]
      refine hs2 _ ?_
      rw [ha]
      simp only [bc, z, Bool.false_eq_true, if_false]
    refine pk_eq (x n).1 87 (fun e => yes (by rw [e]; rfl)) (fun n1 => pk_eq (x n).1 71 (fun e => yes (by rw [e]; rfl)) (fun n2 => (pk_eq (x n).1 72 (fun e => yes (by rw [e]; rfl)) (fun n3 => no ?_)).symm))
    rw [beq_eq_false_iff_ne.mpr n1, beq_eq_false_iff_ne.mpr n2, beq_eq_false_iff_ne.mpr n3]; rfl
theorem sp_hasBitI {v : Nat} {o : Option Nat} {x : Int64} {i : Int32} {σ : Sg} {Q : Int32 → Sg → Prop} (hx : x = Int32.toInt64 (nI v)) (hv : v < 2 ^ 31) (hi : i = oI o) (ho : ∀ k, o = some k → k < 60) (h : Q (bI (chd v.testBit o)) σ) : wp_X8_hasBit x i σ Q := by
  rw [nI_l (by omega)] at hx
  cases o with
  | some k => exact sp_hasBit hx (by omega) hi (by have := ho k rfl; omega) h
  | none =>
    subst hx hi
    have e : lUSHR (lN v) (oI none) = lUSHR (lN v) (nI 55) := by
      unfold lUSHR
      have : (oI none).toInt64.toUInt64 &&& Int64.toUInt64 63 = (nI 55).toInt64.toUInt64 &&& Int64.toUInt64 63 := by decide
      rw [this]
    have hb : v.testBit 55 = false := Nat.testBit_lt_two_pow (by omega)
    have go : wp_X8_hasBit (lN v) (nI 55) σ Q := sp_hasBit rfl (by omega) rfl (by decide) (by rw [hb]; exact h)
    unfold wp_X8_hasBit at go ⊢
    rw [e]
    exact go
theorem nvl_c {c e : Nat} {a b k z p : Bool} (hf : futS c = true → k = z) (hp : pasS c = true → k = p) : nvl c e a b k k = nvl c e a b z p := by
  unfold nvl
  by_cases q1 : c = 70
  · subst q1; rw [hf rfl]; rfl
  by_cases q2 : c = 71
  · subst q2; rw [hf rfl]; rfl
  by_cases q3 : c = 72
  · subst q3; rw [hp rfl]; rfl
  by_cases q4 : c = 78
  · subst q4; rw [hf rfl]; rfl
  by_cases q5 : c = 79
  · subst q5; rw [hp rfl]; rfl
  by_cases q6 : c = 83
  · subst q6; rw [hp rfl]; rfl
  by_cases q7 : c = 85
  · subst q7; rw [hf rfl]; rfl
  by_cases q8 : c = 87
  · subst q8; rw [hf rfl]; rfl
  by_cases q9 : c = 89
  · subst q9; rw [hp rfl]; rfl
  simp only [if_neg q1, if_neg q2, if_neg q3, if_neg q4, if_neg q5, if_neg q6, if_neg q7, if_neg q8, if_neg q9]
