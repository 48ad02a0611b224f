/-! ===== read: the reference's tables ===== -/
def Tpf (x : Nat → NdT) (N i : Nat) : Nat := tlm x N (i / 2 ^ fbc x N % 4) (i / 2 ^ fbc x N / 4) (i % 2 ^ fbc x N)
def Rpf (x : Nat → NdT) (N i : Nat) : Bool := rtm x N (i / 2 ^ fbc x N % 4) (i / 2 ^ fbc x N / 4) (i % 2 ^ fbc x N)
def Lpf (x : Nat → NdT) (N j : Nat) : Nat := lbm x N (j % 4) (j / 4) 0
def MTb (σ : Sg) (x : Nat → NdT) (N : Nat) : Prop := (∀ i, i < 4 * 2 ^ pbc x N * 2 ^ fbc x N → gA σ 59 i = nI (Tpf x N i) ∧ gA σ 60 i = bI (Rpf x N i)) ∧ ∀ j, j < 4 * 2 ^ pbc x N → gA σ 58 j = nI (Lpf x N j)
theorem kdz {F k z : Nat} (hz : z < 2 ^ F) : (k * 2 ^ F + z) / 2 ^ F = k ∧ (k * 2 ^ F + z) % 2 ^ F = z := wz_dm hz
theorem k4 {w e : Nat} (he : e < 4) : (4 * w + e) / 4 = w ∧ (4 * w + e) % 4 = e := by omega
theorem kz_lt {F P k z : Nat} (hk : k < 4 * 2 ^ P) (hz : z < 2 ^ F) : k * 2 ^ F + z < 4 * 2 ^ P * 2 ^ F := by
  have h1 : (k + 1) * 2 ^ F ≤ 4 * 2 ^ P * 2 ^ F := Nat.mul_le_mul_right _ hk
  rw [Nat.add_mul, Nat.one_mul] at h1
  omega
theorem big4 {F P : Nat} (h : F + P ≤ 8) : 4 * 2 ^ P * 2 ^ F ≤ 1024 := by
  have := pw8 h
  rw [Nat.pow_add] at this
  have e : 4 * 2 ^ P * 2 ^ F = 4 * (2 ^ F * 2 ^ P) := by rw [Nat.mul_assoc, Nat.mul_comm (2 ^ P)]
  rw [e]; omega
theorem sp_wide {σ : Sg} {F : Nat} {Q : Int32 → Sg → Prop} (h15 : gF σ 10 15 = nI F) (h8 : F ≤ 8) (h : Q (nI (2 ^ F)) σ) : wp_X9_wide σ Q := by
  unfold wp_X9_wide
  rw [h15, nI1shl (by omega)]
  exact h
theorem sp_spot {σ : Sg} {F w e z : Nat} {Q : Int32 → Sg → Prop} (h15 : gF σ 10 15 = nI F) (h8 : F ≤ 8) (h : Q (nI ((4 * w + e) * 2 ^ F + z)) σ) : wp_X9_spot (nI w) (nI e) (nI z) σ Q := by
  refine sp_wide h15 h8 ?_
  rw [pk_mul, nI_add, pk_mul, nI_add]
  exact h
theorem MBt_fr {σ τ : Sg} {x : Nat → NdT} {N : Nat} (h : MBt σ x N) (fr : Fr [10] [57, 58, 59, 60, 61] σ τ) (g : ∀ k, k ∉ [21, 22] → gF τ 10 k = gF σ 10 k) : MBt τ x N := by
  unfold MBt MNd at h ⊢
  rw [g 4 (by decide), g 15 (by decide), g 16 (by decide), g 18 (by decide), g 19 (by decide), fr.A (by decide), fr.A (by decide), fr.A (by decide), fr.A (by decide)]
  exact h
theorem sp_prepTables {σ : Sg} {x : Nat → NdT} {N : Nat} {Q : Sg → Prop} (hR : Rok x N) (hP : Pur x N) (hB : MBt σ x N) (h : ∀ σ', Fr [10] [57, 58, 59, 60, 61] σ σ' → (∀ k, k ∉ [21, 22] → gF σ' 10 k = gF σ 10 k) → MTb σ' x N → wp_X9_prepare_118 (nI (2 ^ pbc x N)) Q σ') : ∃ n, wl_X9_prepare_13 (nI (2 ^ pbc x N)) (fun σ9 => wp_X9_prepare_118 (nI (2 ^ pbc x N)) Q σ9) Q n (nI 0) σ := by
  obtain ⟨r0, r9, rk, rb⟩ := id hR
  have hF8 : fbc x N ≤ 8 := by omega
  have hbig := big4 rb
  have hD0 := Nat.two_pow_pos (fbc x N)
  have hD256 := pw8 hF8
  have hP256 := pw8 (show pbc x N ≤ 8 by omega)
  have step : ∀ (κ z : Nat) (τ : Sg), z < 2 ^ fbc x N → True := fun _ _ _ _ => trivial
  refine lq1 (fun g w (τ : Sg) => wl_X9_prepare_13 (nI (2 ^ pbc x N)) (fun σ9 => wp_X9_prepare_118 (nI (2 ^ pbc x N)) Q σ9) Q g (nI w) τ) (fun w τ => Fr [10] [57, 58, 59, 60, 61] σ τ ∧ (∀ k, k ∉ [21, 22] → gF τ 10 k = gF σ 10 k) ∧ (∀ i, i < 4 * w * 2 ^ fbc x N → gA τ 59 i = nI (Tpf x N i) ∧ gA τ 60 i = bI (Rpf x N i)) ∧ ∀ j, j < 4 * w → gA τ 58 j = nI (Lpf x N j)) (2 ^ pbc x N) ?_ ?_ σ ⟨Fr.rf, fun k _ => rfl, fun i hi => by simp at hi, fun j hj => by omega⟩
  · intro g τ ⟨fr, t4, ta, tb⟩
    show wb_X9_prepare_13 _ _ _ _ _ _
    exact pk_le (2 ^ pbc x N) (2 ^ pbc x N) (fun _ => h τ fr t4 ⟨ta, tb⟩) (fun z => by omega)
  · intro g w τ hw ⟨fr, t4, ta, tb⟩ hs2
    show wb_X9_prepare_13 _ _ _ _ _ _
    refine pk_le (2 ^ pbc x N) w (fun z => by omega) (fun _ => ?_)
    refine lq1 (fun g e (τ : Sg) => wl_X9_prepare_20 (nI (2 ^ pbc x N)) (nI w) (fun σ9 => wp_X9_prepare_112 (nI (2 ^ pbc x N)) (nI w) _ Q σ9) Q g (nI e) τ) (fun e τ => Fr [10] [57, 58, 59, 60, 61] σ τ ∧ (∀ k, k ∉ [21, 22] → gF τ 10 k = gF σ 10 k) ∧ (∀ i, i < (4 * w + e) * 2 ^ fbc x N → gA τ 59 i = nI (Tpf x N i) ∧ gA τ 60 i = bI (Rpf x N i)) ∧ ∀ j, j < 4 * w + e → gA τ 58 j = nI (Lpf x N j)) 4 ?_ ?_ τ ⟨fr, t4, ta, tb⟩
    · intro g ρ ⟨fr2, u4, ua, ub⟩
      show wb_X9_prepare_20 _ _ _ _ _ _ _
      refine pk_le 4 4 (fun _ => ?_) (fun z => by omega)
      intro y ey
      rw [ey, nI_add]
      refine hs2 ρ ⟨fr2, u4, fun i hi => ua i ?_, fun j hj => ub j (by omega)⟩
      rw [show 4 * w + 4 = 4 * (w + 1) by omega]; exact hi
    · intro g e ρ he ⟨fr2, u4, ua, ub⟩ hs3
      show wb_X9_prepare_20 _ _ _ _ _ _ _
      refine pk_le 4 e (fun z => by omega) (fun _ => ?_)
      have hk : 4 * w + e < 4 * 2 ^ pbc x N := by omega
      refine lq1 (fun g z (κ : Sg) => wl_X9_prepare_28 (nI (2 ^ pbc x N)) (nI w) (nI e) (fun σ9 => wp_X9_prepare_106 (nI (2 ^ pbc x N)) (nI w) (nI e) _ Q σ9) Q g (nI z) κ) (fun z κ => Fr [10] [57, 58, 59, 60, 61] σ κ ∧ (∀ k, k ∉ [21, 22] → gF κ 10 k = gF σ 10 k) ∧ (∀ i, i < (4 * w + e) * 2 ^ fbc x N + z → gA κ 59 i = nI (Tpf x N i) ∧ gA κ 60 i = bI (Rpf x N i)) ∧ (∀ j, j < 4 * w + e → gA κ 58 j = nI (Lpf x N j)) ∧ (0 < z → gA κ 58 (4 * w + e) = nI (Lpf x N (4 * w + e)))) (2 ^ fbc x N) ?_ ?_ ρ ⟨fr2, u4, ua, ub, fun z => by omega⟩
      · intro g κ ⟨c1, c2, c3, c4, c5⟩
        show wb_X9_prepare_28 _ _ _ _ _ _ _ _
        unfold wb_X9_prepare_28
        refine sp_wide (by rw [c2 15 (by decide)]; exact hB.2.1) hF8 ?_
        refine pk_le (2 ^ fbc x N) (2 ^ fbc x N) (fun _ => ?_) (fun z => by omega)
        intro y ey
        rw [ey, nI_add]
        refine hs3 κ ⟨c1, c2, fun i hi => c3 i ?_, fun j hj => ?_⟩
        · have e1 : (4 * w + (e + 1)) * 2 ^ fbc x N = (4 * w + e) * 2 ^ fbc x N + 2 ^ fbc x N := by
            rw [← Nat.add_assoc, Nat.add_mul (4 * w + e) 1, Nat.one_mul]
          rw [e1] at hi; exact hi
        · by_cases q : j = 4 * w + e
          · rw [q]; exact c5 hD0
          · exact c4 j (by omega)
      · intro g z κ hz ⟨c1, c2, c3, c4, c5⟩ hs4
        show wb_X9_prepare_28 _ _ _ _ _ _ _ _
        unfold wb_X9_prepare_28
        refine sp_wide (by rw [c2 15 (by decide)]; exact hB.2.1) hF8 ?_
        refine pk_le (2 ^ fbc x N) z (fun z => by omega) (fun _ => ?_)
        have hidx := kz_lt hk hz
        refine sp_look2 hR (MBt_fr hB c1 c2) he hw hz rfl rfl rfl (fun κ1 f1 g1 p21 p22 p57 => ?_)
        have h15 : gF κ1 10 15 = nI (fbc x N) := by rw [g1 15 (by decide), c2 15 (by decide)]; exact hB.2.1
        refine sp_spot h15 hF8 ⟨vp_in_nI (by show _ < 1024; omega) (by decide), ?_⟩
        intro κ2 e2
        rw [nI_clamp (by omega), p22] at e2
        have k2 : gF κ2 = gF κ1 := by rw [e2]; rfl
        refine sp_spot (by rw [k2]; exact h15) hF8 ?_
        have h4 : gF κ2 10 4 = nI N := by rw [k2, g1 4 (by decide), c2 4 (by decide)]; exact hB.1.1
        rw [h4, pk_sub (by omega), nI_clamp (by omega), nI_clamp (by omega)]
        refine ⟨vp_in_nI (by show _ < 9; omega) (by decide), vp_in_nI (by show _ < 1024; omega) (by decide), ?_⟩
        intro κ3 e3
        have p57' : gA κ2 57 (N - 1) = bI (rtm x N e w z) := by rw [e2, gA_stA_row (by decide)]; exact p57
        rw [p57', nar_bI] at e3
        rw [pk_mul, nI_add, nI_clamp (by omega)]
        refine ⟨vp_in_nI (by show _ < 1024; omega) (by decide), ?_⟩
        have k3 : gF κ3 = gF κ1 := by rw [e3]; exact k2
        rw [k3, p21]
        intro κ4 e4 y ey
        rw [ey, nI_add]
        have hT : Tpf x N ((4 * w + e) * 2 ^ fbc x N + z) = tlm x N e w z := by
          unfold Tpf
          rw [(kdz hz).1, (kdz hz).2, (k4 he).1, (k4 he).2]
        have hRr : Rpf x N ((4 * w + e) * 2 ^ fbc x N + z) = rtm x N e w z := by
          unfold Rpf
          rw [(kdz hz).1, (kdz hz).2, (k4 he).1, (k4 he).2]
        have hL : Lpf x N (4 * w + e) = lbm x N e w z := by
          unfold Lpf
          rw [(k4 he).1, (k4 he).2]
          exact hP e w 0 z
        have a59 : ∀ i, gA κ4 59 i = if i = (4 * w + e) * 2 ^ fbc x N + z then nI (tlm x N e w z) else gA κ 59 i := by
          intro i
          rw [e4, gA_stA_row (by decide), e3, gA_stA_row (by decide), e2, gA_stA, if_pos rfl, f1.A (by decide)]
        have a60 : ∀ i, gA κ4 60 i = if i = (4 * w + e) * 2 ^ fbc x N + z then bI (rtm x N e w z) else gA κ 60 i := by
          intro i
          rw [e4, gA_stA_row (by decide), e3, gA_stA, if_pos rfl, e2, gA_stA_row (by decide), f1.A (by decide)]
        have a58 : ∀ i, gA κ4 58 i = if i = 4 * w + e then nI (lbm x N e w z) else gA κ 58 i := by
          intro i
          rw [e4, gA_stA, if_pos rfl, e3, gA_stA_row (by decide), e2, gA_stA_row (by decide), f1.A (by decide)]
        refine hs4 κ4 ⟨?_, fun k hk => ?_, fun i hi => ?_, fun j hj => ?_, fun _ => ?_⟩
        · rw [e4, e3, e2]
          exact (((c1.tr (f1.mono (by simp) (by simp))).stA (by simp)).stA (by simp)).stA (by simp)
        · have : gF κ4 = gF κ1 := by rw [e4]; exact k3
          rw [this, g1 k hk, c2 k hk]
        · rw [a59, a60]
          by_cases q : i = (4 * w + e) * 2 ^ fbc x N + z
          · rw [if_pos q, if_pos q, q, hT, hRr]
            exact ⟨rfl, rfl⟩
          · rw [if_neg q, if_neg q]
            exact c3 i (by omega)
        · rw [a58, if_neg (by omega)]
          exact c4 j hj
        · rw [a58, if_pos rfl, hL]
