/-! ===== read: what may come, the class's ===== -/
/-- the least set that is closed -/
def Cn (x : Nat → NdT) (N was z : Nat) : Prop := ∀ S : Nat → Nat → Prop, (∀ w, S w (aEm x N)) → (∀ w e z', w < 2 ^ pbc x N → e < 4 → z' < 2 ^ fbc x N → S (lbm x N e w z') z' → S w (tlm x N e w z')) → S was z
theorem Cn_base (x : Nat → NdT) (N w : Nat) : Cn x N w (aEm x N) := fun _ h1 _ => h1 w
theorem Cn_step {x : Nat → NdT} {N w e z' : Nat} (hw : w < 2 ^ pbc x N) (he : e < 4) (hz : z' < 2 ^ fbc x N) (h : Cn x N (lbm x N e w z') z') : Cn x N w (tlm x N e w z') := fun S h1 h2 => h2 w e z' hw he hz (h S h1 h2)
/-- closed at one place -/
def Clp (x : Nat → NdT) (N : Nat) (pos : Nat → Bool) (b e : Nat) : Prop := pos (lbm x N e (b / 2 ^ fbc x N) (b % 2 ^ fbc x N) * 2 ^ fbc x N + b % 2 ^ fbc x N) = true → pos (b / 2 ^ fbc x N * 2 ^ fbc x N + tlm x N e (b / 2 ^ fbc x N) (b % 2 ^ fbc x N)) = true
def Snd (x : Nat → NdT) (N : Nat) (pos : Nat → Bool) : Prop := ∀ b, b < 2 ^ (fbc x N + pbc x N) → pos b = true → Cn x N (b / 2 ^ fbc x N) (b % 2 ^ fbc x N)
theorem clo_all {x : Nat → NdT} {N : Nat} {pos : Nat → Bool} (hS : Snd x N pos) (hb : ∀ w, w < 2 ^ pbc x N → pos (w * 2 ^ fbc x N + aEm x N) = true) (hc : ∀ b e, b < 2 ^ (fbc x N + pbc x N) → e < 4 → Clp x N pos b e) : ∀ w z, w < 2 ^ pbc x N → z < 2 ^ fbc x N → (pos (w * 2 ^ fbc x N + z) = true ↔ Cn x N w z) := by
  intro w z hw hz
  constructor
  · intro h
    have := hS _ (wz_lt hw hz) h
    rw [(wz_dm hz).1, (wz_dm hz).2] at this
    exact this
  · intro h
    have := h (fun w z => w < 2 ^ pbc x N → z < 2 ^ fbc x N → pos (w * 2 ^ fbc x N + z) = true) (fun w hw _ => hb w hw) (fun w e z' hw he hz' ih _ _ => by
      have h1 := hc (w * 2 ^ fbc x N + z') e (wz_lt hw hz') he
      unfold Clp at h1
      rw [(wz_dm hz').1, (wz_dm hz').2] at h1
      exact h1 (ih (lbm_lt x N e w z') hz'))
    exact this hw hz
def upb (p : Nat → Bool) (i : Nat) : Nat → Bool := fun k => if k = i then true else p k
theorem upb_ct {p : Nat → Bool} {i M : Nat} (hi : i < M) (h : p i = false) : fb_ct p M + 1 ≤ fb_ct (upb p i) M := by
  have := fb_ct_upd p true hi
  rw [h] at this
  simp only [Bool.false_eq_true, if_false, if_true, Nat.add_zero] at this
  unfold upb
  omega
theorem sp_addPossible {σ0 σ : Sg} {x : Nat → NdT} {N b : Nat} {pos : Nat → Bool} {Q : Int32 → Sg → Prop} (hR : Rok x N) (hC : XCa σ0 x N) (fr : Fr [] [21] σ0 σ) (hb : b < 2 ^ (fbc x N + pbc x N)) (hp : ∀ i, i < 2 ^ (fbc x N + pbc x N) → gA σ 21 i = bI (pos i)) (hS : Snd x N pos) (h : ∀ σ' pos' add, Fr [] [21] σ0 σ' → (∀ i, i < 2 ^ (fbc x N + pbc x N) → gA σ' 21 i = bI (pos' i)) → Snd x N pos' → (∀ i, pos i = true → pos' i = true) → (add = false → pos' = pos ∧ ∀ e, e < 4 → Clp x N pos b e) → (add = true → fb_ct pos (2 ^ (fbc x N + pbc x N)) + 1 ≤ fb_ct pos' (2 ^ (fbc x N + pbc x N))) → Q (bI add) σ') : wp_X0_addPossible (nI b) σ Q := by
  have hb8 := hR.2.2.2
  have h256 := pw8 hb8
  obtain ⟨w1, w2, w3⟩ := wz_of hb
  refine lq3 (fun g e (add : Bool) (ps : Nat → Bool) (τ : Sg) => wl_X0_addPossible_4 (nI b) Q g (bI add) (nI e) τ) (fun e add ps τ => Fr [] [21] σ0 τ ∧ (∀ i, i < 2 ^ (fbc x N + pbc x N) → gA τ 21 i = bI (ps i)) ∧ Snd x N ps ∧ (∀ i, pos i = true → ps i = true) ∧ (add = false → ps = pos ∧ ∀ e', e' < e → Clp x N pos b e') ∧ (add = true → fb_ct pos (2 ^ (fbc x N + pbc x N)) + 1 ≤ fb_ct ps (2 ^ (fbc x N + pbc x N)))) 4 ?_ ?_ false pos σ ⟨fr, hp, hS, fun i q => q, fun _ => ⟨rfl, fun e' q => by omega⟩, fun q => by cases q⟩
  · intro g add ps τ ⟨a1, a2, a3, a4, a5, a6⟩
    show wb_X0_addPossible_4 _ _ _ _ _ _
    exact pk_le 4 4 (fun _ => ⟨bI_bl add, h τ ps add a1 a2 a3 a4 a5 a6⟩) (fun z => by omega)
  · intro g e add ps τ he ⟨a1, a2, a3, a4, a5, a6⟩ hs2
    show wb_X0_addPossible_4 _ _ _ _ _ _
    have c3 : gF τ 3 3 = nI (fbc x N) := by rw [a1.F (by decide)]; exact hC.1
    have hF8 : fbc x N ≤ 8 := by omega
    have htl := tlm_lt x N e (b / 2 ^ fbc x N) (b % 2 ^ fbc x N)
    have hlb := lbm_lt x N e (b / 2 ^ fbc x N) (b % 2 ^ fbc x N)
    have hturn := wz_lt hlb htl
    have hbeh := wz_lt hlb w2
    have hher := wz_lt w1 htl
    refine pk_le 4 e (fun z => by omega) (fun _ => ?_)
    refine sp_pick (k := b * 4 + e) (by rw [pk_mul, nI_add]) (by show _ < 1024; omega) ?_
    have h19 := (hC.2.2.2 (b / 2 ^ fbc x N) (b % 2 ^ fbc x N) e w1 w2 he).1
    rw [← w3] at h19
    rw [a1.A (by decide), h19]
    generalize htn : lbm x N e (b / 2 ^ fbc x N) (b % 2 ^ fbc x N) * 2 ^ fbc x N + tlm x N e (b / 2 ^ fbc x N) (b % 2 ^ fbc x N) = turn at hturn
    have hd1 : turn / 2 ^ fbc x N = lbm x N e (b / 2 ^ fbc x N) (b % 2 ^ fbc x N) := by rw [← htn]; exact (wz_dm htl).1
    have hd2 : turn % 2 ^ fbc x N = tlm x N e (b / 2 ^ fbc x N) (b % 2 ^ fbc x N) := by rw [← htn]; exact (wz_dm htl).2
    refine sp_pastOf (b := turn) rfl c3 hF8 (by omega) ?_
    rw [hd1]
    refine sp_futureOf (b := b) rfl c3 hF8 (by omega) ?_
    refine sp_both2 (F := fbc x N) (P := pbc x N) rfl rfl c3 hb8 hlb w2 ?_
    refine sp_pastOf (b := b) rfl c3 hF8 (by omega) ?_
    refine sp_futureOf (b := turn) rfl c3 hF8 (by omega) ?_
    rw [hd2]
    refine sp_both2 (F := fbc x N) (P := pbc x N) rfl rfl c3 hb8 w1 htl ?_
    have skip : Clp x N ps b e → wp_X0_addPossible_81 (nI b) (bI add) (nI e) (wl_X0_addPossible_4 (nI b) Q g) Q τ := by
      intro hcl y ey
      rw [ey, nI_add]
      refine hs2 add ps τ ⟨a1, a2, a3, a4, fun q => ?_, a6⟩
      obtain ⟨q1, q2⟩ := a5 q
      refine ⟨q1, fun e' he' => ?_⟩
      by_cases r : e' = e
      · rw [r, ← q1]; exact hcl
      · exact q2 e' (by omega)
    refine sp_isSet (k := lbm x N e (b / 2 ^ fbc x N) (b % 2 ^ fbc x N) * 2 ^ fbc x N + b % 2 ^ fbc x N) rfl (by show _ < 256; omega) (a2 _ hbeh) ⟨bI_bl _, ?_⟩
    refine bI_br (fun z => skip (fun w => by rw [z] at w; cases w)) (fun z => ?_)
    refine sp_isSet (k := b / 2 ^ fbc x N * 2 ^ fbc x N + tlm x N e (b / 2 ^ fbc x N) (b % 2 ^ fbc x N)) rfl (by show _ < 256; omega) (a2 _ hher) ⟨bI_bl _, ?_⟩
    refine bI_rb (fun y => skip (fun _ => y)) (fun y => ?_)
    refine sp_set (k := b / 2 ^ fbc x N * 2 ^ fbc x N + tlm x N e (b / 2 ^ fbc x N) (b % 2 ^ fbc x N)) (b := true) rfl (by show _ < 256; omega) rfl ?_
    intro v ev
    rw [ev, nI_add]
    refine hs2 true (upb ps (b / 2 ^ fbc x N * 2 ^ fbc x N + tlm x N e (b / 2 ^ fbc x N) (b % 2 ^ fbc x N))) _ ⟨a1.stA (by simp), fun i hi => ?_, fun i hi hpi => ?_, fun i hi => ?_, fun q => (by cases q), fun _ => ?_⟩
    · rw [gA_stA, if_pos rfl]
      unfold upb
      by_cases r : i = b / 2 ^ fbc x N * 2 ^ fbc x N + tlm x N e (b / 2 ^ fbc x N) (b % 2 ^ fbc x N)
      · rw [if_pos r, if_pos r]
      · rw [if_neg r, if_neg r]; exact a2 i hi
    · unfold upb at hpi
      by_cases r : i = b / 2 ^ fbc x N * 2 ^ fbc x N + tlm x N e (b / 2 ^ fbc x N) (b % 2 ^ fbc x N)
      · rw [r, (wz_dm htl).1, (wz_dm htl).2]
        refine Cn_step w1 he w2 ?_
        have := a3 _ hbeh z
        rw [(wz_dm w2).1, (wz_dm w2).2] at this
        exact this
      · rw [if_neg r] at hpi; exact a3 i hi hpi
    · unfold upb
      split
      · rfl
      · exact a4 i hi
    · have h1 := upb_ct hher y
      have h2 : fb_ct pos (2 ^ (fbc x N + pbc x N)) ≤ fb_ct ps (2 ^ (fbc x N + pbc x N)) := fb_ct_sub (fun k _ q => a4 k q)
      omega
theorem sp_findPossible {σ : Sg} {x : Nat → NdT} {N : Nat} {Q : Sg → Prop} (hR : Rok x N) (hC : XCa σ x N) (h : ∀ σ', Fr [] [21] σ σ' → (∀ w z, w < 2 ^ pbc x N → z < 2 ^ fbc x N → Cb (gA σ' 21 (w * 2 ^ fbc x N + z)) (Cn x N w z)) → Q σ') : wp_X0_findPossible σ Q := by
  have hb8 := hR.2.2.2
  have h256 := pw8 hb8
  have hF8 : fbc x N ≤ 8 := by omega
  have hnp : aFm x N * 2 ^ fbc x N + aEm x N < 2 ^ (fbc x N + pbc x N) := wz_lt (aFm_lt x N) (aEm_lt x N)
  refine lq1 (fun g b (τ : Sg) => wl_X0_findPossible_2 (fun σ9 => wp_X0_findPossible_45 Q σ9) Q g (nI b) τ) (fun b τ => Fr [] [21] σ τ ∧ ∀ i, i < b → gA τ 21 i = bI (decide (i % 2 ^ fbc x N = aEm x N))) (2 ^ (fbc x N + pbc x N)) ?_ ?_ σ ⟨Fr.rf, fun i hi => by omega⟩
  · intro g τ ⟨fr, hc⟩
    show wb_X0_findPossible_2 _ _ _ _ _
    unfold wb_X0_findPossible_2
    refine sp_all (by rw [fr.F (by decide)]; exact hC.1) (by rw [fr.F (by decide)]; exact hC.2.1) hb8 ?_
    refine pk_le (2 ^ (fbc x N + pbc x N)) (2 ^ (fbc x N + pbc x N)) (fun _ => ?_) (fun z => by omega)
    show wp_X0_findPossible_45 _ _
    unfold wp_X0_findPossible_45
    -- the rounds
    refine loop_m (σ := Nat × Bool × (Nat → Bool) × Sg) (fun g a => wl_X0_findPossible_49 Q g (bI a.2.1) (nI a.1) a.2.2.2) (fun a => a.1 ≤ 256 ∧ Fr [] [21] σ a.2.2.2 ∧ (∀ i, i < 2 ^ (fbc x N + pbc x N) → gA a.2.2.2 21 i = bI (a.2.2.1 i)) ∧ Snd x N a.2.2.1 ∧ (∀ w, w < 2 ^ pbc x N → a.2.2.1 (w * 2 ^ fbc x N + aEm x N) = true) ∧ (a.2.1 = false → ∀ b e, b < 2 ^ (fbc x N + pbc x N) → e < 4 → Clp x N a.2.2.1 b e) ∧ (a.2.1 = true → a.1 + 1 ≤ fb_ct a.2.2.1 (2 ^ (fbc x N + pbc x N)))) (fun a => 256 - a.1) ?_ (0, true, (fun i => decide (i % 2 ^ fbc x N = aEm x N)), τ) ⟨Nat.zero_le 256, fr, hc, fun b hb q => ?_, fun w hw => ?_, fun q => (by cases q), fun _ => ?_⟩
    · rintro g ⟨r, more, pos, ρ⟩ ⟨a1, a2, a3, a4, a5, a6, a7⟩ hs
      simp only at a1 a2 a3 a4 a5 a6 a7 hs ⊢
      show wb_X0_findPossible_49 _ _ _ _ _
      have done : more = false → Q ρ := by
        intro q
        refine h ρ a2 (fun w z hw hz => ?_)
        exact ⟨_, a3 _ (wz_lt hw hz), clo_all a4 a5 (a6 q) w z hw hz⟩
      have hct := fb_ct_le pos (2 ^ (fbc x N + pbc x N))
      refine pk_le 256 r (fun z => ?_) (fun z => ?_)
      · cases hm : more with
        | false => exact done hm
        | true => have := a7 hm; omega
      · refine bI_br (fun q => done q) (fun q => ?_)
        refine lq3 (fun g b (add : Bool) (ps : Nat → Bool) (κ : Sg) => wl_X0_findPossible_64 (nI r) (fun z1 σ9 => wp_X0_findPossible_86 z1 (nI r) _ Q σ9) Q g (bI add) (nI b) κ) (fun b add ps κ => Fr [] [21] σ κ ∧ (∀ i, i < 2 ^ (fbc x N + pbc x N) → gA κ 21 i = bI (ps i)) ∧ Snd x N ps ∧ (∀ i, pos i = true → ps i = true) ∧ (add = false → ps = pos ∧ ∀ b' e, b' < b → e < 4 → Clp x N pos b' e) ∧ (add = true → fb_ct pos (2 ^ (fbc x N + pbc x N)) + 1 ≤ fb_ct ps (2 ^ (fbc x N + pbc x N)))) (2 ^ (fbc x N + pbc x N)) ?_ ?_ false pos ρ ⟨a2, a3, a4, fun i w => w, fun _ => ⟨rfl, fun b' e hb _ => by omega⟩, fun w => (by cases w)⟩
        · intro g add ps κ ⟨c1, c2, c3, c4, c5, c6⟩
          show wb_X0_findPossible_64 _ _ _ _ _ _ _
          unfold wb_X0_findPossible_64
          refine sp_all (by rw [c1.F (by decide)]; exact hC.1) (by rw [c1.F (by decide)]; exact hC.2.1) hb8 ?_
          refine pk_le (2 ^ (fbc x N + pbc x N)) (2 ^ (fbc x N + pbc x N)) (fun _ => ?_) (fun z => by omega)
          intro y ey
          rw [ey, nI_add]
          refine hs (r + 1, add, ps, κ) ⟨by show r + 1 ≤ 256; omega, c1, c2, c3, fun w hw => c4 _ (a5 w hw), fun w => ?_, fun w => ?_⟩ (by show 256 - (r + 1) < 256 - r; omega)
          · obtain ⟨d1, d2⟩ := c5 w
            simp only
            rw [d1]; exact d2
          · have := a7 q
            have := c6 w
            show r + 1 + 1 ≤ fb_ct ps (2 ^ (fbc x N + pbc x N))
            omega
        · intro g b add ps κ hb ⟨c1, c2, c3, c4, c5, c6⟩ hs3
          show wb_X0_findPossible_64 _ _ _ _ _ _ _
          unfold wb_X0_findPossible_64
          refine sp_all (by rw [c1.F (by decide)]; exact hC.1) (by rw [c1.F (by decide)]; exact hC.2.1) hb8 ?_
          refine pk_le (2 ^ (fbc x N + pbc x N)) b (fun z => by omega) (fun _ => ?_)
          refine sp_addPossible hR hC c1 hb c2 c3 (fun κ1 ps1 add1 d1 d2 d3 d4 d5 d6 => ?_)
          intro y ey v ev
          rw [bI_or] at ey
          rw [ey, ev, nI_add]
          refine hs3 (add || add1) ps1 κ1 ⟨d1, d2, d3, fun i w => d4 i (c4 i w), fun w => ?_, fun w => ?_⟩
          · rw [Bool.or_eq_false_iff] at w
            obtain ⟨e1, e2⟩ := c5 w.1
            obtain ⟨e3, e4⟩ := d5 w.2
            refine ⟨by rw [e3, e1], fun b' e hb' he => ?_⟩
            by_cases qq : b' = b
            · rw [qq, ← e1]; exact e4 e he
            · exact e2 b' e (by omega) he
          · have m1 : fb_ct ps (2 ^ (fbc x N + pbc x N)) ≤ fb_ct ps1 (2 ^ (fbc x N + pbc x N)) := fb_ct_sub (fun k _ q => d4 k q)
            have m2 : fb_ct pos (2 ^ (fbc x N + pbc x N)) ≤ fb_ct ps (2 ^ (fbc x N + pbc x N)) := fb_ct_sub (fun k _ q => c4 k q)
            rw [Bool.or_eq_true] at w
            rcases w with w | w
            · have := c6 w; omega
            · have := d6 w; omega
    · have : b % 2 ^ fbc x N = aEm x N := of_decide_eq_true q
      rw [this]
      exact Cn_base x N _
    · exact decide_eq_true (wz_dm (aEm_lt x N)).2
    · have h0 : 0 < fb_ct (fun i => decide (i % 2 ^ fbc x N = aEm x N)) (2 ^ (fbc x N + pbc x N)) := by
        refine fb_ct_pos.mpr ⟨aEm x N, ?_, decide_eq_true (Nat.mod_eq_of_lt (aEm_lt x N))⟩
        exact Nat.lt_of_lt_of_le (aEm_lt x N) (Nat.pow_le_pow_right (by decide) (by omega))
      exact h0
  · intro g b τ hb ⟨fr, hc⟩ hs2
    show wb_X0_findPossible_2 _ _ _ _ _
    unfold wb_X0_findPossible_2
    have c3 : gF τ 3 3 = nI (fbc x N) := by rw [fr.F (by decide)]; exact hC.1
    refine sp_all c3 (by rw [fr.F (by decide)]; exact hC.2.1) hb8 ?_
    refine pk_le (2 ^ (fbc x N + pbc x N)) b (fun z => by omega) (fun _ => ?_)
    refine sp_futureOf (b := b) rfl c3 hF8 (by omega) ?_
    refine sp_futureOf (b := aFm x N * 2 ^ fbc x N + aEm x N) (by rw [fr.F (by decide)]; exact hC.2.2.1) c3 hF8 (by omega) ?_
    rw [(wz_dm (aEm_lt x N)).2]
    have hm : b % 2 ^ fbc x N < 2 ^ fbc x N := Nat.mod_lt _ (Nat.two_pow_pos _)
    have hF256 := pw8 hF8
    have hae := aEm_lt x N
    have fin : ∀ v : Bool, v = decide (b % 2 ^ fbc x N = aEm x N) → wp_X0_findPossible_36 (nI b) (bI v) (nI b) (wl_X0_findPossible_2 (fun σ9 => wp_X0_findPossible_45 Q σ9) Q g) Q τ := by
      intro v hv
      refine sp_set (k := b) (b := v) rfl (by show b < 256; omega) rfl ?_
      intro y ey
      rw [ey, nI_add]
      refine hs2 _ ⟨fr.stA (by simp), fun i hi => ?_⟩
      rw [gA_stA, if_pos rfl]
      by_cases q : i = b
      · rw [if_pos q, q, hv]
      · rw [if_neg q]; exact hc i (by omega)
    refine (pk_eq (b % 2 ^ fbc x N) (aEm x N) (fun q => fin true (decide_eq_true q).symm) (fun q => fin false (decide_eq_false q).symm)).symm
