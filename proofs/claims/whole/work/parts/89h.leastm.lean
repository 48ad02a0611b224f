/-! ===== read: the reference's least ===== -/
def MMc (σ : Sg) (c : Nat) (ld : Nat → Nat) (kp : Nat → Bool) : Prop := gF σ 10 27 = nI c ∧ c ≤ 1921 ∧ Gok c ld ∧ (∀ j, j < 4 * c → gA σ 64 j = nI (ld j)) ∧ kp 0 = true ∧ ∃ F A, gF σ 10 15 = nI F ∧ F ≤ 8 ∧ gF σ 10 18 = nI A ∧ ∀ r, 1 ≤ r → r < c → gA σ 63 (r * 2 ^ F + A) = bI (kp r) ∧ r * 2 ^ F + A < 33300
theorem MMc.fr {σ τ : Sg} {c : Nat} {ld : Nat → Nat} {kp : Nat → Bool} (h : MMc σ c ld kp) (f : Fr [10] [68, 69, 70] σ τ) (g : ∀ k, k ≠ 36 → gF τ 10 k = gF σ 10 k) : MMc τ c ld kp := by
  unfold MMc at h ⊢
  rw [g 27 (by decide), g 15 (by decide), g 18 (by decide), f.A (by decide), f.A (by decide)]
  exact h
theorem sp_MisKept {σ : Sg} {c r : Nat} {ld : Nat → Nat} {kp : Nat → Bool} {a : Int32} {Q : Int32 → Sg → Prop} (hM : MMc σ c ld kp) (ha : a = nI r) (hr : r < c) (h : Q (bI (kp r)) σ) : wp_X9_isKept a σ Q := by
  subst ha
  obtain ⟨m1, m2, m3, m4, m5, F, A, m6, m7, m8, m9⟩ := hM
  unfold wp_X9_isKept
  refine (pk_eq r 0 (fun q => ?_) (fun q => ?_))
  · rw [q, m5] at h
    exact h
  · obtain ⟨h1, h2⟩ := m9 r (by omega) hr
    refine sp_wide m6 m7 ?_
    rw [m8, pk_mul, nI_add, nI_clamp (by omega), h1]
    refine ⟨vp_in_nI (by show _ < 33300; omega) (by decide), bI_br (fun z => ?_) (fun z => ?_)⟩
    · rw [z] at h; exact h
    · rw [z] at h; exact h
theorem sp_isLike {σ : Sg} {c a b : Nat} {g ld : Nat → Nat} {kp : Nat → Bool} {x y : Int32} {Q : Int32 → Sg → Prop} (hM : MMc σ c ld kp) (hgr : ∀ i, i < c → gA σ 68 i = nI (g i)) (hg : ∀ i, i < c → g i < 60) (hx : x = nI a) (hy : y = nI b) (ha : a < c) (hb : b < c) (h : Q (bI (lkn g ld a b 4)) σ) : wp_X9_isLike x y σ Q := by
  subst hx hy
  obtain ⟨m1, m2, m3, m4, m5, -⟩ := hM
  have lp : ∀ v : Bool, v = lkn g ld a b 0 → wp_X9_isLike_20 (nI a) (nI b) (bI v) Q σ := by
    intro v hv
    refine lq1 (fun f e (v : Bool) => wl_X9_isLike_24 (nI a) (nI b) Q f (bI v) (nI e) σ) (fun e v => v = lkn g ld a b e) 4 ?_ ?_ v hv
    · intro f v hv
      show wb_X9_isLike_24 _ _ _ _ _ _ _
      subst hv
      exact pk_le 4 4 (fun _ => ⟨bI_bl _, h⟩) (fun z => by omega)
    · intro f e v he hv hs2
      show wb_X9_isLike_24 _ _ _ _ _ _ _
      refine pk_le 4 e (fun z => by omega) (fun _ => bI_br (fun q => ?_) (fun q => ?_))
      · rw [q] at hv ⊢
        have h4 := lkn_fall (g := g) (ld := ld) (a := a) (b := b) (e := e) hv.symm (4 - e)
        rw [show e + (4 - e) = 4 by omega] at h4
        rw [h4] at h
        exact ⟨bI_bl _, h⟩
      · have la := m3.2 a e ha he
        have lb := m3.2 b e hb he
        have ga := hg _ la
        have gb := hg _ lb
        rw [pk_mul, pk_mul, nI_add, nI_add, nI_clamp (by omega), nI_clamp (by omega), m4 _ (by omega), m4 _ (by omega), nI_clamp (by omega), nI_clamp (by omega), hgr _ la, hgr _ lb]
        have fin : ∀ w : Bool, w = lkn g ld a b (e + 1) → wp_X9_isLike_74 (nI a) (nI b) (nI e) (bI w) (wl_X9_isLike_24 (nI a) (nI b) Q f) Q σ := by
          intro w hw z ez
          rw [ez, nI_add]
          exact hs2 w hw
        refine ⟨vp_in_nI (by show _ < 10400; omega) (by decide), vp_in_nI (by show _ < 2600; omega) (by decide), vp_in_nI (by show _ < 10400; omega) (by decide), vp_in_nI (by show _ < 2600; omega) (by decide), (pk_eq _ _ (fun z => fin true ?_) (fun z => fin false ?_)).symm⟩
        · show true = (lkn g ld a b e && decide _)
          rw [← hv, q, decide_eq_true z]; rfl
        · show false = (lkn g ld a b e && decide _)
          rw [decide_eq_false z, Bool.and_false]
  unfold wp_X9_isLike
  have ga := hg _ ha
  have gb := hg _ hb
  rw [nI_clamp (by omega), nI_clamp (by omega), hgr _ ha, hgr _ hb]
  refine ⟨vp_in_nI (by show _ < 2600; omega) (by decide), vp_in_nI (by show _ < 2600; omega) (by decide), (pk_eq _ _ (fun z => lp true ?_) (fun z => lp false ?_)).symm⟩
  · exact (decide_eq_true z).symm
  · exact (decide_eq_false z).symm
def LMx (σ0 τ : Sg) (c : Nat) (g : Nat → Nat) (n : Nat) (ex : Nat → Nat) : Prop :=
  Fr [10] [68, 69, 70] σ0 τ ∧ (∀ k, k ≠ 36 → gF τ 10 k = gF σ0 10 k) ∧ gF τ 10 36 = nI n ∧ (∀ i, i < c → gA τ 68 i = nI (g i)) ∧ ∀ k, k < n → gA τ 70 k = nI (ex k)
def LMq (σ0 τ : Sg) (c : Nat) (g : Nat → Nat) (r : Nat) (s : GSt) : Prop :=
  Fr [] [69, 70] σ0 τ ∧ s.1 ≤ 60 ∧ (∀ i, i < c → gA τ 68 i = nI (g i)) ∧ (∀ i, i < r → gA τ 69 i = nI (s.2.2 i)) ∧ ∀ k, k < s.1 → gA τ 70 k = nI (s.2.1 k)
theorem sp_part {σ0 σ : Sg} {c n : Nat} {g ld ex : Nat → Nat} {kp : Nat → Bool} {Q : Int32 → Sg → Prop} (hM : MMc σ0 c ld kp) (hS : LMx σ0 σ c g n ex) (hg : ∀ i, i < c → g i < 60) (hdone : ∀ τ, (gsq g ld c).1 ≤ 60 → LMx σ0 τ c (gsq g ld c).2.2 (gsq g ld c).1 (gsq g ld c).2.1 → Q (nI 1) τ) (hfail : ∀ τ, 60 < (gsq g ld c).1 → Fr [10] [68, 69, 70] σ0 τ → (∀ k, k ≠ 36 → gF τ 10 k = gF σ0 10 k) → Q (nI 0) τ) : wp_X9_part σ Q := by
  obtain ⟨s1, s2, s3, s4, s5⟩ := hS
  have hMσ := hM.fr s1 s2
  have hG := hM.2.2.1
  have hc := hM.2.1
  refine lq1 (fun f r (τ : Sg) => wl_X9_part_4 (fun z1 σ9 => wp_X9_part_75 z1 Q σ9) Q f (nI (gsq g ld r).1) (nI r) τ) (fun r τ => LMq σ τ c g r (gsq g ld r)) c ?_ ?_ σ ⟨Fr.rf, Nat.zero_le 60, s4, fun i hi => by omega, fun k hk => absurd hk (Nat.not_lt_zero k)⟩
  · intro f τ ⟨a1, a2, a3, a4, a5⟩
    show wb_X9_part_4 _ _ _ _ _ _
    have h27 : gF τ 10 27 = nI c := by rw [a1.F (by decide)]; exact hMσ.1
    unfold wb_X9_part_4
    rw [h27]
    refine pk_le c c (fun _ => ?_) (fun z => by omega)
    refine lq1 (fun f i (ρ : Sg) => wl_X9_part_77 (nI (gsq g ld c).1) (fun σ9 => wp_X9_part_103 (nI (gsq g ld c).1) Q σ9) Q f (nI i) ρ) (fun i ρ => Fr [] [68] τ ρ ∧ ∀ k, k < i → gA ρ 68 k = nI ((gsq g ld c).2.2 k)) c ?_ ?_ τ ⟨Fr.rf, fun i hi => by omega⟩
    · intro f ρ ⟨b1, b2⟩
      show wb_X9_part_77 _ _ _ _ _ _
      have h27 : gF ρ 10 27 = nI c := by rw [b1.F (by decide)]; exact h27
      unfold wb_X9_part_77
      rw [h27]
      refine pk_le c c (fun _ => ?_) (fun z => by omega)
      intro κ e
      refine hdone κ a2 ?_
      subst e
      refine ⟨Fr.stF ((s1.tr (a1.mono (by simp) (by simp))).tr (b1.mono (by simp) (by simp))) (by simp), fun k hk => ?_, rfl, b2, fun k hk => ?_⟩
      · rw [gF_stF, if_pos rfl, if_neg hk, b1.F (by decide), a1.F (by decide)]
        exact s2 k hk
      · rw [gA_stF, b1.A (by decide)]
        exact a5 k hk
    · intro f i ρ hi ⟨b1, b2⟩ hs2
      show wb_X9_part_77 _ _ _ _ _ _
      have h27 : gF ρ 10 27 = nI c := by rw [b1.F (by decide)]; exact h27
      unfold wb_X9_part_77
      rw [h27]
      refine pk_le c i (fun z => by omega) (fun _ => ⟨vp_in_nI (by show _ < 2600; omega) (by decide), vp_in_nI (by show _ < 2600; omega) (by decide), ?_⟩)
      intro κ e y ey
      rw [ey, nI_add]
      rw [nI_clamp (by omega), b1.A (by decide), a4 i hi] at e
      refine hs2 κ ⟨by rw [e]; exact b1.stA (by simp), fun k hk => ?_⟩
      rw [e, gA_stA, if_pos rfl]
      by_cases q : k = i
      · rw [if_pos q, q]
      · rw [if_neg q]; exact b2 k (by omega)
  · intro f r τ hr ⟨a1, a2, a3, a4, a5⟩ hs2
    show wb_X9_part_4 _ _ _ _ _ _
    have hMt : MMc τ c ld kp := hMσ.fr (a1.mono (by simp) (by simp)) (fun k _ => by rw [a1.F (by decide)])
    have hW := gsq_ok g ld r
    unfold wb_X9_part_4
    rw [hMt.1]
    refine pk_le c r (fun z => by omega) (fun _ => ?_)
    have hn60 := a2
    -- the number is put
    have b62 : ∀ (n' k : Nat) (τ' : Sg), n' = (gsq g ld (r + 1)).1 → (gsq g ld (r + 1)).2.2 r = k → n' ≤ 60 → Fr [] [69, 70] τ τ' → (∀ i, i < r → gA τ' 69 i = nI ((gsq g ld r).2.2 i)) → (∀ k, k < n' → gA τ' 70 k = nI ((gsq g ld (r + 1)).2.1 k)) → wp_X9_part_62 (nI n') (nI r) (nI k) (wl_X9_part_4 (fun z1 σ9 => wp_X9_part_75 z1 Q σ9) Q f) Q τ' := by
      intro n' k τ' h1 h2 h3 f1 h4 h5
      unfold wp_X9_part_62
      rw [nI_clamp (by omega)]
      refine ⟨vp_in_nI (by show _ < 2600; omega) (by decide), ?_⟩
      intro κ e y ey
      rw [ey, nI_add, h1]
      refine hs2 κ ⟨by rw [e]; exact (a1.tr f1).stA (by simp), by omega, fun i hi => ?_, fun i hi => ?_, fun k' hk' => ?_⟩
      · rw [e, gA_stA_row (by decide), f1.A (by decide)]; exact a3 i hi
      · rw [e, gA_stA, if_pos rfl]
        by_cases q : i = r
        · rw [if_pos q, q, h2]
        · rw [if_neg q]
          have : (gsq g ld (r + 1)).2.2 i = (gsq g ld r).2.2 i := gsq_old q
          rw [this]
          exact h4 i (by omega)
      · rw [e, gA_stA_row (by decide)]; exact h5 k' (by rw [h1]; exact hk')
    cases q : ffst (fun k => lkn g ld ((gsq g ld r).2.1 k) r 4) (gsq g ld r).1 with
    | none =>
      have hf := ffst_none _ q
      have e : gsq g ld (r + 1) = ((gsq g ld r).1 + 1, (fun k => if k = (gsq g ld r).1 then r else (gsq g ld r).2.1 k), fun i => if i = r then (gsq g ld r).1 else (gsq g ld r).2.2 i) := gst_none q
      refine lq1 (fun f' k (_ : Unit) => wl_X9_part_14 (nI (gsq g ld r).1) (nI r) (fun z3 σ9 => wp_X9_part_39 (nI (gsq g ld r).1) (nI r) z3 (wl_X9_part_4 (fun z1 σ9 => wp_X9_part_75 z1 Q σ9) Q f) Q σ9) Q f' (nI k) τ) (fun _ _ => True) (gsq g ld r).1 ?_ ?_ () trivial
      · intro f' _ _
        show wb_X9_part_14 _ _ _ _ _ _ _
        refine pk_le (gsq g ld r).1 (gsq g ld r).1 (fun _ => ?_) (fun z => by omega)
        show wp_X9_part_39 _ _ _ _ _ _
        unfold wp_X9_part_39
        refine (pk_eq (gsq g ld r).1 60 (fun z => ?_) (fun z => ?_)).symm
        · refine hfail τ ?_ (s1.tr (a1.mono (by simp) (by simp))) (fun k hk => by rw [a1.F (by decide)]; exact s2 k hk)
          have h1 : (gsq g ld (r + 1)).1 = (gsq g ld r).1 + 1 := by rw [e]
          have h2 := gsq_le g ld (r + 1) (c - (r + 1))
          rw [show r + 1 + (c - (r + 1)) = c by omega] at h2
          omega
        · refine ⟨fun z => absurd rfl z, fun _ => ⟨vp_in_nI (by show _ < 64; omega) (by decide), ?_⟩⟩
          intro κ e1 y ey
          rw [ey, nI_add]
          rw [nI_clamp (by omega)] at e1
          refine b62 _ _ κ (by rw [e]) (by rw [e]; simp only [if_true]) (by omega) (by rw [e1]; exact Fr.rf.stA (by simp)) (fun i hi => ?_) (fun k hk => ?_)
          · rw [e1, gA_stA_row (by decide)]; exact a4 i hi
          · rw [e1, gA_stA, if_pos rfl, e]
            simp only
            by_cases t : k = (gsq g ld r).1
            · rw [if_pos t, if_pos t]
            · rw [if_neg t, if_neg t]; exact a5 k (by omega)
      · intro f' k _ hk _ hs3
        show wb_X9_part_14 _ _ _ _ _ _ _
        have hx := (hW.2.1 k hk).1
        refine pk_le (gsq g ld r).1 k (fun z => by omega) (fun _ => ⟨vp_in_nI (by show _ < 64; omega) (by decide), ?_⟩)
        rw [nI_clamp (by omega)]
        refine sp_isLike hMt a3 hg (a5 k hk) rfl (by omega) hr ?_
        have e' : lkn g ld ((gsq g ld r).2.1 k) r 4 = false := hf k hk
        rw [e']
        refine ⟨fun z => absurd rfl z, fun _ => ?_⟩
        intro y ey
        rw [ey, nI_add]
        exact hs3 () trivial
    | some i =>
      obtain ⟨f1, f2⟩ := ffst_some _ q
      have e : gsq g ld (r + 1) = ((gsq g ld r).1, (gsq g ld r).2.1, fun j => if j = r then i else (gsq g ld r).2.2 j) := gst_some q
      have hlast : ∀ k, k < i → lkn g ld ((gsq g ld r).2.1 k) r 4 = false := fun k hk => by
        cases t : lkn g ld ((gsq g ld r).2.1 k) r 4 with
        | false => rfl
        | true =>
          have h3 := lkn_tr t (lkn_sy f2)
          rw [hW.2.2 k i hk f1] at h3; cases h3
      refine lq1 (fun f' k (_ : Unit) => wl_X9_part_14 (nI (gsq g ld r).1) (nI r) (fun z3 σ9 => wp_X9_part_39 (nI (gsq g ld r).1) (nI r) z3 (wl_X9_part_4 (fun z1 σ9 => wp_X9_part_75 z1 Q σ9) Q f) Q σ9) Q f' (nI k) τ) (fun _ _ => True) i ?_ ?_ () trivial
      · intro f' _ _
        show wb_X9_part_14 _ _ _ _ _ _ _
        have hx := (hW.2.1 i f1).1
        refine pk_le (gsq g ld r).1 i (fun z => by omega) (fun _ => ⟨vp_in_nI (by show _ < 64; omega) (by decide), ?_⟩)
        rw [nI_clamp (by omega)]
        refine sp_isLike hMt a3 hg (a5 i f1) rfl (by omega) hr ?_
        rw [f2]
        refine ⟨fun _ => ?_, fun z => absurd z (by decide)⟩
        show wp_X9_part_39 _ _ _ _ _ _
        unfold wp_X9_part_39
        refine (pk_eq i 60 (fun z => by omega) (fun z => ?_)).symm
        refine (pk_eq i (gsq g ld r).1 (fun z => by omega) (fun z => ?_)).symm
        exact b62 _ _ τ (by rw [e]) (by rw [e]; simp only [if_true]) (by omega) Fr.rf a4 (fun k hk => by rw [e]; exact a5 k hk)
      · intro f' k _ hk _ hs3
        show wb_X9_part_14 _ _ _ _ _ _ _
        have hx := (hW.2.1 k (by omega)).1
        refine pk_le (gsq g ld r).1 k (fun z => by omega) (fun _ => ⟨vp_in_nI (by show _ < 64; omega) (by decide), ?_⟩)
        rw [nI_clamp (by omega)]
        refine sp_isLike hMt a3 hg (a5 k (by omega)) rfl (by omega) hr ?_
        rw [hlast k hk]
        refine ⟨fun z => absurd rfl z, fun _ => ?_⟩
        intro y ey
        rw [ey, nI_add]
        exact hs3 () trivial
