/-! ===== the class's meeting ===== -/
def Shb (ka kb : Nat → Bool) (b : BQ2) (x : Int32) : Prop := (∃ i, i < b.1 ∧ ka (b.2.1 i / 60) ≠ kb (b.2.1 i % 60) ∧ (∀ j, j < i → ka (b.2.1 j / 60) = kb (b.2.1 j % 60)) ∧ x = nI (b.2.2 i)) ∨ ((∀ j, j < b.1 → ka (b.2.1 j / 60) = kb (b.2.1 j % 60)) ∧ x = -9)
def Flb (ka kb : Nat → Bool) (u v : Bool) (b : BQ2) : Prop := ∃ i, i < b.1 ∧ ka (b.2.1 i / 60) = u ∧ kb (b.2.1 i % 60) = v
def RXm (σ0 σ : Sg) (n : Nat) (ka kb : Nat → Bool) (b : BQ2) : Prop :=
  Fr [8] [43, 44] σ0 σ ∧ gF σ 8 2 = nI b.1 ∧ (∀ i, i < b.1 → gA σ 44 i = nI (b.2.1 i) ∧ gA σ 43 (b.2.1 i) = nI (b.2.2 i)) ∧ (∀ p, p < 60 * n → (∀ i, i < b.1 → b.2.1 i ≠ p) → gA σ 43 p = -9) ∧ Cb (gF σ 8 3) (Flb ka kb true true b) ∧ Cb (gF σ 8 4) (Flb ka kb true false b) ∧ Cb (gF σ 8 5) (Flb ka kb false true b) ∧ Shb ka kb b (gF σ 8 6)
theorem bad_in {b : BQ2} {p d : Nat} (h : ∃ i, i < b.1 ∧ b.2.1 i = p) : bad b p d = b := if_pos h
theorem bad_new {b : BQ2} {p d : Nat} (h : ¬ ∃ i, i < b.1 ∧ b.2.1 i = p) : bad b p d = (b.1 + 1, (fun i => if i = b.1 then p else b.2.1 i), (fun i => if i = b.1 then d else b.2.2 i)) := if_neg h
theorem Flb_new {ka kb : Nat → Bool} {u v : Bool} {b : BQ2} {p d : Nat} (h : ¬ ∃ i, i < b.1 ∧ b.2.1 i = p) : Flb ka kb u v (bad b p d) ↔ Flb ka kb u v b ∨ (ka (p / 60) = u ∧ kb (p % 60) = v) := by
  rw [bad_new h]
  unfold Flb
  constructor
  · rintro ⟨i, h1, h2, h3⟩
    by_cases q : i = b.1
    · simp only [if_pos q] at h2 h3; exact Or.inr ⟨h2, h3⟩
    · simp only [if_neg q] at h2 h3; exact Or.inl ⟨i, by simp only at h1; omega, h2, h3⟩
  · rintro (⟨i, h1, h2, h3⟩ | ⟨h2, h3⟩)
    · refine ⟨i, by simp only; omega, ?_, ?_⟩
      · simp only [if_neg (show ¬ i = b.1 by omega)]; exact h2
      · simp only [if_neg (show ¬ i = b.1 by omega)]; exact h3
    · refine ⟨b.1, by simp only; omega, ?_, ?_⟩
      · simp only [if_true]; exact h2
      · simp only [if_true]; exact h3
theorem Shb_new {ka kb : Nat → Bool} {b : BQ2} {p d : Nat} {x : Int32} (h : ¬ ∃ i, i < b.1 ∧ b.2.1 i = p) (hd : ∀ i, i < b.1 → b.2.2 i < 2 ^ 31) (hx : Shb ka kb b x) : Shb ka kb (bad b p d) (if ka (p / 60) ≠ kb (p % 60) ∧ x = -9 then nI d else x) := by
  rw [bad_new h]
  unfold Shb at hx ⊢
  rcases hx with ⟨i, h1, h2, h3, h4⟩ | ⟨h1, h2⟩
  · left
    refine ⟨i, by simp only; omega, ?_, fun j hj => ?_, ?_⟩
    · simp only [if_neg (show ¬ i = b.1 by omega)]; exact h2
    · simp only [if_neg (show ¬ j = b.1 by omega)]; exact h3 j hj
    · rw [if_neg (fun w => ni9 (hd i h1) (h4.symm.trans w.2))]
      simp only [if_neg (show ¬ i = b.1 by omega)]; exact h4
  · by_cases q : ka (p / 60) = kb (p % 60)
    · right
      refine ⟨fun j hj => ?_, ?_⟩
      · by_cases r : j = b.1
        · simp only [if_pos r]; exact q
        · simp only [if_neg r]; exact h1 j (by simp only at hj; omega)
      · rw [if_neg (fun w => w.1 q)]; exact h2
    · left
      refine ⟨b.1, by simp only; omega, ?_, fun j hj => ?_, ?_⟩
      · simp only [if_true]; exact q
      · simp only [if_neg (show ¬ j = b.1 by omega)]; exact h1 j hj
      · rw [if_pos ⟨q, h2⟩]; simp only [if_true]
theorem sp_keepsk {σ : Sg} {n s : Nat} {to : Nat → Nat → Nat} {vd : Nat → Nat} {a : Int32} {Q : Int32 → Sg → Prop} (hX : PXk σ n to vd) (ha : a = nI s) (hs : s < n) (h : Q (bI (decide (vd s % 2 = 1))) σ) : wp_X7_keepsk a σ Q := by
  subst ha
  have hn := hX.2.1
  unfold wp_X7_keepsk wp_X7_verdictOfk
  refine sp_pick (q := 40) (k := s) rfl (by show s < 60; omega) ?_
  obtain ⟨h1, hv, _⟩ := hX.2.2 s hs
  rw [h1]
  show ((nI (vd s) &&& nI 1) = nI 0 → _) ∧ (_ → _)
  rw [and1 hv]
  by_cases q : vd s % 2 = 1
  · rw [decide_eq_true q] at h
    rw [q]
    exact br_f (by decide) h
  · have e : vd s % 2 = 0 := by omega
    rw [decide_eq_false q] at h
    rw [e]
    exact br_t rfl h
theorem sp_nextk {s e n : Nat} {a0 a1 : Int32} {σ : Sg} {Q : Int32 → Sg → Prop} (h0 : a0 = nI s) (h1 : a1 = nI e) (hs : s < n) (hn : n ≤ 60) (he : e < 4) (h : Q (gA σ 39 (s * 4 + e)) σ) : wp_X7_nextk a0 a1 σ Q := by
  subst h0 h1
  refine sp_pick (k := s * 4 + e) (by show nI s * nI 4 + nI e = _; rw [pk_mul, nI_add]) (by show _ < 240; omega) h
theorem iREM60 {p : Nat} (h : p < 2 ^ 31) : iREM (nI p) (nI 60) = nI (p % 60) := pk_rem h (by decide) (by decide)
theorem iDIV60 {p : Nat} (h : p < 2 ^ 31) : nI p / nI 60 = nI (p / 60) := pk_div h (by decide) (by decide)
theorem Cb.or {a b : Bool} {x : Int32} {p q : Prop} (h : x = bI (a || b)) (ha : a = true ↔ p) (hb : b = true ↔ q) : Cb x (p ∨ q) := ⟨a || b, h, by rw [Bool.or_eq_true, ha, hb]⟩
theorem sp_walkX {σ0 σ : Sg} {n n' p d m : Nat} {x y : Int32} {to to' : Nat → Nat → Nat} {vd vd' : Nat → Nat} {ds : Nat → Nat → Option Nat} {b : BQ2} {Q : Sg → Prop} (hM : PMa to vd n) (hX : PXa σ0 n to vd ds) (hXk : PXk σ0 n' to' vd') (hx : x = nI p) (hy : y = nI d) (hp : p / 60 < n) (hp' : p % 60 < n') (hd : d ≤ m) (hm : m < 2 ^ 31) (hw : Wb n n' m b) (hR : RXm σ0 σ n (fun s => decide (vd s % 2 = 1)) (fun s => decide (vd' s % 2 = 1)) b) (h : ∀ σ1, RXm σ0 σ1 n (fun s => decide (vd s % 2 = 1)) (fun s => decide (vd' s % 2 = 1)) (bwk to to' b p d 4) → Q σ1) : wp_X3_walk x y σ Q := by
  subst hx hy
  have hn := hM.1
  have hn' := hXk.2.1
  have hT : Tb n to := ⟨hn, fun s hs e he => (hM.2.1 s hs).2 e he⟩
  have hT' : Tb n' to' := ⟨hn', fun s hs e he => ((hXk.2.2 s hs).2.2 e he).2⟩
  refine lq1 (fun f e (τ : Sg) => wl_X3_walk_3 (nI p) (nI d) Q f (nI e) τ) (fun e τ => RXm σ0 τ n (fun s => decide (vd s % 2 = 1)) (fun s => decide (vd' s % 2 = 1)) (bwk to to' b p d e)) 4 ?_ ?_ σ hR
  · intro f τ hτ
    show wb_X3_walk_3 _ _ _ _ _ _
    exact pk_le 4 4 (fun _ => h τ hτ) (fun z => by omega)
  · intro f e τ he hτ hs2
    show wb_X3_walk_3 _ _ _ _ _ _
    have hwe := wb2_bwk hw hT hT' hp hp' hd e (by omega)
    have l1 := hT.2 _ hp e he
    have l2 := hT'.2 _ hp' e he
    have hpq := pq (x := to (p / 60) e) (y := to' (p % 60) e) (by omega)
    show _ ∧ _
    change RXm σ0 τ n _ _ (bwk to to' b p d e) at hτ
    have hstep : bwk to to' b p d (e + 1) = bad (bwk to to' b p d e) (to (p / 60) e * 60 + to' (p % 60) e) d := rfl
    rw [hstep] at hs2
    generalize bwk to to' b p d e = c at hτ hwe hs2
    generalize hpp : to (p / 60) e * 60 + to' (p % 60) e = P at hpq hs2
    obtain ⟨fr, h2, hq, hu, h3, h4, h5, h6⟩ := id hτ
    have hXτ : PXa τ n to vd ds := hX.fr (fr.F (by decide)) (fr.A (by decide)) (fr.A (by decide)) (fr.A (by decide)) (fr.L (by decide))
    have hKτ : PXk τ n' to' vd' := hXk.fr (fr.F (by decide)) (fr.A (by decide)) (fr.A (by decide))
    have hlen := hwe.len hn
    refine pk_le 4 e (fun z => by omega) (fun _ => ?_)
    refine sp_next (iDIV60 (by omega)) rfl hp hn he (sp_nextk (iREM60 (by omega)) rfl hp' hn' he ?_)
    rw [(hXτ.2 _ hp).2.1 e he, ((hKτ.2.2 _ hp').2.2 e he).1]
    intro x ex
    rw [pk_mul, nI_add, hpp] at ex
    subst ex
    have hP : P < 3600 := by omega
    refine sp_pick (k := P) rfl (by show P < 3600; exact hP) ?_
    by_cases hin : ∃ i, i < c.1 ∧ c.2.1 i = P
    · rw [bad_in hin] at hs2
      obtain ⟨i, hi, hiP⟩ := hin
      have h43 := (hq i hi).2
      rw [hiP] at h43
      rw [h43]
      refine ⟨fun _ => ?_, fun z => absurd z (ni9 (by have := (hwe.1 i hi).2.2; omega))⟩
      intro x ex
      rw [ex, nI_add]
      exact hs2 τ hτ
    · have h43 : gA τ 43 P = -9 := hu P (by omega) (fun i hi hh => hin ⟨i, hi, hh⟩)
      rw [h43]
      refine ⟨fun z => absurd rfl z, fun _ => ?_⟩
      have hwn := wb2_bad (p := P) (d := d) hwe (by rw [hpq.1]; exact l1) (by rw [hpq.2]; exact l2) hd
      have hlen2 := hwn.len hn
      rw [bad_new hin] at hlen2
      have hlen3 : c.1 < 3600 := by simp only at hlen2; omega
      refine sp_put (k := P) rfl (by show P < 3600; exact hP) ?_
      refine sp_put (k := c.1) (by show gF τ 8 2 = _; exact h2) (by show c.1 < 3600; exact hlen3) ?_
      intro σ1 e1
      have f1 : Fr [8] [43, 44] τ σ1 := by
        rw [e1]
        exact ((Fr.rf.stA (by simp)).stA (by simp)).stF (by simp)
      have q2 : gF σ1 8 2 = nI (c.1 + 1) := by
        rw [e1, gF_stF, if_pos rfl, if_pos rfl]
        show gF τ 8 2 + nI 1 = _
        rw [h2, nI_add]
      have q8 : ∀ k, k ≠ 2 → gF σ1 8 k = gF τ 8 k := by
        intro k hk
        rw [e1, gF_stF, if_pos rfl, if_neg hk]
        rfl
      have q44 : ∀ i, gA σ1 44 i = if i = c.1 then nI P else gA τ 44 i := by
        intro i
        rw [e1, gA_stF, gA_stA, if_pos rfl, gA_stA_row (by decide)]
      have q43 : ∀ i, gA σ1 43 i = if i = P then nI d else gA τ 43 i := by
        intro i
        rw [e1, gA_stF, gA_stA_row (by decide), gA_stA, if_pos rfl]
      clear e1
      have fr1 := fr.tr f1
      have hX1 : PXa σ1 n to vd ds := hX.fr (fr1.F (by decide)) (fr1.A (by decide)) (fr1.A (by decide)) (fr1.A (by decide)) (fr1.L (by decide))
      have hK1 : PXk σ1 n' to' vd' := hXk.fr (fr1.F (by decide)) (fr1.A (by decide)) (fr1.A (by decide))
      refine sp_keepsX hM hX1 l1 (sp_keepsk hK1 rfl l2 ?_)
      obtain ⟨v3, i3, j3⟩ := h3
      obtain ⟨v4, i4, j4⟩ := h4
      obtain ⟨v5, i5, j5⟩ := h5
      have g3 : gF σ1 8 3 = bI v3 := by rw [q8 3 (by decide), i3]
      have g4 : gF σ1 8 4 = bI v4 := by rw [q8 4 (by decide), i4]
      have g5 : gF σ1 8 5 = bI v5 := by rw [q8 5 (by decide), i5]
      refine sp_look g3 g4 g5 ?_
      obtain ⟨r0, r2, r3, r4, r5, r6⟩ := lk_rd (va := decide (vd (to (p / 60) e) % 2 = 1)) (vb := decide (vd' (to' (p % 60) e) % 2 = 1)) (d := nI d) g3 g4 g5
      generalize lk (decide (vd (to (p / 60) e) % 2 = 1)) (decide (vd' (to' (p % 60) e) % 2 = 1)) (nI d) σ1 = σ2 at r0 r2 r3 r4 r5 r6
      intro x ex
      rw [ex, nI_add]
      refine hs2 σ2 ⟨fr1.tr (r0.mono (by simp) (by simp)), ?_, ?_, ?_, ?_, ?_, ?_, ?_⟩
      · rw [r2, q2, bad_new hin]
      · intro i hi
        rw [bad_new hin] at hi ⊢
        simp only at hi ⊢
        rw [r0.A (by decide), r0.A (by decide), q44, q43]
        by_cases q : i = c.1
        · simp only [if_pos q]
          exact ⟨trivial, if_pos trivial⟩
        · simp only [if_neg q]
          rw [if_neg (fun hh => hin ⟨i, by omega, hh⟩)]
          exact hq i (by omega)
      · intro p' hp1 hp2
        rw [bad_new hin] at hp2
        simp only at hp2
        rw [r0.A (by decide), q43]
        have hne : p' ≠ P := by
          intro hh
          have := hp2 c.1 (by omega)
          rw [if_pos rfl] at this
          exact this hh.symm
        rw [if_neg hne]
        refine hu p' hp1 (fun i hi => ?_)
        have := hp2 i (by omega)
        rw [if_neg (by omega)] at this
        exact this
      · refine (Cb.or r3 j3 (q := _ ∧ _) ?_).iff (Flb_new hin).symm
        rw [Bool.and_eq_true, hpq.1, hpq.2]
      · refine (Cb.or r4 j4 (q := _ ∧ _) ?_).iff (Flb_new hin).symm
        rw [Bool.and_eq_true, hpq.1, hpq.2, Bool.not_eq_true']
      · refine (Cb.or r5 j5 (q := _ ∧ _) ?_).iff (Flb_new hin).symm
        rw [Bool.and_eq_true, hpq.1, hpq.2, Bool.not_eq_true']
        exact And.comm
      · have := Shb_new (d := d) hin (fun i hi => by have := (hwe.1 i hi).2.2; omega) h6
        rw [hpq.1, hpq.2] at this
        rw [r6, q8 6 (by decide)]
        exact this
