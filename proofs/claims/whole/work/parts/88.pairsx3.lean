/-! ===== read: the pairs, the class's search ===== -/
theorem sp_isWork {σ0 σ : Sg} {x : Nat → NdT} {N r S j : Nat} {s : PQt} {a : Int32} {Q : Int32 → Sg → Prop} (hF8 : fbc x N ≤ 8) (hX : RXq σ0 σ x N s) (hq : PWq x N j s) (ha : a = nI r) (r1 : 1 ≤ r) (r2 : r < s.1) (hS : S < 2 ^ 2 ^ fbc x N) (h28 : ∀ q, q < nwd (fbc x N) → gL σ 28 q = lN (wrd S q)) (hy : s.2.2.1 r = S → Q (nI 1) σ) (hn : ¬ s.2.2.1 r = S → Q (nI 0) σ) : wp_X4_isWork a σ Q := by
  subst ha
  obtain ⟨n1, n2⟩ := nwd_ok hF8
  have hmo := mostq_le (pbc x N)
  have hsm := hX.2.2.2.2.1
  refine loop_m (σ := Nat) (fun g q => wl_X4_isWork_2 (nI r) Q g (nI q) σ) (fun q => q ≤ nwd (fbc x N) ∧ ∀ q', q' < q → wrd (s.2.2.1 r) q' = wrd S q') (fun q => 4 - q) ?_ 0 ⟨Nat.zero_le _, fun q' h => absurd h (Nat.not_lt_zero q')⟩
  intro g q ⟨a1, a2⟩ hs
  show wb_X4_isWork_2 _ _ _ _ _
  unfold wb_X4_isWork_2
  rw [hX.2.1]
  refine pk_le (nwd (fbc x N)) q (fun z => hy (wrd_eq (hq.2.2.2.1 r r1 r2).1 hS n1 (fun q' hq' => a2 q' (by omega)))) (fun z => ?_)
  refine sp_pickLong (k := r * 4 + q) (by rw [pk_mul, nI_add]) (by show _ < 7684; omega) ?_
  refine sp_pickLong (k := q) rfl (by show q < 4; omega) ?_
  rw [(hX.2.2.2.2.2.2.1 r r1 r2).1 q z, h28 q z, lgc_eq]
  refine ⟨fun e => ?_, fun e => hn (fun w => e (by rw [w]))⟩
  intro y ey
  rw [ey, nI_add]
  refine hs (q + 1) ⟨z, fun q' hq' => ?_⟩ (by show 4 - (q + 1) < 4 - q; omega)
  by_cases w : q' = q
  · rw [w]; exact lN_inj64 (wrd_lt _ _) (wrd_lt _ _) e
  · exact a2 q' (by omega)
theorem sp_findWork {σ0 σ : Sg} {x : Nat → NdT} {N w S j : Nat} {s : PQt} {Q : Int32 → Sg → Prop} (hF8 : fbc x N ≤ 8) (hP8 : pbc x N ≤ 8) (hX : RXq σ0 σ x N s) (hq : PWq x N j s) (hw : w < 2 ^ pbc x N) (h7 : gF σ 4 7 = nI w) (hS : S < 2 ^ 2 ^ fbc x N) (h28 : ∀ q, q < nwd (fbc x N) → gL σ 28 q = lN (wrd S q)) (hy : ∀ i, fnd s.2.1 s.2.2.1 w S s.1 = some i → Q (nI i) σ) (hn : fnd s.2.1 s.2.2.1 w S s.1 = none → Q (-9) σ) : wp_X4_findWork σ Q := by
  have hw256 := pw8 hP8
  have hmo := mostq_le (pbc x N)
  have hsm := hX.2.2.2.2.1
  obtain ⟨q1, q0, q2, q3, q4, q5⟩ := id hq
  have only : ∀ r, 1 ≤ r → r < s.1 → s.2.1 r = w → s.2.2.1 r = S → fnd s.2.1 s.2.2.1 w S s.1 = some r := by
    intro r r1 r2 r3 r4
    cases hf : fnd s.2.1 s.2.2.1 w S s.1 with
    | none => exact absurd ⟨r3, r4⟩ (fnd_none s.1 hf r r1 r2)
    | some i =>
      obtain ⟨f1, f2, f3, f4⟩ := fnd_some s.1 hf
      rcases Nat.lt_trichotomy i r with e | e | e
      · exact absurd ⟨f3.trans r3.symm, f4.trans r4.symm⟩ (q4 i r f1 e r2)
      · rw [e]
      · exact absurd ⟨r3.trans f3.symm, r4.trans f4.symm⟩ (q4 r i r1 e f2)
  have end_ : (∀ r, 1 ≤ r → r < s.1 → s.2.1 r = w → ¬ s.2.2.1 r = S) → fnd s.2.1 s.2.2.1 w S s.1 = none := by
    intro hno
    cases hf : fnd s.2.1 s.2.2.1 w S s.1 with
    | none => rfl
    | some i =>
      obtain ⟨f1, f2, f3, f4⟩ := fnd_some s.1 hf
      exact absurd f4 (hno i f1 f2 f3)
  refine sp_pick (k := w) h7 (by show w < 256; omega) ?_
  rw [hX.2.2.2.2.2.2.2 w hw]
  refine loop_m (σ := Nat × Nat) (fun g a => wl_X4_findWork_14 Q g (oI (lst s.2.1 w a.1)) (nI a.2) σ) (fun a => a.1 ≤ s.1 ∧ a.2 + a.1 ≤ s.1 ∧ ∀ r, 1 ≤ r → a.1 ≤ r → r < s.1 → s.2.1 r = w → ¬ s.2.2.1 r = S) (fun a => a.1) ?_ (s.1, 0) ⟨Nat.le_refl _, by show 0 + s.1 ≤ s.1; omega, fun r _ h1 h2 => absurd h2 (Nat.not_lt.mpr h1)⟩
  rintro g ⟨k, i⟩ ⟨a1, a2, a3⟩ hs
  simp only at a1 a2 a3 hs ⊢
  show wb_X4_findWork_14 _ _ _ _ _
  have noneK : lst s.2.1 w k = none → Q (-9) σ := by
    intro hl
    refine hn (end_ (fun r r1 r2 r3 => ?_))
    by_cases e : k ≤ r
    · exact a3 r r1 e r2 r3
    · exact absurd r3 (lst_none k hl r r1 (by omega))
  refine pk_le 1921 i (fun z => ?_) (fun z => ?_)
  · have : k = 0 := by omega
    exact noneK (by rw [this]; rfl)
  · cases hl : lst s.2.1 w k with
    | none => exact br_t rfl (noneK hl)
    | some r =>
      obtain ⟨l1, l2, l3, l4⟩ := lst_some k hl
      refine br_f (ni9 (by omega)) ?_
      refine sp_isWork (r := r) hF8 hX hq rfl l1 (by omega) hS h28 (fun e => ?_) (fun e => ?_)
      · exact ⟨fun q => absurd q (by decide), fun _ => hy r (only r l1 (by omega) l3 e)⟩
      · refine br_t rfl (sp_pick (k := r) rfl (by show r < 1921; omega) ?_)
        have h27 := (hX.2.2.2.2.2.2.1 r l1 (by omega)).2
        rw [l3] at h27
        rw [h27]
        intro y ey
        rw [ey, nI_add]
        refine hs (r, i + 1) ⟨by show r ≤ s.1; omega, by show i + 1 + r ≤ s.1; omega, fun r' p1 p2 p3 p4 => ?_⟩ l2
        by_cases c : r' = r
        · rw [c]; exact e
        · by_cases c2 : k ≤ r'
          · exact a3 r' p1 c2 p3 p4
          · exact absurd p4 (l4 r' (by simp only at p2; omega) (by omega))
