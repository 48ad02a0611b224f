/-! ===== read: the distances (plain), the class's marks ===== -/
theorem dst_ex (to : Nat → Nat → Nat) (vd : Nat → Nat) (s v : Nat) : ∃ o, isDst to vd s v o := by
  by_cases h : ∃ d, ∃ t, wk to d s t ∧ vd t = v
  · obtain ⟨d, h1, h2⟩ := pk_least (fun d => ∃ t, wk to d s t ∧ vd t = v) h
    exact ⟨some d, h1, fun d' t hd hw hv => h2 d' hd ⟨t, hw, hv⟩⟩
  · exact ⟨none, fun d t hw hv => h ⟨d, t, hw, hv⟩⟩
noncomputable def dso (to : Nat → Nat → Nat) (vd : Nat → Nat) (s v : Nat) : Option Nat := Classical.choose (dst_ex to vd s v)
theorem dso_is (to : Nat → Nat → Nat) (vd : Nat → Nat) (s v : Nat) : isDst to vd s v (dso to vd s v) := Classical.choose_spec (dst_ex to vd s v)
theorem dso_0 {to : Nat → Nat → Nat} {vd : Nat → Nat} {s v : Nat} : dso to vd s v = some 0 ↔ vd s = v := by
  constructor
  · intro h
    have := dso_is to vd s v
    rw [h] at this
    obtain ⟨⟨t, hw, hv⟩, -⟩ := this
    have e : t = s := hw
    rw [← e]; exact hv
  · intro h
    exact isDst_uniq (dso_is to vd s v) ⟨⟨s, rfl, h⟩, fun d' t hd => absurd hd (Nat.not_lt_zero d')⟩
theorem dso_back {to : Nat → Nat → Nat} {vd : Nat → Nat} {s v d : Nat} (h : dso to vd s v = some (d + 1)) : ∃ e, e < 4 ∧ dso to vd (to s e) v = some d :=
  dst_step (ds := dso to vd) (by have := dso_is to vd s v; rw [h] at this; exact this) (fun e _ => dso_is to vd (to s e) v)
/-- one further step, if it is not nearer -/
theorem dso_fwd {to : Nat → Nat → Nat} {vd : Nat → Nat} {s v d e : Nat} (he : e < 4) (h : dso to vd (to s e) v = some d) : ∃ d', dso to vd s v = some d' ∧ d' ≤ d + 1 := by
  have h1 := dso_is to vd (to s e) v
  rw [h] at h1
  obtain ⟨⟨t, hw, hv⟩, -⟩ := h1
  have h2 := dso_is to vd s v
  cases q : dso to vd s v with
  | none =>
    rw [q] at h2
    exact absurd hv (h2 (d + 1) t ⟨e, he, hw⟩)
  | some d' =>
    rw [q] at h2
    refine ⟨d', rfl, ?_⟩
    rcases Nat.lt_or_ge (d + 1) d' with r | r
    · exact absurd hv (h2.2 (d + 1) t r ⟨e, he, hw⟩)
    · exact r
theorem dso_chain {to : Nat → Nat → Nat} {vd : Nat → Nat} {n s v d : Nat} (hM : PMa to vd n) (hs : s < n) (h : dso to vd s v = some d) : ∀ k, k ≤ d → ∃ u, u < n ∧ dso to vd u v = some (d - k)
  | 0, _ => ⟨s, hs, h⟩
  | k + 1, hk => by
    obtain ⟨u, hu, hd⟩ := dso_chain hM hs h k (by omega)
    rw [show d - k = d - (k + 1) + 1 by omega] at hd
    obtain ⟨e, he, h2⟩ := dso_back hd
    exact ⟨to u e, (hM.2.1 u hu).2 e he, h2⟩
theorem dso_lt {to : Nat → Nat → Nat} {vd : Nat → Nat} {n s v d : Nat} (hM : PMa to vd n) (hs : s < n) (h : dso to vd s v = some d) : d < n := by
  have hf : ∀ k, ∃ u, k ≤ d → u < n ∧ dso to vd u v = some (d - k) := fun k => by
    by_cases q : k ≤ d
    · obtain ⟨u, hu⟩ := dso_chain hM hs h k q
      exact ⟨u, fun _ => hu⟩
    · exact ⟨0, fun z => absurd z q⟩
  have hf : ∃ f : Nat → Nat, ∀ k, k ≤ d → f k < n ∧ dso to vd (f k) v = some (d - k) := ⟨fun k => Classical.choose (hf k), fun k => Classical.choose_spec (hf k)⟩
  obtain ⟨f, hf⟩ := hf
  have := fb_holes n (d + 1) f (fun i hi => (hf i (by omega)).1) (fun i k hik hk e => ?_)
  · omega
  · have a := (hf i (by omega)).2
    have b := (hf k (by omega)).2
    rw [e, b] at a
    have := Option.some.inj a
    omega
/-- where no state is so far none is further -/
theorem dso_gap {to : Nat → Nat → Nat} {vd : Nat → Nat} {n v f : Nat} (hM : PMa to vd n) (h : ∀ s, s < n → ¬ dso to vd s v = some f) : ∀ k s, s < n → ¬ dso to vd s v = some (f + k)
  | 0, s, hs => h s hs
  | k + 1, s, hs => by
    intro z
    obtain ⟨e, he, h2⟩ := dso_back (d := f + k) z
    exact dso_gap hM h k _ ((hM.2.1 s hs).2 e he) h2
/-- what of it is known before distance f -/
def dcut (o : Option Nat) (f : Nat) : Option Nat := match o with
  | none => none
  | some d => if d < f then some d else none
theorem dcut_d {o : Option Nat} {f k : Nat} : dcut o f = some k ↔ o = some k ∧ k < f := by
  cases o with
  | none => exact ⟨(fun z => by cases z), fun z => (by cases z.1)⟩
  | some d =>
    unfold dcut
    simp only
    by_cases q : d < f
    · rw [if_pos q]
      exact ⟨(fun z => by cases z; exact ⟨rfl, q⟩), fun z => z.1⟩
    · rw [if_neg q]
      exact ⟨(fun z => by cases z), fun z => (by cases z.1; exact absurd z.2 q)⟩
theorem dcut_succ {o : Option Nat} {f : Nat} (h : ¬ o = some f) : dcut o (f + 1) = dcut o f := by
  cases o with
  | none => rfl
  | some d =>
    unfold dcut
    simp only
    by_cases q : d < f
    · rw [if_pos q, if_pos (by omega)]
    · rw [if_neg q, if_neg (fun z => h (by rw [show d = f by omega]))]
theorem dcut_all {o : Option Nat} {f : Nat} (h : ∀ d, o = some d → d < f) : dcut o f = o := by
  cases o with
  | none => rfl
  | some d =>
    unfold dcut
    simp only
    rw [if_pos (h d rfl)]
/-! the class's marks -/
theorem sp_markSure {σ : Sg} {to : Nat → Nat → Nat} {kv : Nat → Bool} {n : Nat} {Q : Sg → Prop} (hM : PMa to (fvd to kv) n) (h4 : gF σ 6 4 = nI n) (h35 : ∀ s, s < n → ∀ e, e < 4 → gA σ 35 (s * 4 + e) = nI (to s e)) (h36 : ∀ s, s < n → gA σ 36 s = bI (kv s)) (h : ∀ τ, Fr [] [36] σ τ → (∀ s, s < n → gA τ 36 s = nI (fvd to kv s)) → Q τ) : wp_X7_markSure σ Q := by
  have hn := hM.1
  refine lq1 (fun f s (τ : Sg) => wl_X7_markSure_2 Q f (nI s) τ) (fun s τ => Fr [] [36] σ τ ∧ ∀ i, i < n → gA τ 36 i = if i < s then nI (fvd to kv i) else bI (kv i)) n ?_ ?_ σ ⟨Fr.rf, fun i hi => by rw [if_neg (by omega)]; exact h36 i hi⟩
  · intro f τ ⟨a1, a2⟩
    show wb_X7_markSure_2 _ _ _ _
    unfold wb_X7_markSure_2
    rw [a1.F (by decide), h4]
    exact pk_le n n (fun _ => h τ a1 (fun s hs => by rw [a2 s hs, if_pos hs])) (fun z => by omega)
  · intro f s τ hs ⟨a1, a2⟩ hs2
    show wb_X7_markSure_2 _ _ _ _
    unfold wb_X7_markSure_2
    rw [a1.F (by decide), h4]
    refine pk_le n s (fun z => by omega) (fun _ => ?_)
    refine lq1 (fun g e (v : Bool) => wl_X7_markSure_14 (nI s) (fun z2 σ9 => wp_X7_markSure_45 (nI s) z2 (wl_X7_markSure_2 Q f) Q σ9) Q g (bI v) (nI e) τ) (fun e v => v = true ↔ ∀ i, i < e → to s i = s) 4 ?_ ?_ true ⟨fun _ i hi => by omega, fun _ => rfl⟩
    · intro g v hv
      show wb_X7_markSure_14 _ _ _ _ _ _ _
      have hvs : v = slf to s := by
        have h1 := hv.trans slf_iff.symm
        cases v <;> cases h : slf to s <;> simp_all
      refine pk_le 4 4 (fun _ => ?_) (fun z => by omega)
      show wp_X7_markSure_45 _ _ _ _ _
      refine bI_br (fun q => ?_) (fun q => ?_)
      · intro y ey
        rw [ey, nI_add]
        refine hs2 τ ⟨a1, fun i hi => ?_⟩
        rw [a2 i hi]
        by_cases t : i < s
        · rw [if_pos t, if_pos (by omega)]
        · rw [if_neg t]
          by_cases u : i = s
          · rw [if_pos (by omega), u]
            unfold fvd
            rw [← hvs, q]
            cases kv s <;> rfl
          · rw [if_neg (by omega)]
      · refine sp_pick rfl (by show s < 60; omega) (sp_put rfl (by show s < 60; omega) ?_)
        intro y ey
        rw [ey, nI_add]
        refine hs2 _ ⟨a1.stA (by simp), fun i hi => ?_⟩
        rw [gA_stA, if_pos rfl]
        by_cases u : i = s
        · rw [if_pos u, a2 s hs, if_neg (Nat.lt_irrefl s), if_pos (by omega), u]
          unfold fvd
          rw [← hvs, q]
          cases kv s <;> decide
        · rw [if_neg u, a2 i hi]
          by_cases t : i < s
          · rw [if_pos t, if_pos (by omega)]
          · rw [if_neg t, if_neg (by omega)]
    · intro g e v he hv hs3
      show wb_X7_markSure_14 _ _ _ _ _ _ _
      have fin : ∀ w : Bool, (w = true ↔ ∀ i, i < e + 1 → to s i = s) → wp_X7_markSure_38 (nI s) (nI e) (bI w) (wl_X7_markSure_14 (nI s) (fun z2 σ9 => wp_X7_markSure_45 (nI s) z2 (wl_X7_markSure_2 Q f) Q σ9) Q g) Q τ := by
        intro w hw y ey
        rw [ey, nI_add]
        exact hs3 w hw
      refine pk_le 4 e (fun z => by omega) (fun _ => bI_br (fun q => ?_) (fun q => ?_))
      · refine fin false ⟨(fun z => by cases z), fun z => ?_⟩
        have := hv.mpr (fun i hi => z i (by omega))
        rw [q] at this
        exact this
      · refine sp_next rfl rfl hs hn he ?_
        rw [a1.A (by decide), h35 s hs e he]
        have ht := (hM.2.1 s hs).2 e he
        refine (pk_eq (to s e) s (fun z => fin true ⟨fun _ i hi => ?_, fun _ => rfl⟩) (fun z => fin false ⟨(fun y => by cases y), fun y => absurd (y e (Nat.lt_succ_self e)) z⟩)).symm
        by_cases u : i = e
        · rw [u]; exact z
        · exact hv.mp q i (by omega)
