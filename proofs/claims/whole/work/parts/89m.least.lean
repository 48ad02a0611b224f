/-! ===== read: the least machine (plain), the reference's verdicts ===== -/
def fto (q : NSt) (s e : Nat) : Nat := q.2.2.2 (4 * s + e)
def fkp (q : NSt) (kp : Nat → Bool) (ex : Nat → Nat) (s : Nat) : Bool := kp (ex (q.2.2.1 s))
def slf (to : Nat → Nat → Nat) (s : Nat) : Bool := decide (to s 0 = s ∧ to s 1 = s ∧ to s 2 = s ∧ to s 3 = s)
theorem slf_iff {to : Nat → Nat → Nat} {s : Nat} : slf to s = true ↔ ∀ e, e < 4 → to s e = s := by
  unfold slf
  rw [decide_eq_true_eq]
  constructor
  · rintro ⟨h0, h1, h2, h3⟩ e he
    rcases (by omega : e = 0 ∨ e = 1 ∨ e = 2 ∨ e = 3) with rfl | rfl | rfl | rfl <;> assumption
  · intro h
    exact ⟨h 0 (by decide), h 1 (by decide), h 2 (by decide), h 3 (by decide)⟩
def fvd (to : Nat → Nat → Nat) (kv : Nat → Bool) (s : Nat) : Nat := (if slf to s = true then 2 else 0) + (if kv s = true then 1 else 0)
theorem fvd_2 {to : Nat → Nat → Nat} {kv : Nat → Bool} {s : Nat} : fvd to kv s < 4 ∧ (2 ≤ fvd to kv s ↔ slf to s = true) ∧ (fvd to kv s % 2 = 1 ↔ kv s = true) := by
  unfold fvd
  cases slf to s <;> cases kv s <;> decide
theorem fpm {K g0 J : Nat} {tr : Nat → Nat → Nat} {q : NSt} {kv : Nat → Bool} (hN : Nok K g0 tr) (hq : NWq K g0 tr J q) (hJ : 4 * q.1 = J) : PMa (fto q) (fvd (fto q) kv) q.1 := by
  have hlen := nwq_len hq
  have hK := hN.1
  obtain ⟨h1, h2, h3, h4, h5⟩ := hq
  refine ⟨by omega, fun s hs => ⟨fvd_2.1, fun e he => (h5 _ (by omega)).1⟩, fun s hs h e he => slf_iff.mp (fvd_2.2.1.mp h) e he⟩
/-- how the reference says it: all that it leads to keeps alike -/
def Alk (to : Nat → Nat → Nat) (kv : Nat → Bool) (n s : Nat) : Prop := ∀ t, t < n → (∃ d, wk to d s t) → kv t = kv s
theorem slf_wk {to : Nat → Nat → Nat} {s : Nat} (h : slf to s = true) : ∀ d t, wk to d s t → t = s
  | 0, t, hw => hw
  | d + 1, t, hw => by
    obtain ⟨e, he, hw⟩ := hw
    rw [slf_iff.mp h e he] at hw
    exact slf_wk h d t hw
/-- in the least machine they say the same -/
theorem alk_iff {kp : Nat → Bool} {ld : Nat → Nat} {c m J s : Nat} {q : NSt} (hG : Gok c ld) (hd : Gdn kp ld c m) (hq : NWq (grs kp ld c (m + 1)).1 (gri kp ld c (m + 2) 0) (trg (gri kp ld c (m + 2)) ld (grs kp ld c (m + 1)).2.1) J q) (hJ : 4 * q.1 = J) (hs : s < q.1) : Alk (fto q) (fkp q kp (grs kp ld c (m + 1)).2.1) q.1 s ↔ slf (fto q) s = true := by
  obtain ⟨h1, h2, h3, h4, h5⟩ := hq
  obtain ⟨w1, w2, w3⟩ := gsq_ok (gri kp ld c (m + 1)) ld c
  have hto : ∀ s e, s < q.1 → e < 4 → fto q s e < q.1 ∧ q.2.2.1 (fto q s e) = gri kp ld c (m + 2) (ld (4 * (grs kp ld c (m + 1)).2.1 (q.2.2.1 s) + e)) := fun s e hs he => by
    have := h5 (4 * s + e) (by omega)
    rw [(k4 he).1, (k4 he).2] at this
    exact this
  have hex : ∀ k, k < (grs kp ld c (m + 1)).1 → (grs kp ld c (m + 1)).2.1 k < c ∧ gri kp ld c (m + 2) ((grs kp ld c (m + 1)).2.1 k) = k := w2
  constructor
  · intro ha
    rw [slf_iff]
    intro e he
    have hT := gri_one (kp := kp) hG (fun a => ∃ t, t < q.1 ∧ (∃ d, wk (fto q) d s t) ∧ q.2.2.1 t = gri kp ld c (m + 2) a) (fkp q kp (grs kp ld c (m + 1)).2.1 s) ?_ ?_ (m + 2) ((grs kp ld c (m + 1)).2.1 (q.2.2.1 s)) ((grs kp ld c (m + 1)).2.1 (q.2.2.1 (fto q s e))) (hex _ (h3 s hs).1).1 (hex _ (h3 _ (hto s e hs he).1).1).1 ?_ ?_
    · rw [(hex _ (h3 s hs).1).2, (hex _ (h3 _ (hto s e hs he).1).1).2] at hT
      have a1 := (h3 s hs).2
      rw [hT, (h3 _ (hto s e hs he).1).2] at a1
      exact Option.some.inj a1
    · rintro a hac ⟨t, t1, t2, t3⟩
      have e1 := ha t t1 t2
      rw [← e1]
      have hx := hex _ (h3 t t1).1
      show kp a = kp ((grs kp ld c (m + 1)).2.1 (q.2.2.1 t))
      exact gri_kept hac hx.1 (m + 2) (t3.symm.trans hx.2.symm)
    · rintro a e' hac he' ⟨t, t1, ⟨d, t2⟩, t3⟩
      have hx := hex _ (h3 t t1).1
      obtain ⟨u1, u2⟩ := hto t e' t1 he'
      refine ⟨fto q t e', u1, ⟨d + 1, wk_snoc t2 he'⟩, ?_⟩
      rw [u2]
      exact gdn_stab hG hd hx.1 hac he' (hx.2.trans t3)
    · exact ⟨s, hs, ⟨0, rfl⟩, (hex _ (h3 s hs).1).2.symm⟩
    · refine ⟨fto q s e, (hto s e hs he).1, ⟨1, e, he, rfl⟩, (hex _ (h3 _ (hto s e hs he).1).1).2.symm⟩
  · intro h t ht ⟨d, hw⟩
    rw [slf_wk h d t hw]
theorem sp_verdM {σ : Sg} {to : Nat → Nat → Nat} {kv : Nat → Bool} {n : Nat} {Q : Sg → Prop} (hM : PMa to (fvd to kv) n) (h39 : gF σ 10 39 = nI n) (h71 : ∀ s, s < n → ∀ e, e < 4 → gA σ 71 (4 * s + e) = nI (to s e)) (h72 : ∀ s, s < n → gA σ 72 s = bI (kv s)) (ha : ∀ s, s < n → (Alk to kv n s ↔ slf to s = true)) (h : ∀ τ, Fr [] [73, 76, 77] σ τ → (∀ s, s < n → gA τ 73 s = nI (fvd to kv s)) → Q τ) : wp_X9_number_183 Q σ := by
  have hn := hM.1
  refine lq1 (fun f s (τ : Sg) => wl_X9_number_185 Q f (nI s) τ) (fun s τ => Fr [] [73, 76, 77] σ τ ∧ ∀ i, i < s → gA τ 73 i = nI (fvd to kv i)) n ?_ ?_ σ ⟨Fr.rf, fun i hi => by omega⟩
  · intro f τ ⟨a1, a2⟩
    show wb_X9_number_185 _ _ _ _
    unfold wb_X9_number_185
    rw [a1.F (by decide), h39]
    exact pk_le n n (fun _ => h τ a1 a2) (fun z => by omega)
  · intro f s τ hs ⟨a1, a2⟩ hs2
    show wb_X9_number_185 _ _ _ _
    unfold wb_X9_number_185
    rw [a1.F (by decide), h39]
    refine pk_le n s (fun z => by omega) (fun _ => ?_)
    refine sp_spread hM (by rw [a1.F (by decide)]; exact h39) (fun s hs e he => ⟨by rw [a1.A (by decide)]; exact h71 s hs e he, (hM.2.1 s hs).2 e he⟩) hs (fun τ1 f1 hre => ?_)
    have q39 : gF τ1 10 39 = nI n := by rw [f1.F (by decide), a1.F (by decide)]; exact h39
    have q72 : ∀ s, s < n → gA τ1 72 s = bI (kv s) := fun s hs => by rw [f1.A (by decide), a1.A (by decide)]; exact h72 s hs
    refine lq1 (fun g k (v : Bool) => wl_X9_number_202 (nI s) (fun z2 σ9 => wp_X9_number_252 (nI s) z2 (wl_X9_number_185 Q f) Q σ9) Q g (bI v) (nI k) τ1) (fun k v => v = true ↔ ∀ t, t < k → (∃ d, wk to d s t) → kv t = kv s) n ?_ ?_ true ⟨fun _ t ht => by omega, fun _ => rfl⟩
    · intro g v hv
      show wb_X9_number_202 _ _ _ _ _ _ _
      have hvs : v = slf to s := by
        have h1 := hv.trans (ha s hs)
        cases v <;> cases h : slf to s <;> simp_all
      unfold wb_X9_number_202
      rw [q39]
      refine pk_le n n (fun _ => ?_) (fun z => by omega)
      -- the verdict is put
      have b292 : ∀ x : Nat, x = fvd to kv s → wp_X9_number_292 (nI s) (nI x) (nI s) (wl_X9_number_185 Q f) Q τ1 := by
        intro x hx
        unfold wp_X9_number_292
        rw [nI_clamp (by omega)]
        refine ⟨vp_in_nI (by show s < 60; omega) (by decide), ?_⟩
        intro κ e y ey
        rw [ey, nI_add]
        refine hs2 κ ⟨by rw [e]; exact (a1.tr (f1.mono (by simp) (by simp))).stA (by simp), fun i hi => ?_⟩
        rw [e, gA_stA, if_pos rfl]
        by_cases q : i = s
        · rw [if_pos q, q, hx]
        · rw [if_neg q, f1.A (by decide)]; exact a2 i (by omega)
      show wp_X9_number_252 _ _ _ _ _
      unfold wp_X9_number_252
      rw [nI_clamp (by omega), q72 s hs]
      refine bI_br (fun q => ⟨vp_in_nI (by show s < 60; omega) (by decide), bI_br (fun r => b292 0 ?_) (fun r => b292 1 ?_)⟩) (fun q => ⟨vp_in_nI (by show s < 60; omega) (by decide), bI_br (fun r => b292 2 ?_) (fun r => b292 3 ?_)⟩)
      all_goals
        unfold fvd
        rw [← hvs, q, r]
        rfl
    · intro g k v hk hv hs3
      show wb_X9_number_202 _ _ _ _ _ _ _
      have fin : ∀ w : Bool, (w = true ↔ ∀ t, t < k + 1 → (∃ d, wk to d s t) → kv t = kv s) → wp_X9_number_245 (nI s) (nI k) (bI w) (wl_X9_number_202 (nI s) (fun z2 σ9 => wp_X9_number_252 (nI s) z2 (wl_X9_number_185 Q f) Q σ9) Q g) Q τ1 := by
        intro w hw y ey
        rw [ey, nI_add]
        exact hs3 w hw
      obtain ⟨o, o1, o2, o3⟩ := hre k hk
      unfold wb_X9_number_202
      rw [q39, nI_clamp (by omega), nI_clamp (by omega), o1, q72 s hs, q72 k hk]
      refine pk_le n k (fun z => by omega) (fun _ => bI_br (fun q => ?_) (fun q => ?_))
      · refine fin false ⟨(fun z => by cases z), fun z => ?_⟩
        have := hv.mpr (fun t ht hd => z t (by omega) hd)
        rw [q] at this
        exact this
      · have hv' := hv.mp q
        have good : kv k = kv s ∨ (∀ d, ¬ wk to d s k) → wp_X9_number_240 (nI s) (nI k) (wl_X9_number_202 (nI s) (fun z2 σ9 => wp_X9_number_252 (nI s) z2 (wl_X9_number_185 Q f) Q σ9) Q g) Q τ1 := by
          intro hg
          refine fin true ⟨fun _ t ht hd => ?_, fun _ => rfl⟩
          by_cases e : t = k
          · subst e
            rcases hg with hg | hg
            · exact hg
            · obtain ⟨d, hd⟩ := hd
              exact absurd hd (hg d)
          · exact hv' t (by omega) hd
        refine ⟨vp_in_nI (by show k < 60; omega) (by decide), ?_⟩
        cases o with
        | none => exact ⟨fun _ => good (Or.inr o2), fun z => absurd rfl z⟩
        | some d =>
          have hd60 := o3 d rfl
          refine ⟨fun z => absurd z (ni9 (by omega)), fun _ => ⟨vp_in_nI (by show k < 60; omega) (by decide), vp_in_nI (by show s < 60; omega) (by decide), ?_⟩⟩
          have hbi : ∀ u v : Bool, bI u = bI v ↔ u = v := fun u v => by cases u <;> cases v <;> decide
          rw [hbi]
          refine ⟨fun z => fin false ⟨(fun y => by cases y), fun y => absurd (y k (Nat.lt_succ_self k) ⟨d, o2.1⟩) z⟩, fun z => good (Or.inl z)⟩
