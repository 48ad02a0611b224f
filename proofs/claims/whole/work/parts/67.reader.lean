/-! ===== read: the class's reader ===== -/
def XRd (σ0 σ : Sg) (nb k told opn : Nat) (nd : List NdT) : Prop :=
  Fr [1, 2] [13, 14, 15, 16] σ0 σ ∧ gF σ 1 3 = nI k ∧ gF σ 1 4 = nI told ∧ gF σ 1 5 = nI opn ∧ gF σ 1 7 = nI 0 ∧ gF σ 2 6 = nI nd.length ∧ ndsA (gA σ 13) (gA σ 14) (gA σ 15) (gA σ 16) nd ∧ gF σ 1 2 = nI nb ∧ gR σ 1 1 = 11
def FSr (σ0 σ : Sg) (f : Nat) : Prop := Fr [1, 2] [13, 14, 15, 16] σ0 σ ∧ gF σ 1 7 = nI 1 ∧ gF σ 1 8 = nI f
/-- the tape of both -/
def Tpe (σ0 : Sg) (nb : Nat) (tp : Nat → Nat) : Prop := nb ≤ 60 ∧ ∀ i, i < nb → tp i < 256 ∧ gA σ0 11 i = nI (tp i)
theorem isK_11 : isK 11 0 := ⟨by decide, by decide, by decide⟩
theorem sp_failed0 {σ : Sg} {Q : Int32 → Sg → Prop} (h7 : gF σ 1 7 = nI 0) (h : Q (nI 0) σ) : wp_X5_failed σ Q := by
  unfold wp_X5_failed
  rw [h7]
  exact br_t rfl h
theorem sp_failed1 {σ : Sg} {Q : Int32 → Sg → Prop} (h7 : gF σ 1 7 = nI 1) (h : Q (nI 1) σ) : wp_X5_failed σ Q := by
  unfold wp_X5_failed
  rw [h7]
  exact br_f (by decide) h
def hv (nb k : Nat) (tp : Nat → Nat) : Int32 := if k < nb then nI (tp k) else -1
theorem blank_step {tp : Nat → Nat} {nb k : Nat} {s : PSt} (hk : k < nb) (h : tp k = 32) : PR tp nb k s = PR tp nb (k + 1) s := PR_step hk (by rw [h]; rfl)
theorem sp_here {σ0 σ : Sg} {nb k told opn : Nat} {nd : List NdT} {tp : Nat → Nat} {Q : Int32 → Sg → Prop} (hT : Tpe σ0 nb tp) (hX : XRd σ0 σ nb k told opn nd) (hk : k ≤ nb) (h : ∀ σ' k2, XRd σ0 σ' nb k2 told opn nd → gF σ' 1 6 = gF σ 1 6 → k ≤ k2 → k2 ≤ nb → (∀ i, k ≤ i → i < k2 → tp i = 32) → (∀ s, PR tp nb k s = PR tp nb k2 s) → (k2 < nb → tp k2 ≠ 32) → Q (hv nb k2 tp) σ') : wp_X5_here σ Q := by
  obtain ⟨hnb, ht⟩ := hT
  -- behind the loop
  have fin : ∀ k2 τ, XRd σ0 τ nb k2 told opn nd → gF τ 1 6 = gF σ 1 6 → k ≤ k2 → k2 ≤ nb → (∀ i, k ≤ i → i < k2 → tp i = 32) → (∀ s, PR tp nb k s = PR tp nb k2 s) → (k2 < nb → tp k2 ≠ 32) → wp_X5_here_51 Q τ := by
    intro k2 τ hX2 h6 a b c d e
    obtain ⟨fr, x3, x4, x5, x7, x26, xn, x2, xr⟩ := id hX2
    have go := h τ k2 hX2 h6 a b c d e
    unfold wp_X5_here_51
    rw [x2, x3, xr]
    refine pk_le nb k2 (fun z => ?_) (fun z => ⟨isK_11, ?_⟩)
    · unfold hv at go
      rw [if_neg (by omega)] at go
      exact go
    · refine sp_pick (k := k2) rfl (by show k2 < 60; omega) ?_
      rw [fr.A (by decide), (ht k2 z).2]
      unfold hv at go
      rw [if_pos z] at go
      exact go
  refine loop_m (σ := Nat × Nat × Sg) (fun g a => wl_X5_here_2 (fun σ9 => wp_X5_here_51 Q σ9) Q g (nI a.1) a.2.2) (fun a => a.1 ≤ 60 ∧ a.2.1 = k + a.1 ∧ a.2.1 ≤ nb ∧ XRd σ0 a.2.2 nb a.2.1 told opn nd ∧ gF a.2.2 1 6 = gF σ 1 6 ∧ (∀ i, k ≤ i → i < a.2.1 → tp i = 32) ∧ ∀ s, PR tp nb k s = PR tp nb a.2.1 s) (fun a => 60 - a.1) ?_ (0, k, σ) ⟨by omega, rfl, hk, hX, rfl, fun i a b => (by simp only at b; omega), fun s => rfl⟩
  rintro g ⟨i, k2, τ⟩ ⟨a1, a2, a3, a4, a5, a6, a7⟩ hs
  simp only at a1 a2 a3 a4 a5 a6 a7 hs ⊢
  show wb_X5_here_2 _ _ _ _ _
  obtain ⟨fr, x3, x4, x5, x7, x26, xn, x2, xr⟩ := id a4
  unfold wb_X5_here_2
  rw [x2, x3, xr]
  refine pk_le 60 i (fun z => fin k2 τ a4 a5 (by omega) a3 a6 a7 (fun w => by omega)) (fun z => ?_)
  refine pk_le nb k2 (fun w => fin k2 τ a4 a5 (by omega) a3 a6 a7 (fun w => by omega)) (fun w => ⟨isK_11, ?_⟩)
  refine sp_pick (k := k2) rfl (by show k2 < 60; omega) ?_
  rw [fr.A (by decide), (ht k2 w).2]
  have h256 := (ht k2 w).1
  refine (pk_eq (tp k2) 32 (fun q => ?_) (fun q => fin k2 τ a4 a5 (by omega) a3 a6 a7 (fun _ => q))).symm
  intro τ1 e1 y ey
  rw [x3, nI_add] at e1
  rw [ey, nI_add]
  refine hs (i + 1, k2 + 1, τ1) ⟨by show i + 1 ≤ 60; omega, by show k2 + 1 = k + (i + 1); omega, by show k2 + 1 ≤ nb; omega, ?_, ?_, ?_, ?_⟩ (by show 60 - (i + 1) < 60 - i; omega)
  · show XRd σ0 τ1 nb (k2 + 1) told opn nd
    have f1 : ∀ j, j ≠ 3 → gF τ1 1 j = gF τ 1 j := fun j hj => by rw [e1, gF_stF, if_pos rfl, if_neg hj]
    have f2 : gF τ1 2 = gF τ 2 := by rw [e1]; exact gF_stF_row (by decide)
    have fA : gA τ1 = gA τ := by rw [e1]; rfl
    have fR : gR τ1 = gR τ := by rw [e1]; rfl
    refine ⟨by rw [e1]; exact fr.stF (by simp), by rw [e1, gF_stF, if_pos rfl, if_pos rfl], ?_, ?_, ?_, ?_, ?_, ?_, ?_⟩
    · rw [f1 4 (by decide)]; exact x4
    · rw [f1 5 (by decide)]; exact x5
    · rw [f1 7 (by decide)]; exact x7
    · rw [f2]; exact x26
    · rw [fA]; exact xn
    · rw [f1 2 (by decide)]; exact x2
    · rw [fR]; exact xr
  · show gF τ1 1 6 = gF σ 1 6
    rw [e1, gF_stF, if_pos rfl, if_neg (by decide)]; exact a5
  · intro j j1 j2
    by_cases r : j = k2
    · rw [r]; exact q
    · exact a6 j j1 (by simp only at j2; omega)
  · intro s
    rw [a7 s]
    exact blank_step w q
theorem sp_failHere {σ0 σ : Sg} {nb k told opn : Nat} {nd : List NdT} {Q : Sg → Prop} (hX : XRd σ0 σ nb k told opn nd) (h : ∀ σ', FSr σ0 σ' k → Q σ') : wp_X5_failHere σ Q := by
  obtain ⟨fr, x3, x4, x5, x7, x26, xn, x2, xr⟩ := hX
  refine sp_failed0 x7 ⟨fun z => absurd rfl z, fun _ => ?_⟩
  intro σ3 e3 σ4 e4
  have e5 : gF σ3 1 3 = nI k := by rw [e3, gF_stF, if_pos rfl, if_neg (by decide)]; exact x3
  rw [e5] at e4
  refine h σ4 ⟨?_, ?_, ?_⟩
  · rw [e4, e3]; exact (fr.stF (by simp)).stF (by simp)
  · rw [e4, gF_stF, if_pos rfl, if_neg (by decide), e3, gF_stF, if_pos rfl, if_pos rfl]
  · rw [e4, gF_stF, if_pos rfl, if_pos rfl]
theorem sp_beginsNode {σ0 σ : Sg} {nb k told opn : Nat} {nd : List NdT} {Q : Int32 → Sg → Prop} (hX : XRd σ0 σ nb k told opn nd) (ht : told ≤ 9) (h1 : told < 9 → ∀ σ', XRd σ0 σ' nb (k + 1) (told + 1) opn nd → gF σ' 1 6 = nI k → Q (nI 1) σ') (h0 : told = 9 → ∀ σ', FSr σ0 σ' k → Q (nI 0) σ') : wp_X5_beginsNode σ Q := by
  obtain ⟨fr, x3, x4, x5, x7, x26, xn, x2, xr⟩ := id hX
  unfold wp_X5_beginsNode
  rw [x4]
  refine pk_lt told 9 (fun z => ?_) (fun z => sp_failHere hX (fun σ' hf => h0 (by omega) σ' hf))
  intro σ1 e1 σ2 e2 σ3 e3
  rw [nI_add] at e1
  have q13 : gF σ1 1 3 = nI k := by rw [e1, gF_stF, if_pos rfl, if_neg (by decide)]; exact x3
  rw [q13] at e2
  have q23 : gF σ2 1 3 = nI k := by rw [e2, gF_stF, if_pos rfl, if_neg (by decide)]; exact q13
  rw [q23, nI_add] at e3
  have f1 : ∀ j, gF σ3 1 j = if j = 3 then nI (k + 1) else if j = 6 then nI k else if j = 4 then nI (told + 1) else gF σ 1 j := by
    intro j
    rw [e3, gF_stF, if_pos rfl, e2, gF_stF, if_pos rfl, e1, gF_stF, if_pos rfl]
  have f2 : gF σ3 2 = gF σ 2 := by rw [e3, gF_stF_row (by decide), e2, gF_stF_row (by decide), e1, gF_stF_row (by decide)]
  have fA : gA σ3 = gA σ := by rw [e3, e2, e1]; rfl
  have fR : gR σ3 = gR σ := by rw [e3, e2, e1]; rfl
  refine h1 z σ3 ⟨by rw [e3, e2, e1]; exact ((fr.stF (by simp)).stF (by simp)).stF (by simp), ?_, ?_, ?_, ?_, ?_, ?_, ?_, ?_⟩ ?_
  · rw [f1, if_pos rfl]
  · rw [f1, if_neg (by decide), if_neg (by decide), if_pos rfl]
  · rw [f1, if_neg (by decide), if_neg (by decide), if_neg (by decide)]; exact x5
  · rw [f1, if_neg (by decide), if_neg (by decide), if_neg (by decide)]; exact x7
  · rw [f2]; exact x26
  · rw [fA]; exact xn
  · rw [f1, if_neg (by decide), if_neg (by decide), if_neg (by decide)]; exact x2
  · rw [fR]; exact xr
  · rw [f1, if_neg (by decide), if_pos rfl]
theorem sp_takes {σ0 σ : Sg} {nb k told opn c : Nat} {nd : List NdT} {tp : Nat → Nat} {x : Int32} {Q : Int32 → Sg → Prop} (hT : Tpe σ0 nb tp) (hX : XRd σ0 σ nb k told opn nd) (hk : k ≤ nb) (ht : told ≤ 9) (hx : x = nI c) (hc : c < 256) (hy : ∀ σ' k2, k ≤ k2 → k2 < nb → tp k2 = c → told < 9 → (∀ i, k ≤ i → i < k2 → tp i = 32) → (∀ s, PR tp nb k s = PR tp nb k2 s) → XRd σ0 σ' nb (k2 + 1) (told + 1) opn nd → gF σ' 1 6 = nI k2 → Q (nI 1) σ') (hl : ∀ σ' k2, k2 < nb → tp k2 = c → told = 9 → (∀ s, PR tp nb k s = PR tp nb k2 s) → FSr σ0 σ' k2 → Q (nI 0) σ') (hn : ∀ σ' k2, k ≤ k2 → k2 ≤ nb → (k2 < nb → tp k2 ≠ 32 ∧ tp k2 ≠ c) → (∀ i, k ≤ i → i < k2 → tp i = 32) → (∀ s, PR tp nb k s = PR tp nb k2 s) → XRd σ0 σ' nb k2 told opn nd → Q (nI 0) σ') : wp_X5_takes x σ Q := by
  subst hx
  refine sp_failed0 hX.2.2.2.2.1 ⟨fun z => absurd rfl z, fun _ => ?_⟩
  refine sp_here hT hX hk (fun σ' k2 hX2 _ a b bl d e => ?_)
  unfold hv
  by_cases q : k2 < nb
  · rw [if_pos q]
    have h256 := (hT.2 k2 q).1
    refine (pk_eq (tp k2) c (fun z => ?_) (fun z => ?_)).symm
    · refine sp_beginsNode hX2 ht (fun w σ2 hX3 h6 => br_f (by decide) ?_) (fun w σ2 hf => br_t rfl ?_)
      · exact hy σ2 k2 a q z w bl d hX3 h6
      · exact hl σ2 k2 q z w d hf
    · exact hn σ' k2 a b (fun w => ⟨e w, z⟩) bl d hX2
  · rw [if_neg q]
    have : ¬ (-1 : Int32) = nI c := neg_ne (by decide) (by omega)
    exact ⟨fun _ => hn σ' k2 a b (fun w => absurd w q) bl d hX2, fun z => absurd z this⟩
theorem sp_takesF {σ0 σ : Sg} {f : Nat} {x : Int32} {Q : Int32 → Sg → Prop} (hX : FSr σ0 σ f) (h : Q (nI 0) σ) : wp_X5_takes x σ Q := sp_failed1 hX.2.1 ⟨fun _ => h, fun z => absurd z (by decide)⟩
theorem sp_madeF {σ0 σ : Sg} {f : Nat} {a b c d : Int32} {Q : Int32 → Sg → Prop} (hX : FSr σ0 σ f) (h : Q (-9) σ) : wp_X5_made a b c d σ Q := sp_failed1 hX.2.1 ⟨fun z => absurd z (by decide), fun _ => h⟩
theorem sp_made {σ0 σ : Sg} {nb k told opn c w : Nat} {nd : List NdT} {l r : Option Nat} {a b u v : Int32} {Q : Int32 → Sg → Prop} (hX : XRd σ0 σ nb k told opn nd) (ha : a = nI c) (hb : b = oI l) (hu : u = oI r) (hv : v = nI w) (hn : nd.length < 9) (h : ∀ σ', XRd σ0 σ' nb k told opn ((c, l, r, w) :: nd) → Q (nI nd.length) σ') : wp_X5_made a b u v σ Q := by
  subst ha hb hu hv
  obtain ⟨fr, x3, x4, x5, x7, x26, xn, x2, xr⟩ := hX
  refine sp_failed0 x7 (br_t rfl ?_)
  unfold wp_X6_add
  rw [x26]
  refine pk_lt nd.length 9 (fun _ => ?_) (fun z => by omega)
  refine sp_put (k := nd.length) rfl (by show nd.length < 9; exact hn) ?_
  refine sp_put (k := nd.length) x26 (by show nd.length < 9; exact hn) ?_
  refine sp_put (k := nd.length) x26 (by show nd.length < 9; exact hn) ?_
  refine sp_put (k := nd.length) x26 (by show nd.length < 9; exact hn) ?_
  intro σ5 e5
  have e6 : σ5 = stF (stA (stA (stA (stA σ 13 nd.length (nI c)) 14 nd.length (oI l)) 15 nd.length (oI r)) 16 nd.length (nI w)) 2 6 (nI (nd.length + 1)) := by
    rw [e5]
    congr 1
    show gF σ 2 6 + nI 1 = _
    rw [x26, nI_add]
  clear e5
  have q26 : gF σ5 2 6 = nI (nd.length + 1) := by rw [e6, gF_stF, if_pos rfl, if_pos rfl]
  rw [q26, pk_sub (by omega), Nat.add_sub_cancel]
  have f1 : gF σ5 1 = gF σ 1 := by rw [e6, gF_stF_row (by decide)]; rfl
  have a13 : ∀ j, gA σ5 13 j = if j = nd.length then nI c else gA σ 13 j := by
    intro j
    rw [e6, gA_stF, gA_stA_row (by decide), gA_stA_row (by decide), gA_stA_row (by decide), gA_stA, if_pos rfl]
  have a14 : ∀ j, gA σ5 14 j = if j = nd.length then oI l else gA σ 14 j := by
    intro j
    rw [e6, gA_stF, gA_stA_row (by decide), gA_stA_row (by decide), gA_stA, if_pos rfl, gA_stA_row (by decide)]
  have a15 : ∀ j, gA σ5 15 j = if j = nd.length then oI r else gA σ 15 j := by
    intro j
    rw [e6, gA_stF, gA_stA_row (by decide), gA_stA, if_pos rfl, gA_stA_row (by decide), gA_stA_row (by decide)]
  have a16 : ∀ j, gA σ5 16 j = if j = nd.length then nI w else gA σ 16 j := by
    intro j
    rw [e6, gA_stF, gA_stA, if_pos rfl, gA_stA_row (by decide), gA_stA_row (by decide), gA_stA_row (by decide)]
  refine h σ5 ⟨?_, by rw [f1]; exact x3, by rw [f1]; exact x4, by rw [f1]; exact x5, by rw [f1]; exact x7, q26, ⟨⟨?_, ?_, ?_, ?_⟩, ?_⟩, by rw [f1]; exact x2, ?_⟩
  · rw [e6]
    exact ((((fr.stA (by simp)).stA (by simp)).stA (by simp)).stA (by simp)).stF (by simp)
  · rw [a13, if_pos rfl]
  · rw [a14, if_pos rfl]
  · rw [a15, if_pos rfl]
  · rw [a16, if_pos rfl]
  · refine ndsA_c nd (fun j hj => ?_) xn
    rw [a13, a14, a15, a16, if_neg (by omega), if_neg (by omega), if_neg (by omega), if_neg (by omega)]
    exact ⟨rfl, rfl, rfl, rfl⟩
  · rw [e6]; exact xr
