/-! ===== read: the past does not look ahead ===== -/
def wfin : List NdT → (Nat → Bool) → Nat → Bool
  | [], W => W
  | x :: nd, W => wfin nd (wst W nd.length x)
theorem wst_mono {W : Nat → Bool} {n i : Nat} {x : NdT} (h : W i = true) : wst W n x i = true := by unfold wst; rw [h]; rfl
theorem wfin_mono : ∀ (nd : List NdT) (W : Nat → Bool) (i : Nat), W i = true → wfin nd W i = true
  | [], _, _, h => h
  | x :: nd, _, i, h => wfin_mono nd _ i (wst_mono h)
theorem wst_hi {W : Nat → Bool} {nd : List NdT} {x : NdT} {i : Nat} (hk : kidsLt (x :: nd)) (h : nd.length ≤ i) : wst W nd.length x i = W i := by
  unfold wst
  have e1 : (x.2.1 == some i) = false := by
    cases q : x.2.1 with
    | none => rfl
    | some l => have := hk.1 l q; simpa using (show ¬ l = i by omega)
  have e2 : (x.2.2.1 == some i) = false := by
    cases q : x.2.2.1 with
    | none => rfl
    | some l => have := hk.2.1 l q; simpa using (show ¬ l = i by omega)
  rw [e1, e2]; simp
theorem wfin_hi : ∀ (nd : List NdT) (W : Nat → Bool) (i : Nat), kidsLt nd → nd.length ≤ i → wfin nd W i = W i
  | [], _, _, _, _ => rfl
  | x :: nd, W, i, hk, h => by
    simp only [List.length_cons] at h
    show wfin nd (wst W nd.length x) i = W i
    rw [wfin_hi nd _ i hk.2.2.2.2 (by omega), wst_hi hk (by omega)]
def Wgood (nd : List NdT) (Wf : Nat → Bool) : Prop := ∀ n, n < nd.length → ((Wf n || pasS (ndAt nd n).1) = true → (∀ l, (ndAt nd n).2.1 = some l → Wf l = true) ∧ ∀ l, (ndAt nd n).2.2.1 = some l → Wf l = true) ∧ (Wf n = true → futS (ndAt nd n).1 = false)
theorem ipf_lt : ∀ (nd : List NdT) (W : Nat → Bool) (f : Nat), kidsLt nd → f < 60 → ipf nd W f < 60
  | [], _, _, _, h => h
  | x :: nd, W, f, hk, h => by
    refine ipf_lt nd _ _ hk.2.2.2.2 ?_
    unfold wfst
    split
    · exact hk.2.2.2.1
    · exact h
theorem wgood : ∀ (nd : List NdT) (W : Nat → Bool), kidsLt nd → ipf nd W 99 = 99 → Wgood nd (wfin nd W)
  | [], _, _, _ => fun n h => absurd h (Nat.not_lt_zero n)
  | x :: nd, W, hk, h => by
    have hi : ipf nd (wst W nd.length x) (wfst W nd.length x 99) = 99 := h
    have h60 := hk.2.2.2.1
    have hw : (W nd.length && futS x.1 && decide (x.2.2.2 < 99)) = false := by
      cases q : (W nd.length && futS x.1 && decide (x.2.2.2 < 99)) with
      | false => rfl
      | true =>
        have e : wfst W nd.length x 99 = x.2.2.2 := by unfold wfst; rw [q]; rfl
        rw [e] at hi
        have := ipf_lt nd (wst W nd.length x) _ hk.2.2.2.2 h60
        omega
    have e99 : wfst W nd.length x 99 = 99 := by unfold wfst; rw [hw]; rfl
    rw [e99] at hi
    have ih := wgood nd _ hk.2.2.2.2 hi
    intro n hn
    rw [ndAt_cons]
    show ((wfin nd (wst W nd.length x) n || _) = true → _) ∧ _
    by_cases q : n = nd.length
    · rw [if_pos q]
      have hself : wfin nd (wst W nd.length x) n = W n := by
        rw [wfin_hi nd _ n hk.2.2.2.2 (by omega), wst_hi hk (by omega)]
      rw [hself]
      subst q
      refine ⟨fun hb => ⟨fun l hl => wfin_mono nd _ l ?_, fun l hl => wfin_mono nd _ l ?_⟩, fun hb => ?_⟩
      · unfold wst
        rw [hb, hl]; simp
      · unfold wst
        rw [hb, hl]; simp
      · have := hself.symm.trans hb
        rw [this] at hw
        cases r : futS x.1 with
        | false => rfl
        | true => rw [r, decide_eq_true (show x.2.2.2 < 99 by omega)] at hw; cases hw
    · rw [if_neg q]
      exact ih n (by simp only [List.length_cons] at hn; omega)
theorem vv_pure {nd : List NdT} {Wf : Nat → Bool} (hk : kidsLt nd) (hg : Wgood nd Wf) {e was z1 z2 : Nat} : ∀ n, n ≤ nd.length → ∀ i, i < n → (Wf i || pasS (ndAt nd i).1) = true → vv (ndAt nd) e was z1 n i = vv (ndAt nd) e was z2 n i
  | 0, _, i, hi, _ => by omega
  | n + 1, hn, i, hi, hw => by
    by_cases q : i = n
    · subst q
      obtain ⟨g1, g2⟩ := hg i (by omega)
      obtain ⟨g3, g4⟩ := g1 hw
      obtain ⟨k1, k2, _⟩ := kidsLt_at nd i hk (by omega)
      show (if i = i then _ else _) = (if i = i then _ else _)
      rw [if_pos rfl, if_pos rfl]
      have hc : ∀ o : Option Nat, (∀ l, o = some l → l < i) → (∀ l, o = some l → Wf l = true) → chd (vv (ndAt nd) e was z1 i) o = chd (vv (ndAt nd) e was z2 i) o := by
        intro o h1 h2
        cases o with
        | none => rfl
        | some l => exact vv_pure hk hg i (by omega) l (h1 l rfl) (by rw [h2 l rfl]; rfl)
      rw [hc _ k1 g3, hc _ k2 g4]
      refine nvl_z (fun hf => ?_) (fun _ => rfl)
      exfalso
      rw [Bool.or_eq_true] at hw
      rcases hw with hw | hw
      · rw [g2 hw] at hf; cases hf
      · rw [fut_not_pas hf] at hw; cases hw
    · show (if i = n then _ else _) = (if i = n then _ else _)
      rw [if_neg q, if_neg q]
      exact vv_pure hk hg n (by omega) i (by omega) hw
def Pur (x : Nat → NdT) (N : Nat) : Prop := ∀ e was z1 z2, lbm x N e was z1 = lbm x N e was z2
theorem pur_of {nd : List NdT} (hk : kidsLt nd) (h : ipf nd (fun _ => false) 99 = 99) : Pur (ndAt nd) nd.length := by
  intro e was z1 z2
  have hg := wgood nd _ hk h
  generalize wfin nd (fun _ => false) = Wf at hg
  unfold lbm
  refine bc_cong nd.length (fun i hi => ?_)
  cases q : pasn (ndAt nd) i with
  | false => rfl
  | true =>
    rw [Bool.true_and, Bool.true_and]
    have hp : (Wf i || pasS (ndAt nd i).1) = true := by
      have : pasS (ndAt nd i).1 = true := q
      rw [this, Bool.or_true]
    obtain ⟨g3, g4⟩ := (hg i hi).1 hp
    obtain ⟨k1, k2, _⟩ := kidsLt_at nd i hk hi
    unfold toldb
    split
    · cases r : (ndAt nd i).2.1 with
      | none => rfl
      | some l => exact vv_pure hk hg nd.length (Nat.le_refl _) l (by have := k1 l r; omega) (by rw [g3 l r]; rfl)
    · exact vv_pure hk hg nd.length (Nat.le_refl _) i hi hp
