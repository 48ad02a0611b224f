/-! ===== read: bits, values (plain) ===== -/
def ndAt : List NdT → Nat → NdT
  | [], _ => (0, none, none, 0)
  | x :: nd, n => if n = nd.length then x else ndAt nd n
theorem ndAt_cons {x : NdT} {nd : List NdT} {n : Nat} : ndAt (x :: nd) n = if n = nd.length then x else ndAt nd n := rfl
theorem ndsA_at {s l r w : Nat → Int32} : ∀ (nd : List NdT) (n : Nat), ndsA s l r w nd → n < nd.length → s n = nI (ndAt nd n).1 ∧ l n = oI (ndAt nd n).2.1 ∧ r n = oI (ndAt nd n).2.2.1 ∧ w n = nI (ndAt nd n).2.2.2
  | [], n, _, h => absurd h (Nat.not_lt_zero n)
  | x :: nd, n, hA, h => by
    unfold ndAt
    by_cases q : n = nd.length
    · rw [if_pos q, q]; exact hA.1
    · rw [if_neg q]
      exact ndsA_at nd n hA.2 (by simp only [List.length_cons] at h; omega)
theorem kidsLt_at : ∀ (nd : List NdT) (n : Nat), kidsLt nd → n < nd.length → (∀ l, (ndAt nd n).2.1 = some l → l < n) ∧ (∀ l, (ndAt nd n).2.2.1 = some l → l < n) ∧ (ndAt nd n).1 < 256
  | [], n, _, h => absurd h (Nat.not_lt_zero n)
  | x :: nd, n, hA, h => by
    unfold ndAt
    by_cases q : n = nd.length
    · rw [if_pos q, q]; exact ⟨hA.1, hA.2.1, hA.2.2.1⟩
    · rw [if_neg q]
      exact kidsLt_at nd n hA.2.2.2.2 (by simp only [List.length_cons] at h; omega)
/-- bits gathered -/
def bc (p : Nat → Bool) (s : Nat → Nat) : Nat → Nat
  | 0 => 0
  | n + 1 => if p n = true then bc p s n ||| 2 ^ s n else bc p s n
theorem bc_bit {p : Nat → Bool} {s : Nat → Nat} {t : Nat} : ∀ n, (bc p s n).testBit t = true ↔ ∃ i, i < n ∧ p i = true ∧ s i = t
  | 0 => by
    show (0 : Nat).testBit t = true ↔ _
    rw [Nat.zero_testBit]
    exact ⟨fun z => Bool.noConfusion z, fun ⟨i, hi, _⟩ => by omega⟩
  | n + 1 => by
    unfold bc
    have ih := bc_bit (p := p) (s := s) (t := t) n
    by_cases hb : p n = true
    · rw [if_pos hb, Nat.testBit_or, Nat.testBit_two_pow, Bool.or_eq_true, ih, decide_eq_true_eq]
      constructor
      · rintro (⟨i, h1, h2, h3⟩ | h)
        · exact ⟨i, by omega, h2, h3⟩
        · exact ⟨n, by omega, hb, h⟩
      · rintro ⟨i, h1, h2, h3⟩
        by_cases q : i = n
        · subst q; exact Or.inr h3
        · exact Or.inl ⟨i, by omega, h2, h3⟩
    · rw [if_neg hb, ih]
      constructor
      · rintro ⟨i, h1, h2, h3⟩; exact ⟨i, by omega, h2, h3⟩
      · rintro ⟨i, h1, h2, h3⟩
        by_cases q : i = n
        · subst q; exact absurd h2 hb
        · exact ⟨i, by omega, h2, h3⟩
theorem bc_lt {p : Nat → Bool} {s : Nat → Nat} {M : Nat} : ∀ n, (∀ i, i < n → p i = true → s i < M) → bc p s n < 2 ^ M
  | 0, _ => Nat.two_pow_pos M
  | n + 1, h => by
    unfold bc
    have ih := bc_lt n (fun i hi => h i (by omega))
    split
    · rename_i hb
      exact Nat.or_lt_two_pow ih (Nat.pow_lt_pow_right (by decide) (h n (by omega) hb))
    · exact ih
theorem bit_ext {a b : Nat} (h : ∀ t, a.testBit t = true ↔ b.testBit t = true) : a = b := by
  apply Nat.eq_of_testBit_eq
  intro t
  have := h t
  cases ha : a.testBit t <;> cases hb : b.testBit t <;> simp_all
def futn (x : Nat → NdT) (i : Nat) : Bool := futS (x i).1
def pasn (x : Nat → NdT) (i : Nat) : Bool := pasS (x i).1
def fbc (x : Nat → NdT) (n : Nat) : Nat := fb_ct (futn x) n
def pbc (x : Nat → NdT) (n : Nat) : Nat := fb_ct (pasn x) n
def slt (x : Nat → NdT) (F i : Nat) : Nat := if futn x i = true then fbc x i else if pasn x i = true then F + pbc x i else 31
theorem fbc_lt {x : Nat → NdT} {i N : Nat} (hi : i < N) (h : futn x i = true) : fbc x i < fbc x N := by
  have h1 : fbc x (i + 1) = fbc x i + 1 := by unfold fbc; rw [fb_ct_succ, h]; rfl
  have h2 : fbc x (i + 1) ≤ fbc x N := fb_ct_mono _ (by omega)
  omega
theorem pbc_lt {x : Nat → NdT} {i N : Nat} (hi : i < N) (h : pasn x i = true) : pbc x i < pbc x N := by
  have h1 : pbc x (i + 1) = pbc x i + 1 := by unfold pbc; rw [fb_ct_succ, h]; rfl
  have h2 : pbc x (i + 1) ≤ pbc x N := fb_ct_mono _ (by omega)
  omega
theorem fut_not_pas {c : Nat} (h : futS c = true) : pasS c = false := by
  unfold futS at h
  simp only [Bool.or_eq_true, beq_iff_eq] at h
  have hc : c < 90 := by omega
  have all : ∀ c, c < 90 → futS c = true → pasS c = false := by decide +kernel
  refine all c hc ?_
  unfold futS
  simp only [Bool.or_eq_true, beq_iff_eq]
  exact h
/-- the bits of both kinds together -/
theorem bc_both {x : Nat → NdT} {N : Nat} {pf pp p : Nat → Bool} (hf : ∀ i, i < N → pf i = true → futn x i = true) (hp : ∀ i, i < N → pp i = true → pasn x i = true) (h : ∀ i, i < N → p i = (pf i || pp i)) : bc p (slt x (fbc x N)) N = bc pp (pbc x) N * 2 ^ fbc x N + bc pf (fbc x) N := by
  have hlt : bc pf (fbc x) N < 2 ^ fbc x N := bc_lt N (fun i hi q => fbc_lt hi (hf i hi q))
  apply bit_ext
  intro t
  rw [Nat.mul_comm, Nat.testBit_two_pow_mul_add _ hlt, bc_bit]
  by_cases q : t < fbc x N
  · rw [if_pos q, bc_bit]
    constructor
    · rintro ⟨i, h1, h2, h3⟩
      rw [h i h1, Bool.or_eq_true] at h2
      rcases h2 with h2 | h2
      · refine ⟨i, h1, h2, ?_⟩
        unfold slt at h3
        rw [if_pos (hf i h1 h2)] at h3
        exact h3
      · have hpa := hp i h1 h2
        unfold slt at h3
        by_cases r : futn x i = true
        · have := fut_not_pas r
          unfold pasn at hpa
          rw [this] at hpa; cases hpa
        · rw [if_neg r, if_pos hpa] at h3; omega
    · rintro ⟨i, h1, h2, h3⟩
      refine ⟨i, h1, by rw [h i h1, h2]; rfl, ?_⟩
      unfold slt
      rw [if_pos (hf i h1 h2)]; exact h3
  · rw [if_neg q, bc_bit]
    constructor
    · rintro ⟨i, h1, h2, h3⟩
      rw [h i h1, Bool.or_eq_true] at h2
      rcases h2 with h2 | h2
      · have hfu := hf i h1 h2
        have := fbc_lt h1 hfu
        unfold slt at h3
        rw [if_pos hfu] at h3
        omega
      · have hpa := hp i h1 h2
        refine ⟨i, h1, h2, ?_⟩
        unfold slt at h3
        by_cases r : futn x i = true
        · have := fut_not_pas r
          unfold pasn at hpa
          rw [this] at hpa; cases hpa
        · rw [if_neg r, if_pos hpa] at h3; omega
    · rintro ⟨i, h1, h2, h3⟩
      have hpa := hp i h1 h2
      refine ⟨i, h1, by rw [h i h1, h2, Bool.or_true], ?_⟩
      unfold slt
      have r : ¬ futn x i = true := by
        intro r
        have := fut_not_pas r
        unfold pasn at hpa
        rw [this] at hpa; cases hpa
      rw [if_neg r, if_pos hpa]; omega
theorem cbt_ct : ∀ (nd : List NdT), fbc (ndAt nd) nd.length + pbc (ndAt nd) nd.length ≤ cbt nd
  | [] => Nat.le_refl 0
  | x :: nd => by
    have ih := cbt_ct nd
    have e1 : fbc (ndAt (x :: nd)) nd.length = fbc (ndAt nd) nd.length := by
      unfold fbc
      refine fb_ct_cong (fun k hk => ?_)
      unfold futn
      rw [ndAt_cons, if_neg (by omega)]
    have e2 : pbc (ndAt (x :: nd)) nd.length = pbc (ndAt nd) nd.length := by
      unfold pbc
      refine fb_ct_cong (fun k hk => ?_)
      unfold pasn
      rw [ndAt_cons, if_neg (by omega)]
    have hx : ndAt (x :: nd) nd.length = x := by unfold ndAt; rw [if_pos rfl]
    have e3 : fbc (ndAt (x :: nd)) (nd.length + 1) = fbc (ndAt (x :: nd)) nd.length + (if futS x.1 then 1 else 0) := by
      unfold fbc
      rw [fb_ct_succ]
      unfold futn
      rw [hx]
    have e4 : pbc (ndAt (x :: nd)) (nd.length + 1) = pbc (ndAt (x :: nd)) nd.length + (if pasS x.1 then 1 else 0) := by
      unfold pbc
      rw [fb_ct_succ]
      unfold pasn
      rw [hx]
    show fbc (ndAt (x :: nd)) (nd.length + 1) + pbc (ndAt (x :: nd)) (nd.length + 1) ≤ (if futS x.1 || pasS x.1 then 1 else 0) + cbt nd
    rw [e3, e4, e1, e2]
    by_cases q : futS x.1 = true
    · rw [q, fut_not_pas q]
      simp only [if_true, Bool.or_false, Bool.false_eq_true, if_false]
      omega
    · have : futS x.1 = false := by cases h : futS x.1 with | false => rfl | true => exact absurd h q
      rw [this]
      simp only [Bool.false_or, Bool.false_eq_true, if_false]
      omega
/-- the value of a node -/
def nvl (c e : Nat) (a b z p : Bool) : Bool := if c = 33 then !a else if c = 38 then a && b else if c = 46 then true else if c = 47 then a || b else if c = 62 then !a || b else if c = 70 then a || z else if c = 71 then a && z else if c = 72 then a && p else if c = 78 then z else if c = 79 then a || p else if c = 83 then b || (a && p) else if c = 85 then b || (a && z) else if c = 87 then z else if c = 89 then p else decide (c = 97 + e)
def chd (V : Nat → Bool) : Option Nat → Bool
  | none => false
  | some l => V l
def vv (x : Nat → NdT) (e was z : Nat) : Nat → Nat → Bool
  | 0 => fun _ => false
  | n + 1 => fun i => if i = n then nvl (x n).1 e (chd (vv x e was z n) (x n).2.1) (chd (vv x e was z n) (x n).2.2.1) (z.testBit (fbc x n)) (was.testBit (pbc x n)) else vv x e was z n i
def toldb (x : Nat → NdT) (V : Nat → Bool) (n : Nat) : Bool := if (x n).1 = 78 ∨ (x n).1 = 87 ∨ (x n).1 = 89 then chd V (x n).2.1 else V n
theorem vv_old {x : Nat → NdT} {e was z i : Nat} : ∀ {n m : Nat}, i < n → n ≤ m → vv x e was z m i = vv x e was z n i := by
  intro n m hi hm
  obtain ⟨k, rfl⟩ : ∃ k, m = n + k := ⟨m - n, by omega⟩
  clear hm
  induction k with
  | zero => rfl
  | succ k ih =>
    show (if i = n + k then _ else vv x e was z (n + k) i) = _
    rw [if_neg (by omega)]
    exact ih
def tlm (x : Nat → NdT) (N e was z : Nat) : Nat := bc (fun i => futn x i && toldb x (vv x e was z N) i) (fbc x) N
def lbm (x : Nat → NdT) (N e was z : Nat) : Nat := bc (fun i => pasn x i && toldb x (vv x e was z N) i) (pbc x) N
def rtm (x : Nat → NdT) (N e was z : Nat) : Bool := vv x e was z N (N - 1)
def aEm (x : Nat → NdT) (N : Nat) : Nat := bc (fun i => (x i).1 == 87 || (x i).1 == 71) (fbc x) N
def aFm (x : Nat → NdT) (N : Nat) : Nat := bc (fun i => (x i).1 == 72) (pbc x) N
/-- the rule of a good list -/
def Rok (x : Nat → NdT) (N : Nat) : Prop := 0 < N ∧ N ≤ 9 ∧ (∀ n, n < N → (∀ l, (x n).2.1 = some l → l < n) ∧ (∀ l, (x n).2.2.1 = some l → l < n) ∧ (x n).1 < 256) ∧ fbc x N + pbc x N ≤ 8
theorem rok_of {nd : List NdT} {op : List Nat} (hg : Gnd nd op) (h0 : 0 < nd.length) (h9 : nd.length ≤ 9) : Rok (ndAt nd) nd.length := by
  refine ⟨h0, h9, fun n hn => kidsLt_at nd n hg.2.1 hn, ?_⟩
  have h1 := cbt_ct nd
  have h2 := hg.2.2 (by intro e; rw [e] at h0; exact absurd h0 (Nat.lt_irrefl 0))
  omega
theorem tlm_lt (x : Nat → NdT) (N e was z : Nat) : tlm x N e was z < 2 ^ fbc x N := bc_lt N (fun i hi q => fbc_lt hi (by rw [Bool.and_eq_true] at q; exact q.1))
theorem lbm_lt (x : Nat → NdT) (N e was z : Nat) : lbm x N e was z < 2 ^ pbc x N := bc_lt N (fun i hi q => pbc_lt hi (by rw [Bool.and_eq_true] at q; exact q.1))
theorem aEm_lt (x : Nat → NdT) (N : Nat) : aEm x N < 2 ^ fbc x N := bc_lt N (fun i hi q => fbc_lt hi (by
  unfold futn futS
  rw [Bool.or_eq_true, beq_iff_eq, beq_iff_eq] at q
  rcases q with q | q <;> rw [q] <;> rfl))
theorem aFm_lt (x : Nat → NdT) (N : Nat) : aFm x N < 2 ^ pbc x N := bc_lt N (fun i hi q => pbc_lt hi (by
  unfold pasn pasS
  rw [beq_iff_eq] at q
  rw [q]; rfl))
