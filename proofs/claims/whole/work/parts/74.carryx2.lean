/-! ===== read: the class's carry, turned and kept ===== -/
theorem sp_hold {c e : Nat} {a b k : Bool} {σ : Sg} {Q : Int32 → Sg → Prop} (hc : c < 256) (he : e < 4) (h : Q (bI (nvl c e a b k k)) σ) :
    ((nI c = (nI 33) → ((¬ bI a = (nI 0) → Q (nI 0) σ) ∧ (bI a = (nI 0) → Q (nI 1) σ))) ∧ (¬ nI c = (nI 33) → ((nI c = (nI 38) → ((bI a = (nI 0) → Q (nI 0) σ) ∧ (¬ bI a = (nI 0) → ((bI b = (nI 0) → Q (nI 0) σ) ∧ (¬ bI b = (nI 0) → Q (nI 1) σ))))) ∧ (¬ nI c = (nI 38) → ((nI c = (nI 46) → Q (nI 1) σ) ∧ (¬ nI c = (nI 46) → ((nI c = (nI 47) → ((¬ bI a = (nI 0) → wp_X6_holds_339 Q σ) ∧ (bI a = (nI 0) → ((bI b = (nI 0) → Q (nI 0) σ) ∧ (¬ bI b = (nI 0) → wp_X6_holds_339 Q σ))))) ∧ (¬ nI c = (nI 47) → ((nI c = (nI 62) → ((bI a = (nI 0) → wp_X6_holds_355 Q σ) ∧ (¬ bI a = (nI 0) → ((bI b = (nI 0) → Q (nI 0) σ) ∧ (¬ bI b = (nI 0) → wp_X6_holds_355 Q σ))))) ∧ (¬ nI c = (nI 62) → ((nI c = (nI 70) → ((¬ bI a = (nI 0) → wp_X6_holds_390 Q σ) ∧ (bI a = (nI 0) → ((bI k = (nI 0) → Q (nI 0) σ) ∧ (¬ bI k = (nI 0) → wp_X6_holds_390 Q σ))))) ∧ (¬ nI c = (nI 70) → ((nI c = (nI 71) → ((bI a = (nI 0) → Q (nI 0) σ) ∧ (¬ bI a = (nI 0) → ((bI k = (nI 0) → Q (nI 0) σ) ∧ (¬ bI k = (nI 0) → Q (nI 1) σ))))) ∧ (¬ nI c = (nI 71) → ((nI c = (nI 72) → ((bI a = (nI 0) → Q (nI 0) σ) ∧ (¬ bI a = (nI 0) → ((bI k = (nI 0) → Q (nI 0) σ) ∧ (¬ bI k = (nI 0) → Q (nI 1) σ))))) ∧ (¬ nI c = (nI 72) → ((nI c = (nI 78) → (bl (bI k) ∧ Q (bI k) σ)) ∧ (¬ nI c = (nI 78) → ((nI c = (nI 79) → ((¬ bI a = (nI 0) → wp_X6_holds_390 Q σ) ∧ (bI a = (nI 0) → ((bI k = (nI 0) → Q (nI 0) σ) ∧ (¬ bI k = (nI 0) → wp_X6_holds_390 Q σ))))) ∧ (¬ nI c = (nI 79) → ((nI c = (nI 83) → ((¬ bI b = (nI 0) → wp_X6_holds_411 Q σ) ∧ (bI b = (nI 0) → ((bI a = (nI 0) → Q (nI 0) σ) ∧ (¬ bI a = (nI 0) → ((bI k = (nI 0) → Q (nI 0) σ) ∧ (¬ bI k = (nI 0) → wp_X6_holds_411 Q σ))))))) ∧ (¬ nI c = (nI 83) → ((nI c = (nI 85) → ((¬ bI b = (nI 0) → wp_X6_holds_411 Q σ) ∧ (bI b = (nI 0) → ((bI a = (nI 0) → Q (nI 0) σ) ∧ (¬ bI a = (nI 0) → ((bI k = (nI 0) → Q (nI 0) σ) ∧ (¬ bI k = (nI 0) → wp_X6_holds_411 Q σ))))))) ∧ (¬ nI c = (nI 85) → ((nI c = (nI 87) → (bl (bI k) ∧ Q (bI k) σ)) ∧ (¬ nI c = (nI 87) → ((nI c = (nI 89) → (bl (bI k) ∧ Q (bI k) σ)) ∧ (¬ nI c = (nI 89) → ((¬ nI c = ((nI 97) + nI e) → Q (nI 0) σ) ∧ (nI c = ((nI 97) + nI e) → Q (nI 1) σ)))))))))))))))))))))))))))))) := by
  have an : ∀ x y : Bool, Q (bI (x && y)) σ → ((bI x = (nI 0) → Q (nI 0) σ) ∧ (¬ bI x = (nI 0) → ((bI y = (nI 0) → Q (nI 0) σ) ∧ (¬ bI y = (nI 0) → Q (nI 1) σ)))) := by
    intro x y g
    refine bI_br (fun z => by rw [z] at g; exact g) (fun z => bI_br (fun w => by rw [z, w] at g; exact g) (fun w => by rw [z, w] at g; exact g))
  have orr : ∀ x y : Bool, Q (bI (x || y)) σ → ((¬ bI x = (nI 0) → Q (nI 1) σ) ∧ (bI x = (nI 0) → ((bI y = (nI 0) → Q (nI 0) σ) ∧ (¬ bI y = (nI 0) → Q (nI 1) σ)))) := by
    intro x y g
    refine bI_rb (fun z => by rw [z] at g; exact g) (fun z => bI_br (fun w => by rw [z, w] at g; exact g) (fun w => by rw [z, w] at g; exact g))
  have un : Q (bI (b || (a && k))) σ → ((¬ bI b = (nI 0) → Q (nI 1) σ) ∧ (bI b = (nI 0) → ((bI a = (nI 0) → Q (nI 0) σ) ∧ (¬ bI a = (nI 0) → ((bI k = (nI 0) → Q (nI 0) σ) ∧ (¬ bI k = (nI 0) → Q (nI 1) σ)))))) := by
    intro g
    refine bI_rb (fun z => by rw [z] at g; exact g) (fun z => bI_br (fun w => by rw [z, w] at g; exact g) (fun w => bI_br (fun v => by rw [z, w, v] at g; exact g) (fun v => by rw [z, w, v] at g; exact g)))
  refine pk_eq c 33 (fun q => ?_) (fun n1 => pk_eq c 38 (fun q => ?_) (fun n2 => pk_eq c 46 (fun q => ?_) (fun n3 => pk_eq c 47 (fun q => ?_) (fun n4 => pk_eq c 62 (fun q => ?_) (fun n5 => pk_eq c 70 (fun q => ?_) (fun n6 => pk_eq c 71 (fun q => ?_) (fun n7 => pk_eq c 72 (fun q => ?_) (fun n8 => pk_eq c 78 (fun q => ?_) (fun n9 => pk_eq c 79 (fun q => ?_) (fun n10 => pk_eq c 83 (fun q => ?_) (fun n11 => pk_eq c 85 (fun q => ?_) (fun n12 => pk_eq c 87 (fun q => ?_) (fun n13 => pk_eq c 89 (fun q => ?_) (fun n14 => ?_))))))))))))))
  · subst q
    have g : Q (bI (!a)) σ := h
    exact bI_rb (fun z => by rw [z] at g; exact g) (fun z => by rw [z] at g; exact g)
  · subst q; exact an a b h
  · subst q; exact h
  · subst q; exact orr a b h
  · subst q
    have g : Q (bI (!a || b)) σ := h
    exact bI_br (fun z => by rw [z] at g; exact g) (fun z => bI_br (fun w => by rw [z, w] at g; exact g) (fun w => by rw [z, w] at g; exact g))
  · subst q; exact orr a k h
  · subst q; exact an a k h
  · subst q; exact an a k h
  · subst q; exact ⟨bI_bl k, h⟩
  · subst q; exact orr a k h
  · subst q; exact un h
  · subst q; exact un h
  · subst q; exact ⟨bI_bl k, h⟩
  · subst q; exact ⟨bI_bl k, h⟩
  · have e1 : nvl c e a b k k = decide (c = 97 + e) := by
      unfold nvl
      rw [if_neg n1, if_neg n2, if_neg n3, if_neg n4, if_neg n5, if_neg n6, if_neg n7, if_neg n8, if_neg n9, if_neg n10, if_neg n11, if_neg n12, if_neg n13, if_neg n14]
    rw [e1] at h
    rw [nI_add]
    refine (pk_eq c (97 + e) (fun q => ?_) (fun q => ?_)).symm
    · rw [decide_eq_true q] at h; exact h
    · rw [decide_eq_false q] at h; exact h
/-- the class's values so far, as one number -/
def vmk (x : Nat → NdT) (e was z n : Nat) : Nat := bc (vv x e was z n) id n
theorem vmk_bit {x : Nat → NdT} {e was z n i : Nat} (hi : i < n) : (vmk x e was z n).testBit i = vv x e was z n i := by
  have h := bc_bit (p := vv x e was z n) (s := id) (t := i) n
  unfold vmk
  cases hv : vv x e was z n i with
  | true => exact h.mpr ⟨i, hi, hv, rfl⟩
  | false =>
    cases hb : (bc (vv x e was z n) id n).testBit i with
    | false => rfl
    | true =>
      obtain ⟨j, _, h2, h3⟩ := h.mp hb
      have : j = i := h3
      rw [this, hv] at h2; cases h2
theorem vmk_lt {x : Nat → NdT} {e was z n : Nat} (hn : n ≤ 9) : vmk x e was z n < 2 ^ 9 := bc_lt n (fun i hi _ => by show i < 9; omega)
theorem bc_cong {p q : Nat → Bool} {s : Nat → Nat} : ∀ n, (∀ i, i < n → p i = q i) → bc p s n = bc q s n
  | 0, _ => rfl
  | n + 1, h => by
    unfold bc
    rw [h n (by omega), bc_cong n (fun i hi => h i (by omega))]
theorem vmk_succ {x : Nat → NdT} {e was z n : Nat} : vmk x e was z (n + 1) = if vv x e was z (n + 1) n = true then vmk x e was z n ||| 2 ^ n else vmk x e was z n := by
  unfold vmk
  show (if vv x e was z (n + 1) n = true then bc (vv x e was z (n + 1)) id n ||| 2 ^ id n else bc (vv x e was z (n + 1)) id n) = _
  rw [show bc (vv x e was z (n + 1)) id n = bc (vv x e was z n) id n from bc_cong n (fun i hi => vv_old hi (by omega))]
  rfl
theorem chd_vmk {x : Nat → NdT} {e was z n m : Nat} {o : Option Nat} (h : ∀ l, o = some l → l < m) (hm : m ≤ n) : chd (vmk x e was z n).testBit o = chd (vv x e was z m) o := by
  cases o with
  | none => rfl
  | some l =>
    have := h l rfl
    show (vmk x e was z n).testBit l = vv x e was z m l
    rw [vmk_bit (by omega), vv_old this hm]
theorem sp_holds {σ : Sg} {x : Nat → NdT} {N e was z n : Nat} {Q : Int32 → Sg → Prop} (hR : Rok x N) (hX : XBt σ x N) (he : e < 4) (hw : was < 2 ^ pbc x N) (hz : z < 2 ^ fbc x N) (hn : n < N) (h : Q (bI (vv x e was z (n + 1) n)) σ) : wp_X6_holds (nI n) (nI e) (nI (was * 2 ^ fbc x N + z)) (nI (vmk x e was z n)) σ Q := by
  obtain ⟨r0, r9, rk, rb⟩ := id hR
  obtain ⟨⟨h6, hx⟩, hs, h7, h8⟩ := hX
  have hbits : was * 2 ^ fbc x N + z < 2 ^ 31 := by
    have h1 : was * 2 ^ fbc x N + z < 2 ^ pbc x N * 2 ^ fbc x N := by
      have : (was + 1) * 2 ^ fbc x N ≤ 2 ^ pbc x N * 2 ^ fbc x N := Nat.mul_le_mul_right _ hw
      rw [Nat.add_mul, Nat.one_mul] at this
      omega
    rw [← Nat.pow_add] at h1
    exact Nat.lt_of_lt_of_le h1 (Nat.pow_le_pow_right (by decide) (by omega))
  obtain ⟨k1, k2, k3⟩ := rk n hn
  obtain ⟨x13, x14, x15⟩ := hx n hn
  have hvl : vmk x e was z n < 2 ^ 31 := Nat.lt_trans (vmk_lt (by omega)) (by decide)
  refine sp_pick (k := n) rfl (by show n < 9; omega) ?_
  rw [x14]
  refine sp_hasBitI (v := vmk x e was z n) rfl hvl rfl (fun l hl => by have := k1 l hl; omega) ?_
  refine sp_pick (k := n) rfl (by show n < 9; omega) ?_
  rw [x15]
  refine sp_hasBitI (v := vmk x e was z n) rfl hvl rfl (fun l hl => by have := k2 l hl; omega) ?_
  refine sp_pick (k := n) rfl (by show n < 9; omega) ?_
  rw [hs n hn]
  have hsl : slt x (fbc x N) n < 60 := by
    by_cases q : (futn x n || pasn x n) = true
    · have := slt_lt hR hn q; omega
    · unfold slt
      rw [Bool.or_eq_true] at q
      rw [if_neg (fun z => q (Or.inl z)), if_neg (fun z => q (Or.inr z))]
      decide
  refine sp_hasBitI (v := was * 2 ^ fbc x N + z) (o := some (slt x (fbc x N) n)) rfl hbits rfl (fun l hl => by cases hl; exact hsl) ?_
  refine sp_pick (k := n) rfl (by show n < 9; omega) ?_
  rw [x13]
  rw [chd_vmk k1 (Nat.le_refl n), chd_vmk k2 (Nat.le_refl n)]
  refine sp_hold k3 he ?_
  have hval : nvl (x n).1 e (chd (vv x e was z n) (x n).2.1) (chd (vv x e was z n) (x n).2.2.1) (chd (was * 2 ^ fbc x N + z).testBit (some (slt x (fbc x N) n))) (chd (was * 2 ^ fbc x N + z).testBit (some (slt x (fbc x N) n))) = vv x e was z (n + 1) n := by
    have e1 : vv x e was z (n + 1) n = nvl (x n).1 e (chd (vv x e was z n) (x n).2.1) (chd (vv x e was z n) (x n).2.2.1) (z.testBit (fbc x n)) (was.testBit (pbc x n)) := by
      show (if n = n then _ else _) = _
      rw [if_pos rfl]
    rw [e1]
    refine nvl_c (fun q => ?_) (fun q => ?_)
    · show (was * 2 ^ fbc x N + z).testBit (slt x (fbc x N) n) = _
      have hq : futn x n = true := q
      unfold slt
      rw [if_pos hq, Nat.mul_comm, Nat.testBit_two_pow_mul_add _ hz, if_pos (fbc_lt hn hq)]
    · show (was * 2 ^ fbc x N + z).testBit (slt x (fbc x N) n) = _
      have hq : pasn x n = true := q
      have hnf : ¬ futn x n = true := by
        intro r
        have := fut_not_pas r
        rw [this] at q; cases q
      unfold slt
      rw [if_neg hnf, if_pos hq, Nat.mul_comm, Nat.testBit_two_pow_mul_add _ hz, if_neg (by omega), Nat.add_sub_cancel_left]
  rw [hval]
  exact h
theorem sp_valuesAt {σ : Sg} {x : Nat → NdT} {N e was z : Nat} {a b : Int32} {Q : Int32 → Sg → Prop} (hR : Rok x N) (hX : XBt σ x N) (he : e < 4) (hw : was < 2 ^ pbc x N) (hz : z < 2 ^ fbc x N) (ha : a = nI e) (hb : b = nI (was * 2 ^ fbc x N + z)) (h : Q (nI (vmk x e was z N)) σ) : wp_X6_valuesAt a b σ Q := by
  subst ha hb
  obtain ⟨r0, r9, rk, rb⟩ := id hR
  have hX0 := hX
  obtain ⟨⟨h6, hx⟩, hs, h7, h8⟩ := hX
  have hbits : was * 2 ^ fbc x N + z < 2 ^ 31 := by
    have h1 : was * 2 ^ fbc x N + z < 2 ^ pbc x N * 2 ^ fbc x N := by
      have : (was + 1) * 2 ^ fbc x N ≤ 2 ^ pbc x N * 2 ^ fbc x N := Nat.mul_le_mul_right _ hw
      rw [Nat.add_mul, Nat.one_mul] at this
      omega
    rw [← Nat.pow_add] at h1
    exact Nat.lt_of_lt_of_le h1 (Nat.pow_le_pow_right (by decide) (by omega))
  refine lq1 (fun g n (v : Nat) => wl_X6_valuesAt_5 (nI e) (nI (was * 2 ^ fbc x N + z)) Q g (nI v) (nI n) σ) (fun n v => v = vmk x e was z n) N ?_ ?_ 0 rfl
  · intro g v hv
    show wb_X6_valuesAt_5 _ _ _ _ _ _ _
    unfold wb_X6_valuesAt_5
    rw [h6, hv]
    exact pk_le N N (fun _ => h) (fun z => by omega)
  · intro g n v hn hv hs2
    show wb_X6_valuesAt_5 _ _ _ _ _ _ _
    unfold wb_X6_valuesAt_5
    rw [h6]
    refine pk_le N n (fun z => by omega) (fun _ => ?_)
    subst hv
    refine sp_holds hR hX0 he hw hz hn ?_
    refine bI_br (fun q => ?_) (fun q => ?_)
    · intro y ey
      rw [ey, nI_add]
      refine hs2 _ ?_
      rw [vmk_succ, q]; rfl
    · intro y ey w ew
      rw [nI1shl (by omega), nIor] at ey
      rw [ey, ew, nI_add]
      refine hs2 _ ?_
      rw [vmk_succ, if_pos q]
theorem sp_bitsBeside {σ : Sg} {x : Nat → NdT} {N e was z : Nat} {a : Int32} {Q : Int32 → Sg → Prop} (hR : Rok x N) (hX : XBt σ x N) (ha : a = nI (vmk x e was z N)) (h : Q (nI (lbm x N e was z * 2 ^ fbc x N + tlm x N e was z)) σ) : wp_X6_bitsBeside a σ Q := by
  subst ha
  obtain ⟨r0, r9, rk, rb⟩ := id hR
  obtain ⟨⟨h6, hx⟩, hs, h7, h8⟩ := hX
  have hb := bc_both (x := x) (N := N) (p := fun i => (futn x i && toldb x (vv x e was z N) i) || (pasn x i && toldb x (vv x e was z N) i)) (pf := fun i => futn x i && toldb x (vv x e was z N) i) (pp := fun i => pasn x i && toldb x (vv x e was z N) i) (fun i _ q => by rw [Bool.and_eq_true] at q; exact q.1) (fun i _ q => by rw [Bool.and_eq_true] at q; exact q.1) (fun i _ => rfl)
  have hb' : bc (fun i => (futn x i && toldb x (vv x e was z N) i) || (pasn x i && toldb x (vv x e was z N) i)) (slt x (fbc x N)) N = lbm x N e was z * 2 ^ fbc x N + tlm x N e was z := hb
  rw [← hb'] at h
  have hvl : vmk x e was z N < 2 ^ 31 := Nat.lt_trans (vmk_lt r9) (by decide)
  refine lq1 (fun g n (v : Nat) => wl_X6_bitsBeside_4 (nI (vmk x e was z N)) Q g (nI v) (nI n) σ) (fun n v => v = bc (fun i => (futn x i && toldb x (vv x e was z N) i) || (pasn x i && toldb x (vv x e was z N) i)) (slt x (fbc x N)) n) N ?_ ?_ 0 rfl
  · intro g v hv
    show wb_X6_bitsBeside_4 _ _ _ _ _ _
    unfold wb_X6_bitsBeside_4
    rw [h6, hv]
    exact pk_le N N (fun _ => h) (fun z => by omega)
  · intro g n v hn hv hs2
    show wb_X6_bitsBeside_4 _ _ _ _ _ _
    unfold wb_X6_bitsBeside_4
    rw [h6]
    obtain ⟨k1, k2, k3⟩ := rk n hn
    obtain ⟨x13, x14, x15⟩ := hx n hn
    have no : ((futn x n && toldb x (vv x e was z N) n) || (pasn x n && toldb x (vv x e was z N) n)) = false → wp_X6_bitsBeside_108 (nI (vmk x e was z N)) (nI v) (nI n) (wl_X6_bitsBeside_4 (nI (vmk x e was z N)) Q g) Q σ := by
      intro q y ey
      rw [ey, nI_add]
      refine hs2 _ ?_
      rw [hv]
      simp only [bc, q, Bool.false_eq_true, if_false]
    have yes : toldb x (vv x e was z N) n = true → (futn x n || pasn x n) = true → wp_X6_bitsBeside_95 (nI (vmk x e was z N)) (nI v) (nI n) (wl_X6_bitsBeside_4 (nI (vmk x e was z N)) Q g) Q σ := by
      intro q q2
      refine sp_pick (k := n) rfl (by show n < 9; omega) ?_
      rw [hs n hn]
      have hsl := slt_lt hR hn q2
      intro y ey w ew
      rw [nI1shl (by omega), nIor] at ey
      rw [ey, ew, nI_add]
      refine hs2 _ ?_
      rw [hv]
      have : ((futn x n && toldb x (vv x e was z N) n) || (pasn x n && toldb x (vv x e was z N) n)) = true := by rw [q, Bool.and_true, Bool.and_true]; exact q2
      simp only [bc, this, if_true]
    have b69 : ∀ o : Option Nat, (∀ l, o = some l → l < N) → chd (vv x e was z N) o = toldb x (vv x e was z N) n → wp_X6_bitsBeside_69 (nI (vmk x e was z N)) (nI v) (nI n) (nI (x n).1) (oI o) (Int32.toInt64 (nI (vmk x e was z N))) (wl_X6_bitsBeside_4 (nI (vmk x e was z N)) Q g) Q σ := by
      intro o ho ht
      refine sp_hasBitI (v := vmk x e was z N) rfl hvl rfl (fun l hl => by have := ho l hl; omega) ?_
      rw [chd_vmk ho (Nat.le_refl N), ht]
      refine bI_br (fun q => no (by rw [q, Bool.and_false, Bool.and_false]; rfl)) (fun q => sp_looksBehind rfl k3 (bI_rb (fun q2 => yes q (by unfold futn; rw [q2]; rfl)) (fun q2 => sp_looksAhead rfl k3 (bI_br (fun q3 => no ?_) (fun q3 => yes q (by unfold pasn; rw [q3, Bool.or_true]))))))
      unfold futn pasn
      rw [q2, q3]; rfl
    refine pk_le N n (fun z => by omega) (fun _ => ?_)
    refine sp_pick (k := n) rfl (by show n < 9; omega) ?_
    rw [x13]
    have part : ((x n).1 = 78 ∨ (x n).1 = 87 ∨ (x n).1 = 89) → wp_X6_bitsBeside_43 (nI (vmk x e was z N)) (nI v) (nI n) (nI (x n).1) (wl_X6_bitsBeside_4 (nI (vmk x e was z N)) Q g) Q σ := by
      intro q
      refine ⟨fun z => absurd z (by decide), fun _ => sp_pick (k := n) rfl (by show n < 9; omega) ?_⟩
      rw [x14]
      refine b69 (x n).2.1 (fun l hl => by have := k1 l hl; omega) ?_
      unfold toldb
      rw [if_pos q]
    refine pk_eq (x n).1 78 (fun q => part (Or.inl q)) (fun n1 => pk_eq (x n).1 87 (fun q => part (Or.inr (Or.inl q))) (fun n2 => (pk_eq (x n).1 89 (fun q => part (Or.inr (Or.inr q))) (fun n3 => ?_)).symm))
    refine ⟨fun _ => ?_, fun z => absurd rfl z⟩
    refine b69 (some n) (fun l hl => by cases hl; exact hn) ?_
    unfold toldb
    rw [if_neg (fun z => z.elim n1 (fun z => z.elim n2 n3))]
    rfl
theorem sp_wholeHolds {σ : Sg} {x : Nat → NdT} {N e was z : Nat} {a : Int32} {Q : Int32 → Sg → Prop} (hR : Rok x N) (h6 : gF σ 2 6 = nI N) (ha : a = nI (vmk x e was z N)) (h : Q (bI (rtm x N e was z)) σ) : wp_X6_wholeHolds a σ Q := by
  subst ha
  obtain ⟨r0, r9, rk, rb⟩ := hR
  unfold wp_X6_wholeHolds
  rw [h6]
  refine pk_le N 0 (fun z => by omega) (fun _ => ?_)
  rw [pk_sub (by omega)]
  have hvl : vmk x e was z N < 2 ^ 31 := Nat.lt_trans (vmk_lt r9) (by decide)
  refine sp_hasBitI (v := vmk x e was z N) (o := some (N - 1)) rfl hvl rfl (fun l hl => by cases hl; omega) ?_
  have e1 : chd (vmk x e was z N).testBit (some (N - 1)) = rtm x N e was z := vmk_bit (by omega)
  rw [e1]
  exact bI_br (fun q => by rw [q] at h; exact h) (fun q => by rw [q] at h; exact h)
