/-! ===== may: the count of bits ===== -/
def rpb (v : Nat) : Nat → Nat
  | 0 => 0
  | k + 1 => 256 * rpb v k + v
def mpb (f : Nat → Nat) : Nat → Nat → Nat
  | 0, _ => 0
  | k + 1, a => 256 * mpb f k (a / 256) + f (a % 256)
theorem and_byte {x u y v : Nat} (hy : y < 256) (hv : v < 256) : (256 * x + y) &&& (256 * u + v) = 256 * (x &&& u) + (y &&& v) := by
  apply Nat.eq_of_testBit_eq
  intro i
  have e : 256 = 2 ^ 8 := rfl
  rw [e, Nat.testBit_and, Nat.testBit_two_pow_mul_add x (by omega), Nat.testBit_two_pow_mul_add u (by omega), Nat.testBit_two_pow_mul_add (x &&& u) (Nat.lt_of_le_of_lt Nat.and_le_left (by omega))]
  by_cases h : i < 8
  · rw [if_pos h, if_pos h, if_pos h, Nat.testBit_and]
  · rw [if_neg h, if_neg h, if_neg h, Nat.testBit_and]
theorem byte_split (a : Nat) : 256 * (a / 256) + a % 256 = a := by omega
def bf1 (r : Nat) : Nat := r - ((r / 2) &&& 0x55)
def bf2 (r : Nat) : Nat := (r &&& 0x33) + ((r / 4) &&& 0x33)
def bf3 (r : Nat) : Nat := (r + r / 16) &&& 0x0f
theorem bm1 : ∀ q, q < 2 → ∀ r, r < 128 → (128 * q + r) &&& 0x55 = r &&& 0x55 := by decide +kernel
theorem bm2 : ∀ q, q < 4 → ∀ r, r < 64 → (64 * q + r) &&& 0x33 = r &&& 0x33 := by decide +kernel
theorem bm3 : ∀ q, q < 16 → ∀ r, r < 256 → r % 16 ≤ 4 → r / 16 ≤ 4 → q ≤ 4 → (r + (16 * q + r / 16)) &&& 0x0f = (r + r / 16) &&& 0x0f := by decide +kernel
theorem bA1 : ∀ k a, a < 256 ^ k → a - ((a / 2) &&& rpb 0x55 k) = mpb bf1 k a ∧ ((a / 2) &&& rpb 0x55 k) ≤ a
  | 0, a, h => by
    have : a = 0 := by
      rw [Nat.pow_zero] at h; omega
    subst this
    exact ⟨rfl, Nat.le_refl 0⟩
  | k + 1, a, h => by
    obtain ⟨h1, h2⟩ := bA1 k (a / 256) (by rw [Nat.pow_succ] at h; omega)
    have e : a / 2 = 256 * (a / 256 / 2) + (128 * (a / 256 % 2) + a % 256 / 2) := by omega
    have e2 : (a / 2) &&& rpb 0x55 (k + 1) = 256 * ((a / 256 / 2) &&& rpb 0x55 k) + ((a % 256 / 2) &&& 0x55) := by
      rw [e]
      show _ &&& (256 * rpb 0x55 k + 0x55) = _
      rw [and_byte (by omega) (by decide), bm1 _ (by omega) _ (by omega)]
    have h3 : (a % 256 / 2) &&& 0x55 ≤ a % 256 / 2 := Nat.and_le_left
    rw [e2]
    show _ = 256 * mpb bf1 k (a / 256) + (a % 256 - ((a % 256 / 2) &&& 0x55)) ∧ _
    rw [← h1]
    omega
theorem mpb_cong {f g : Nat → Nat} (h : ∀ r, r < 256 → f r = g r) : ∀ k a, mpb f k a = mpb g k a
  | 0, _ => rfl
  | k + 1, a => by
    show 256 * mpb f k (a / 256) + f (a % 256) = 256 * mpb g k (a / 256) + g (a % 256)
    rw [mpb_cong h k, h _ (Nat.mod_lt _ (by decide))]
theorem bA2 {f : Nat → Nat} (hf : ∀ r, r < 256 → f r < 256) : ∀ k a, (mpb f k a &&& rpb 0x33 k) + ((mpb f k a / 4) &&& rpb 0x33 k) = mpb (fun r => bf2 (f r)) k a
  | 0, _ => by show (0 &&& 0) + ((0 / 4) &&& 0) = 0; decide
  | k + 1, a => by
    have ih := bA2 hf k (a / 256)
    have hb := hf (a % 256) (Nat.mod_lt _ (by decide))
    have e0 : mpb f (k + 1) a = 256 * mpb f k (a / 256) + f (a % 256) := rfl
    generalize mpb f k (a / 256) = q at ih e0
    have e : (256 * q + f (a % 256)) / 4 = 256 * (q / 4) + (64 * (q % 4) + f (a % 256) / 4) := by omega
    have e1 : rpb 0x33 (k + 1) = 256 * rpb 0x33 k + 0x33 := rfl
    rw [e0, e, e1, and_byte hb (by decide), and_byte (by omega) (by decide), bm2 _ (by omega) _ (by omega)]
    show _ = 256 * mpb (fun r => bf2 (f r)) k (a / 256) + ((f (a % 256) &&& 0x33) + ((f (a % 256) / 4) &&& 0x33))
    rw [← ih]
    omega
theorem mpb_lo {f : Nat → Nat} (hf : ∀ r, r < 256 → f r < 256 ∧ f r % 16 ≤ 4 ∧ f r / 16 ≤ 4) : ∀ k a, mpb f k a % 16 ≤ 4
  | 0, _ => by show 0 % 16 ≤ 4; decide
  | k + 1, a => by
    show (256 * mpb f k (a / 256) + f (a % 256)) % 16 ≤ 4
    have := hf (a % 256) (Nat.mod_lt _ (by decide))
    omega
theorem bA3 {f : Nat → Nat} (hf : ∀ r, r < 256 → f r < 256 ∧ f r % 16 ≤ 4 ∧ f r / 16 ≤ 4) : ∀ k a, (mpb f k a + mpb f k a / 16) &&& rpb 0x0f k = mpb (fun r => bf3 (f r)) k a
  | 0, _ => by show (0 + 0 / 16) &&& 0 = 0; decide
  | k + 1, a => by
    have ih := bA3 hf k (a / 256)
    have hb := hf (a % 256) (Nat.mod_lt _ (by decide))
    have hl := mpb_lo hf k (a / 256)
    have e0 : mpb f (k + 1) a = 256 * mpb f k (a / 256) + f (a % 256) := rfl
    generalize mpb f k (a / 256) = q at ih e0 hl
    have e : (256 * q + f (a % 256)) + (256 * q + f (a % 256)) / 16 = 256 * (q + q / 16) + (f (a % 256) + (16 * (q % 16) + f (a % 256) / 16)) := by omega
    have e1 : rpb 0x0f (k + 1) = 256 * rpb 0x0f k + 0x0f := rfl
    rw [e0, e, e1, and_byte (by omega) (by decide), ih, bm3 _ (by omega) _ hb.1 hb.2.1 hb.2.2 hl]
    rfl
theorem bf12 : ∀ r, r < 256 → bf1 r < 256 ∧ bf2 (bf1 r) < 256 ∧ bf2 (bf1 r) % 16 ≤ 4 ∧ bf2 (bf1 r) / 16 ≤ 4 ∧ bf3 (bf2 (bf1 r)) ≤ 8 ∧ bf3 (bf2 (bf1 r)) = fb_ct r.testBit 8 := by decide +kernel
theorem mpb_lt {f : Nat → Nat} (hf : ∀ r, r < 256 → f r < 256) : ∀ k a, mpb f k a < 256 ^ k
  | 0, _ => by show 0 < 1; decide
  | k + 1, a => by
    have ih := mpb_lt hf k (a / 256)
    have hb := hf (a % 256) (Nat.mod_lt _ (by decide))
    rw [Nat.pow_succ]
    show 256 * mpb f k (a / 256) + f (a % 256) < _
    omega
theorem ct_byte : ∀ k a, fb_ct a.testBit (8 * (k + 1)) = fb_ct (a % 256).testBit 8 + fb_ct (a / 256).testBit (8 * k) := by
  intro k a
  have e : 8 * (k + 1) = 8 + 8 * k := by omega
  rw [e, fb_ct_split]
  congr 1
  · refine fb_ct_cong (fun i hi => ?_)
    have : (256 : Nat) = 2 ^ 8 := rfl
    rw [this, Nat.testBit_mod_two_pow, decide_eq_true hi, Bool.true_and]
  · refine fb_ct_cong (fun i _ => ?_)
    have : (256 : Nat) = 2 ^ 8 := rfl
    rw [this, Nat.testBit_div_two_pow, Nat.add_comm]
def sumb (f : Nat → Nat) : Nat → Nat → Nat
  | 0, _ => 0
  | k + 1, a => f (a % 256) + sumb f k (a / 256)
theorem ct_sum : ∀ k a, fb_ct a.testBit (8 * k) = sumb (fun r => fb_ct r.testBit 8) k a
  | 0, _ => rfl
  | k + 1, a => by rw [ct_byte, ct_sum k]; rfl
theorem fold8l {p0 p1 p2 p3 p4 p5 p6 p7 x : Nat} (l0 : p0 ≤ 8) (l1 : p1 ≤ 8) (l2 : p2 ≤ 8) (l3 : p3 ≤ 8) (l4 : p4 ≤ 8) (l5 : p5 ≤ 8) (l6 : p6 ≤ 8) (l7 : p7 ≤ 8) (hx : x = 256 * (256 * (256 * (256 * (256 * (256 * (256 * p7 + p6) + p5) + p4) + p3) + p2) + p1) + p0) : (x + x / 256 + (x + x / 256) / 65536 + (x + x / 256 + (x + x / 256) / 65536) / 4294967296) % 128 = p0 + (p1 + (p2 + (p3 + (p4 + (p5 + (p6 + p7)))))) ∧ x + x / 256 + (x + x / 256) / 65536 + (x + x / 256 + (x + x / 256) / 65536) / 4294967296 < 2 ^ 64 := by
  have e1 : x / 256 = 256 * (256 * (256 * (256 * (256 * (256 * p7 + p6) + p5) + p4) + p3) + p2) + p1 := by omega
  generalize hy : x + x / 256 = y
  have ey : y = 256 * (256 * (256 * (256 * (256 * (256 * (256 * p7 + (p6 + p7)) + (p5 + p6)) + (p4 + p5)) + (p3 + p4)) + (p2 + p3)) + (p1 + p2)) + (p0 + p1) := by omega
  clear hy e1 hx
  have e2 : y / 65536 = 256 * (256 * (256 * (256 * (256 * p7 + (p6 + p7)) + (p5 + p6)) + (p4 + p5)) + (p3 + p4)) + (p2 + p3) := by omega
  generalize hz : y + y / 65536 = z
  have ez : z = 4294967296 * (256 * (256 * (256 * p7 + (p6 + p7)) + (p5 + p6 + p7)) + (p4 + p5 + p6 + p7)) + (256 * (256 * (256 * (p3 + p4 + p5 + p6) + (p2 + p3 + p4 + p5)) + (p1 + p2 + p3 + p4)) + (p0 + p1 + p2 + p3)) := by omega
  clear hz e2 ey
  have e3 : z / 4294967296 = 256 * (256 * (256 * p7 + (p6 + p7)) + (p5 + p6 + p7)) + (p4 + p5 + p6 + p7) := by omega
  rw [e3]
  omega
theorem fold8 {f : Nat → Nat} (hf : ∀ r, r < 256 → f r ≤ 8) (a : Nat) : ∀ x, x = mpb f 8 a → (x + x / 256 + (x + x / 256) / 65536 + (x + x / 256 + (x + x / 256) / 65536) / 4294967296) % 128 = sumb f 8 a ∧ x + x / 256 + (x + x / 256) / 65536 + (x + x / 256 + (x + x / 256) / 65536) / 4294967296 < 2 ^ 64 := by
  intro x hx
  have l := fun r => hf (r % 256) (Nat.mod_lt _ (by decide))
  simp only [mpb, Nat.mul_zero, Nat.zero_add] at hx
  exact fold8l (l (a)) (l (a / 256)) (l (a / 256 / 256)) (l (a / 256 / 256 / 256)) (l (a / 256 / 256 / 256 / 256)) (l (a / 256 / 256 / 256 / 256 / 256)) (l (a / 256 / 256 / 256 / 256 / 256 / 256)) (l (a / 256 / 256 / 256 / 256 / 256 / 256 / 256)) hx
theorem sp_bitCount {m : Nat} {x : Int64} {σ : Sg} {Q : Int32 → Sg → Prop} (hx : x = lN m) (hm : m < 2 ^ 64) (h : Q (nI (fb_ct m.testBit 64)) σ) : wp_J13_bitCount_95d88 x σ Q := by
  subst hx
  have c5 : (6148914691236517205 : Nat) = rpb 0x55 8 := by decide
  have c3 : (3689348814741910323 : Nat) = rpb 0x33 8 := by decide
  have c0 : (1085102592571150095 : Nat) = rpb 0x0f 8 := by decide
  have p8 : (256 : Nat) ^ 8 = 2 ^ 64 := by decide
  obtain ⟨h1, h2⟩ := bA1 8 m (by rw [p8]; exact hm)
  have l1 : mpb bf1 8 m < 2 ^ 64 := by rw [← p8]; exact mpb_lt (fun r hr => (bf12 r hr).1) 8 m
  have hA2 := bA2 (f := bf1) (fun r hr => (bf12 r hr).1) 8 m
  have l2 : mpb (fun r => bf2 (bf1 r)) 8 m < 2 ^ 64 := by rw [← p8]; exact mpb_lt (fun r hr => (bf12 r hr).2.1) 8 m
  have hA3 := bA3 (f := fun r => bf2 (bf1 r)) (fun r hr => ⟨(bf12 r hr).2.1, (bf12 r hr).2.2.1, (bf12 r hr).2.2.2.1⟩) 8 m
  have hs := fold8 (f := fun r => bf3 (bf2 (bf1 r))) (fun r hr => (bf12 r hr).2.2.2.2.1) m _ rfl
  have hc : fb_ct m.testBit 64 = sumb (fun r => bf3 (bf2 (bf1 r))) 8 m := by
    have e := ct_sum 8 m
    have ex : ∀ k a, sumb (fun r => fb_ct r.testBit 8) k a = sumb (fun r => bf3 (bf2 (bf1 r))) k a := by
      intro k
      induction k with
      | zero => intro a; rfl
      | succ k ih =>
        intro a
        show fb_ct (a % 256).testBit 8 + _ = bf3 (bf2 (bf1 (a % 256))) + _
        rw [ih, (bf12 _ (Nat.mod_lt _ (by decide))).2.2.2.2.2]
    rw [← ex]; exact e
  have l3 : mpb (fun r => bf3 (bf2 (bf1 r))) 8 m < 2 ^ 64 := by
    rw [← p8]; exact mpb_lt (fun r hr => by have := (bf12 r hr).2.2.2.2.1; omega) 8 m
  have shr : ∀ {a k : Nat}, a < 2 ^ 64 → k < 64 → lUSHR (lN a) (nI k) = lN (a / 2 ^ k) := fun ha hk => wb_shr ha hk
  have m5 : rpb 0x55 8 < 2 ^ 64 := by decide
  have m3 : rpb 0x33 8 < 2 ^ 64 := by decide
  have m0 : rpb 0x0f 8 < 2 ^ 64 := by decide
  have d2 : ∀ a : Nat, a < 2 ^ 64 → ∀ j, a / j < 2 ^ 64 := fun a ha j => Nat.lt_of_le_of_lt (Nat.div_le_self _ _) ha
  unfold wp_J13_bitCount_95d88
  rw [c5, c3, c0]
  intro x9 e9
  rw [shr hm (by decide), wb_and (d2 _ hm _) m5, Nat.pow_one, lN_sub h2, h1] at e9
  subst e9
  intro x23 e23
  rw [shr l1 (by decide), wb_and l1 m3, wb_and (d2 _ l1 _) m3, lN_add] at e23
  rw [show (2 : Nat) ^ 2 = 4 from rfl, hA2] at e23
  subst e23
  intro x33 e33
  rw [shr l2 (by decide), lN_add, show (2 : Nat) ^ 4 = 16 from rfl] at e33
  have l2' : mpb (fun r => bf2 (bf1 r)) 8 m + mpb (fun r => bf2 (bf1 r)) 8 m / 16 < 2 ^ 64 := by
    have hb : ∀ k a, mpb (fun r => bf2 (bf1 r)) k a ≤ 68 * mpb (fun _ => 1) k a := by
      intro k
      induction k with
      | zero => intro a; exact Nat.le_refl 0
      | succ k ih =>
        intro a
        have h6 := bf12 (a % 256) (Nat.mod_lt _ (by decide))
        have h7 := ih (a / 256)
        show 256 * mpb (fun r => bf2 (bf1 r)) k (a / 256) + bf2 (bf1 (a % 256)) ≤ 68 * (256 * mpb (fun _ => 1) k (a / 256) + 1)
        omega
    have h8 := hb 8 m
    have h9 : mpb (fun _ => 1) 8 m = 72340172838076673 := by simp [mpb]
    rw [h9] at h8
    omega
  rw [wb_and l2' m0, hA3] at e33
  subst e33
  generalize mpb (fun r => bf3 (bf2 (bf1 r))) 8 m = y at hs l3
  intro x40 e40
  rw [shr l3 (by decide), lN_add, show (2 : Nat) ^ 8 = 256 from rfl] at e40
  subst e40
  intro x47 e47
  rw [shr (by omega) (by decide), lN_add, show (2 : Nat) ^ 16 = 65536 from rfl] at e47
  subst e47
  intro x54 e54
  rw [shr (by omega) (by decide), lN_add, show (2 : Nat) ^ 32 = 4294967296 from rfl] at e54
  subst e54
  obtain ⟨s1, s2⟩ := hs
  generalize y + y / 256 + (y + y / 256) / 65536 + (y + y / 256 + (y + y / 256) / 65536) / 4294967296 = w at s1 s2
  rw [lN_i]
  have e7 : nI w &&& nI 127 = nI (w % 128) := by
    have ew : nI w = nI (w % 2 ^ 32) := by
      apply Int32.toBitVec_inj.mp
      show BitVec.ofNat 32 w = BitVec.ofNat 32 (w % 2 ^ 32)
      apply BitVec.eq_of_toNat_eq
      rw [BitVec.toNat_ofNat, BitVec.toNat_ofNat, Nat.mod_mod]
    rw [ew, pk_andN (Nat.mod_lt _ (by decide)) 7 (by decide)]
    congr 1
    omega
  rw [e7, s1, ← hc]
  exact h
theorem op_may (a0 : Int32) : Both (wp_X8_may a0) (wp_X9_may a0) := by
  intro σ I
  obtain ⟨nb, tp, n, to, vd, ds, mk, n', to', vd', hT, hF, hM, hX, hO, hK, hXk, hMk, hL⟩ := id I
  have hn60 := hM.1
  refine sp_refK hX.1 hM.1 (fun h0 => br_f (by decide) ?_) (fun hn hi => br_f (by decide) ?_) (fun k hn hk e => br_t rfl ?_)
  · exact sp_MrefS hO.2.1 (fun z => by omega) (fun _ => ⟨rfl, I⟩)
  · exact sp_MrefK hO.2.1 hn (by rw [hi]; exact ⟨fun z => absurd rfl z, fun _ => ⟨rfl, I⟩⟩)
  · subst e
    have hKk := hK k hk
    refine sp_pickLong rfl (by show k < 16; exact hk) (sp_bitCount hKk.1 (p64 hKk.2.1 hn60) (sp_MrefK hO.2.1 hn ?_))
    rw [inN_nI (by omega), decide_eq_true hk]
    refine ⟨fun _ => ?_, fun z => absurd z (by decide)⟩
    have ec : ∀ j, fb_ct (mk k).testBit (n + j) = fb_ct (mk k).testBit n := by
      intro j
      induction j with
      | zero => rfl
      | succ j ih =>
        show fb_ct (mk k).testBit (n + j + 1) = _
        rw [fb_ct_succ, bit_out hKk.2.1 (by omega), ih]
        rfl
    have e64 := ec (64 - n)
    rw [show n + (64 - n) = 64 by omega] at e64
    rw [e64]
    refine lq1 (fun f s (a : Nat) => wl_X9_may_23 (nI k) _ f (nI a) (nI s) σ) (fun s a => a = fb_ct (mk k).testBit s) n ?_ ?_ 0 rfl
    · intro f a ha
      show wb_X9_may_23 _ _ _ _ _ _
      unfold wb_X9_may_23
      rw [hO.1]
      refine pk_le n n (fun _ => ⟨by rw [ha], I⟩) (fun z => by omega)
    · intro f s a hs ha hs2
      show wb_X9_may_23 _ _ _ _ _ _
      have i60 : nI 60 * nI k + nI s = nI (60 * k + s) := by rw [pk_mul, nI_add]
      unfold wb_X9_may_23
      rw [hO.1, i60, nI_clamp (by omega), hKk.2.2.2 s (by omega)]
      refine pk_le n s (fun z => by omega) (fun _ => ⟨vp_in_nI (by show _ < 960; omega) (by decide), bI_br (fun hb => ?_) (fun hb => ?_)⟩)
      · intro x ex y ey
        rw [ex, ey, nI_add, nI_add]
        refine hs2 _ ?_
        rw [ha, fb_ct_succ, hb]; rfl
      · intro x ex y ey
        rw [ex, ey, nI_add, nI_add]
        refine hs2 _ ?_
        rw [ha, fb_ct_succ, hb]; rfl
