/-! ===== read: the reference's look ===== -/
theorem sp_164 {v1 v2 v3 v4 : Int32} {c e : Nat} {a b z p d : Bool} {K : Int32 → Sg → Prop} {Q : Sg → Prop} {σ : Sg} (hc : c < 256) (hd : d = (decide (c = 46) || decide (c = 97 + e))) (h : wp_X9_look_539 v1 v2 v3 v4 (bI (nvl c e a b z p)) (bI (futS c && (if c = 78 ∨ c = 87 then a else nvl c e a b z p))) (bI (pasS c && (if c = 89 then a else nvl c e a b z p))) K Q σ) : wp_X9_look_164 v1 v2 v3 v4 (nI c) (bI a) (bI b) (bI z) (bI p) (bI d) K Q σ := by
  unfold wp_X9_look_164
  refine pk_eq c 33 (fun q => ?_) (fun n1 => pk_eq c 38 (fun q => ?_) (fun n2 => pk_eq c 47 (fun q => ?_) (fun n4 => pk_eq c 62 (fun q => ?_) (fun n5 => pk_eq c 70 (fun q => ?_) (fun n6 => pk_eq c 71 (fun q => ?_) (fun n7 => pk_eq c 72 (fun q => ?_) (fun n8 => pk_eq c 78 (fun q => ?_) (fun n9 => pk_eq c 79 (fun q => ?_) (fun n10 => pk_eq c 83 (fun q => ?_) (fun n11 => pk_eq c 85 (fun q => ?_) (fun n12 => pk_eq c 87 (fun q => ?_) (fun n13 => pk_eq c 89 (fun q => ?_) (fun n14 => ?_)))))))))))))
  · subst q; clear hd
    exact bI_rb (fun y => by rw [y] at h; exact h) (fun y => by rw [y] at h; exact h)
  · subst q; clear hd
    exact bI_br (fun y => by rw [y] at h; exact h) (fun y => bI_br (fun w => by rw [y, w] at h; exact h) (fun w => by rw [y, w] at h; exact h))
  · subst q; clear hd
    exact bI_rb (fun y => by rw [y] at h; exact h) (fun y => bI_br (fun w => by rw [y, w] at h; exact h) (fun w => by rw [y, w] at h; exact h))
  · subst q; clear hd
    exact bI_br (fun y => by rw [y] at h; exact h) (fun y => bI_br (fun w => by rw [y, w] at h; exact h) (fun w => by rw [y, w] at h; exact h))
  · subst q; clear hd
    exact bI_rb (fun y => by rw [y] at h; exact h) (fun y => bI_br (fun w => by rw [y, w] at h; exact h) (fun w => by rw [y, w] at h; exact h))
  · subst q; clear hd
    exact bI_br (fun y => by rw [y] at h; exact h) (fun y => bI_br (fun w => by rw [y, w] at h; exact h) (fun w => by rw [y, w] at h; exact h))
  · subst q; clear hd
    exact bI_br (fun y => by rw [y] at h; exact h) (fun y => bI_br (fun w => by rw [y, w] at h; exact h) (fun w => by rw [y, w] at h; exact h))
  · subst q; exact h
  · subst q; clear hd
    exact bI_rb (fun y => by rw [y] at h; exact h) (fun y => bI_br (fun w => by rw [y, w] at h; exact h) (fun w => by rw [y, w] at h; exact h))
  · subst q; clear hd
    exact bI_rb (fun y => by rw [y] at h; exact h) (fun y => bI_br (fun w => by rw [y, w] at h; exact h) (fun w => bI_br (fun v => by rw [y, w, v] at h; exact h) (fun v => by rw [y, w, v] at h; exact h)))
  · subst q; clear hd
    exact bI_rb (fun y => by rw [y] at h; exact h) (fun y => bI_br (fun w => by rw [y, w] at h; exact h) (fun w => bI_br (fun v => by rw [y, w, v] at h; exact h) (fun v => by rw [y, w, v] at h; exact h)))
  · subst q; exact h
  · subst q; exact h
  · have e1 : nvl c e a b z p = d := by
      rw [hd]
      unfold nvl
      rw [if_neg n1, if_neg n2, if_neg n4, if_neg n5, if_neg n6, if_neg n7, if_neg n8, if_neg n9, if_neg n10, if_neg n11, if_neg n12, if_neg n13, if_neg n14]
      by_cases q : c = 46
      · rw [if_pos q, decide_eq_true q]; rfl
      · rw [if_neg q, decide_eq_false q]; rfl
    have e2 : futS c = false := by
      unfold futS
      rw [beq_eq_false_iff_ne.mpr n9, beq_eq_false_iff_ne.mpr n13, beq_eq_false_iff_ne.mpr n7, beq_eq_false_iff_ne.mpr n6, beq_eq_false_iff_ne.mpr n12]; rfl
    have e3 : pasS c = false := by
      unfold pasS
      rw [beq_eq_false_iff_ne.mpr n14, beq_eq_false_iff_ne.mpr n8, beq_eq_false_iff_ne.mpr n10, beq_eq_false_iff_ne.mpr n11]; rfl
    rw [e2, e3, e1] at h
    exact h
theorem nvl_z {c e : Nat} {a b z p z' p' : Bool} (hf : futS c = true → z' = z) (hp : pasS c = true → p' = p) : nvl c e a b z' p' = nvl c e a b z p := by
  unfold nvl
  by_cases q1 : c = 70
  · subst q1; rw [hf rfl]; rfl
  by_cases q2 : c = 71
  · subst q2; rw [hf rfl]; rfl
  by_cases q3 : c = 72
  · subst q3; rw [hp rfl]; rfl
  by_cases q4 : c = 78
  · subst q4; rw [hf rfl]; rfl
  by_cases q5 : c = 79
  · subst q5; rw [hp rfl]; rfl
  by_cases q6 : c = 83
  · subst q6; rw [hp rfl]; rfl
  by_cases q7 : c = 85
  · subst q7; rw [hf rfl]; rfl
  by_cases q8 : c = 87
  · subst q8; rw [hf rfl]; rfl
  by_cases q9 : c = 89
  · subst q9; rw [hp rfl]; rfl
  simp only [if_neg q1, if_neg q2, if_neg q3, if_neg q4, if_neg q5, if_neg q6, if_neg q7, if_neg q8, if_neg q9]
theorem bit_sh {z k : Nat} (hz : z < 2 ^ 31) (hk : k < 31) : ((nI z >>> (nI k &&& 31)) &&& nI 1 = nI 1) ↔ z.testBit k = true := by
  have h1 : z / 2 ^ k < 2 ^ 31 := Nat.lt_of_le_of_lt (Nat.div_le_self _ _) hz
  rw [nIshr (by omega) hz, pk_andN (by omega) 1 (by decide), nI_eq (by omega) (by decide), Nat.testBit_eq_decide_div_mod_eq, decide_eq_true_eq, Nat.pow_one]
theorem c97 {c e : Nat} (hc : c < 256) (he : e < 4) : (nI c - nI 97 = nI e) ↔ c = 97 + e := by
  constructor
  · intro h
    have h2 : nI c - nI 97 + nI 97 = nI e + nI 97 := by rw [h]
    rw [Int32.sub_add_cancel, nI_add] at h2
    have := ninj h2 (by omega) (by omega)
    omega
  · intro h
    subst h
    have e1 : nI (97 + e) = nI e + nI 97 := by rw [nI_add, Nat.add_comm]
    rw [e1, Int32.add_sub_cancel]
theorem sp_look2 {σ : Sg} {x : Nat → NdT} {N e was z : Nat} {v1 v2 v3 : Int32} {Q : Sg → Prop} (hR : Rok x N) (hX : MBt σ x N) (he : e < 4) (hw : was < 2 ^ pbc x N) (hz : z < 2 ^ fbc x N) (h1 : v1 = nI e) (h2 : v2 = nI was) (h3 : v3 = nI z) (h : ∀ σ', Fr [10] [57] σ σ' → (∀ k, k ∉ [21, 22] → gF σ' 10 k = gF σ 10 k) → gF σ' 10 21 = nI (lbm x N e was z) → gF σ' 10 22 = nI (tlm x N e was z) → gA σ' 57 (N - 1) = bI (rtm x N e was z) → Q σ') : wp_X9_look v1 v2 v3 σ Q := by
  subst h1 h2 h3
  obtain ⟨r0, r9, rk, rb⟩ := id hR
  obtain ⟨⟨h4, hx⟩, m15, m16, m18, m19, m56⟩ := hX
  have hwl : was < 2 ^ 31 := Nat.lt_of_lt_of_le hw (Nat.pow_le_pow_right (by decide) (by omega))
  have hzl : z < 2 ^ 31 := Nat.lt_of_lt_of_le hz (Nat.pow_le_pow_right (by decide) (by omega))
  intro σ1 e1 σ2 e2
  have f2 : ∀ k, gF σ2 10 k = if k = 22 then nI 0 else if k = 21 then nI 0 else gF σ 10 k := by
    intro k
    rw [e2, gF_stF, if_pos rfl, e1, gF_stF, if_pos rfl]
  have fr2 : Fr [10] [57] σ σ2 := by rw [e2, e1]; exact (Fr.rf.stF (by simp)).stF (by simp)
  clear e1 e2
  refine lq1 (fun g n (τ : Sg) => wl_X9_look_13 (nI e) (nI was) (nI z) Q g (nI n) τ) (fun n τ => Fr [10] [57] σ τ ∧ (∀ k, k ∉ [21, 22] → gF τ 10 k = gF σ 10 k) ∧ gF τ 10 21 = nI (bc (fun i => pasn x i && toldb x (vv x e was z N) i) (pbc x) n) ∧ gF τ 10 22 = nI (bc (fun i => futn x i && toldb x (vv x e was z N) i) (fbc x) n) ∧ ∀ i, i < n → gA τ 57 i = bI (vv x e was z N i)) N ?_ ?_ σ2 ⟨fr2, fun k hk => ?_, by rw [f2, if_neg (by decide), if_pos rfl]; rfl, by rw [f2, if_pos rfl]; rfl, fun i hi => by omega⟩
  · intro g τ ⟨fr, t4, t21, t22, tv⟩
    show wb_X9_look_13 _ _ _ _ _ _ _
    unfold wb_X9_look_13
    rw [t4 4 (by decide), h4]
    exact pk_le N N (fun _ => h τ fr t4 t21 t22 (tv _ (by omega))) (fun z => by omega)
  · intro g n τ hn ⟨fr, t4, t21, t22, tv⟩ hs2
    show wb_X9_look_13 _ _ _ _ _ _ _
    obtain ⟨k1, k2, k3⟩ := rk n hn
    obtain ⟨x48, x49, x50⟩ := hx n hn
    have w9 : vp_in (nI n) 9 := vp_in_nI (by omega) (by decide)
    generalize hVn : vv x e was z N = V at t21 t22 tv hs2
    have hself : V n = nvl (x n).1 e (chd V (x n).2.1) (chd V (x n).2.2.1) (z.testBit (fbc x n)) (was.testBit (pbc x n)) := by
      have e1 : V n = vv x e was z (n + 1) n := by rw [← hVn]; exact vv_old (Nat.lt_succ_self n) (by omega)
      have ch : ∀ o : Option Nat, (∀ l, o = some l → l < n) → chd (vv x e was z n) o = chd V o := by
        intro o ho
        cases o with
        | none => rfl
        | some l =>
          show vv x e was z n l = V l
          rw [← hVn]
          exact (vv_old (ho l rfl) (by omega)).symm
      rw [e1]
      show (if n = n then _ else _) = _
      rw [if_pos rfl, ch _ k1, ch _ k2]
    -- the end of a turn
    have b539 : wp_X9_look_539 (nI e) (nI was) (nI z) (nI n) (bI (V n)) (bI (futn x n && toldb x V n)) (bI (pasn x n && toldb x V n)) (wl_X9_look_13 (nI e) (nI was) (nI z) Q g) Q τ := by
      refine ⟨w9, ?_⟩
      intro τ1 q1
      rw [nar_bI, nI_clamp (by omega)] at q1
      have kF : gF τ1 = gF τ := by rw [q1]; rfl
      have fr1 : Fr [10] [57] σ τ1 := by rw [q1]; exact fr.stA (by simp)
      have a56 : gA τ1 56 = gA σ 56 := fr1.A (by decide)
      have a57 : ∀ i, i < n + 1 → gA τ1 57 i = bI (V i) := by
        intro i hi
        rw [q1, gA_stA, if_pos rfl]
        by_cases r : i = n
        · rw [if_pos r, r]
        · rw [if_neg r]; exact tv i (by omega)
      clear q1
      have b598 : ∀ (u : Nat) (τ2 : Sg), Fr [10] [57] σ τ2 → gA τ2 57 = gA τ1 57 → (∀ k, k ∉ [21, 22] → gF τ2 10 k = gF σ 10 k) → gF τ2 10 21 = gF τ 10 21 → gF τ2 10 22 = nI (bc (fun i => futn x i && toldb x V i) (fbc x) (n + 1)) → u = (if (pasn x n && toldb x V n) = true then 2 ^ pbc x n else 0) → wp_X9_look_598 (nI e) (nI was) (nI z) (nI n) (nI u) (gF τ2 10 21) (wl_X9_look_13 (nI e) (nI was) (nI z) Q g) Q τ2 := by
        intro u τ2 f2 a2 g2 g21 g22 hu τ3 q3 y ey
        rw [g21, t21, nIor] at q3
        rw [ey, nI_add]
        refine hs2 τ3 ⟨by rw [q3]; exact f2.stF (by simp), fun k hk => ?_, ?_, ?_, fun i hi => ?_⟩
        · have hk2 := hk
          simp only [List.mem_cons, List.not_mem_nil, or_false, not_or] at hk2
          rw [q3, gF_stF, if_pos rfl, if_neg hk2.1]
          exact g2 k hk
        · rw [q3, gF_stF, if_pos rfl, if_pos rfl, hu]
          congr 1
          simp only [bc]
          split
          · rfl
          · exact Nat.or_zero _
        · rw [q3, gF_stF, if_pos rfl, if_neg (by decide)]; exact g22
        · rw [q3, gA_stF, a2]; exact a57 i hi
      have b571 : ∀ u : Nat, u = (if (futn x n && toldb x V n) = true then 2 ^ fbc x n else 0) → wp_X9_look_571 (nI e) (nI was) (nI z) (nI n) (bI (pasn x n && toldb x V n)) (nI u) (gF τ1 10 22) (wl_X9_look_13 (nI e) (nI was) (nI z) Q g) Q τ1 := by
        intro u hu τ2 q2
        rw [kF, t22, nIor] at q2
        have g2 : ∀ k, gF τ2 10 k = if k = 22 then nI (bc (fun i => futn x i && toldb x V i) (fbc x) n ||| u) else gF τ 10 k := by
          intro k
          rw [q2, gF_stF, if_pos rfl, kF]
        have f2 : Fr [10] [57] σ τ2 := by rw [q2]; exact fr1.stF (by simp)
        have a2 : gA τ2 = gA τ1 := by rw [q2]; rfl
        have go := fun u hu2 => b598 u τ2 f2 (by rw [a2]) (fun k hk => by
          have hk2 := hk
          simp only [List.mem_cons, List.not_mem_nil, or_false, not_or] at hk2
          rw [g2, if_neg hk2.2]
          exact t4 k hk) (by rw [g2, if_neg (by decide)]) (by
          rw [g2, if_pos rfl, hu]
          congr 1
          simp only [bc]
          split
          · rfl
          · exact Nat.or_zero _) hu2
        refine bI_br (fun q => go 0 (by rw [q]; rfl)) (fun q => ⟨w9, ?_⟩)
        have hp : pasn x n = true := by rw [Bool.and_eq_true] at q; exact q.1
        rw [nI_clamp (by omega), a2, a56, (m56 n hn).2 hp, nI1shl (by have := pbc_lt hn hp; omega)]
        exact go _ (by rw [q]; rfl)
      refine bI_br (fun q => b571 0 (by rw [q]; rfl)) (fun q => ⟨w9, ?_⟩)
      have hf : futn x n = true := by rw [Bool.and_eq_true] at q; exact q.1
      rw [nI_clamp (by omega), a56, (m56 n hn).1 hf, nI1shl (by have := fbc_lt hn hf; omega)]
      exact b571 _ (by rw [q]; rfl)
    have hfut78 : ∀ c, (c = 78 ∨ c = 87) → futS c = true ∧ pasS c = false := by
      intro c q
      rcases q with q | q <;> rw [q] <;> exact ⟨rfl, rfl⟩
    have b164 : ∀ zc pc d : Bool, (futS (x n).1 = true → zc = z.testBit (fbc x n)) → (pasS (x n).1 = true → pc = was.testBit (pbc x n)) → d = (decide ((x n).1 = 46) || decide ((x n).1 = 97 + e)) → wp_X9_look_164 (nI e) (nI was) (nI z) (nI n) (nI (x n).1) (bI (chd V (x n).2.1)) (bI (chd V (x n).2.2.1)) (bI zc) (bI pc) (bI d) (wl_X9_look_13 (nI e) (nI was) (nI z) Q g) Q τ := by
      intro zc pc d hzc hpc hd
      refine sp_164 k3 hd ?_
      have e1 : nvl (x n).1 e (chd V (x n).2.1) (chd V (x n).2.2.1) zc pc = V n := by rw [nvl_z hzc hpc]; exact hself.symm
      rw [e1]
      have e2 : (futS (x n).1 && (if (x n).1 = 78 ∨ (x n).1 = 87 then chd V (x n).2.1 else V n)) = (futn x n && toldb x V n) := by
        unfold futn toldb
        by_cases q : (x n).1 = 78 ∨ (x n).1 = 87
        · rw [if_pos q, if_pos (q.elim Or.inl (fun r => Or.inr (Or.inl r)))]
        · rw [if_neg q]
          by_cases r : (x n).1 = 89
          · have : futS (x n).1 = false := by rw [r]; rfl
            rw [this]; rfl
          · rw [if_neg (fun w => w.elim (fun w => q (Or.inl w)) (fun w => w.elim (fun w => q (Or.inr w)) r))]
      have e3 : (pasS (x n).1 && (if (x n).1 = 89 then chd V (x n).2.1 else V n)) = (pasn x n && toldb x V n) := by
        unfold pasn toldb
        by_cases q : (x n).1 = 89
        · rw [if_pos q, if_pos (Or.inr (Or.inr q))]
        · rw [if_neg q]
          by_cases r : (x n).1 = 78 ∨ (x n).1 = 87
          · rw [(hfut78 _ r).2]; rfl
          · rw [if_neg (fun w => w.elim (fun w => r (Or.inl w)) (fun w => w.elim (fun w => r (Or.inr w)) q))]
      rw [e2, e3]
      exact b539
    have b141 : ∀ zc pc : Bool, (futS (x n).1 = true → zc = z.testBit (fbc x n)) → (pasS (x n).1 = true → pc = was.testBit (pbc x n)) → wp_X9_look_141 (nI e) (nI was) (nI z) (nI n) (nI (x n).1) (bI (chd V (x n).2.1)) (bI (chd V (x n).2.2.1)) (bI zc) (bI pc) (wl_X9_look_13 (nI e) (nI was) (nI z) Q g) Q τ := by
      intro zc pc hzc hpc
      refine pk_eq (x n).1 46 (fun q => b164 zc pc true hzc hpc (by rw [decide_eq_true q]; rfl)) (fun q => ?_)
      rw [c97 k3 he]
      refine ⟨fun r => b164 zc pc false hzc hpc (by rw [decide_eq_false q, decide_eq_false r]; rfl), fun r => b164 zc pc true hzc hpc (by rw [decide_eq_true r, Bool.or_true])⟩
    have b119 : ∀ zc : Bool, (futS (x n).1 = true → zc = z.testBit (fbc x n)) → wp_X9_look_119 (nI e) (nI was) (nI z) (nI n) (nI (x n).1) (bI (chd V (x n).2.1)) (bI (chd V (x n).2.2.1)) (bI zc) (wl_X9_look_13 (nI e) (nI was) (nI z) Q g) Q τ := by
      intro zc hzc
      unfold wp_X9_look_119
      rw [nI_clamp (by omega), fr.A (by decide)]
      have cond : ∀ pc : Bool, (pc = true ↔ ((nI was >>> ((gA σ 56 n) &&& 31)) &&& (nI 1)) = (nI 1)) → pasS (x n).1 = true → pc = was.testBit (pbc x n) := by
        intro pc hpc q
        have hq : pasn x n = true := q
        rw [(m56 n hn).2 hq, bit_sh hwl (by have := pbc_lt hn hq; omega)] at hpc
        cases pc <;> cases hb : was.testBit (pbc x n) <;> simp_all
      refine ⟨w9, fun q => b141 zc false hzc (cond false ⟨fun w => (by cases w), fun w => absurd w q⟩), fun q => b141 zc true hzc (cond true ⟨fun _ => q, fun _ => rfl⟩)⟩
    have b97 : wp_X9_look_97 (nI e) (nI was) (nI z) (nI n) (nI (x n).1) (bI (chd V (x n).2.1)) (bI (chd V (x n).2.2.1)) (wl_X9_look_13 (nI e) (nI was) (nI z) Q g) Q τ := by
      unfold wp_X9_look_97
      rw [nI_clamp (by omega), fr.A (by decide)]
      have cond : ∀ zc : Bool, (zc = true ↔ ((nI z >>> ((gA σ 56 n) &&& 31)) &&& (nI 1)) = (nI 1)) → futS (x n).1 = true → zc = z.testBit (fbc x n) := by
        intro zc hzc q
        have hq : futn x n = true := q
        rw [(m56 n hn).1 hq, bit_sh hzl (by have := fbc_lt hn hq; omega)] at hzc
        cases zc <;> cases hb : z.testBit (fbc x n) <;> simp_all
      refine ⟨w9, fun q => b119 false (cond false ⟨fun w => (by cases w), fun w => absurd w q⟩), fun q => b119 true (cond true ⟨fun _ => q, fun _ => rfl⟩)⟩
    have b63 : wp_X9_look_63 (nI e) (nI was) (nI z) (nI n) (nI (x n).1) (bI (chd V (x n).2.1)) (wl_X9_look_13 (nI e) (nI was) (nI z) Q g) Q τ := by
      unfold wp_X9_look_63
      rw [nI_clamp (by omega), fr.A (by decide), x50]
      refine ⟨w9, ?_⟩
      cases q : (x n).2.2.1 with
      | none =>
        rw [q] at b97
        exact br_t rfl b97
      | some l =>
        rw [q] at b97
        have hl := k2 l q
        rw [oI_some, nI_clamp (by omega), tv l hl]
        refine br_f (ni9 (by omega)) ⟨w9, vp_in_nI (by show l < 9; omega) (by decide), bI_br (fun w => ?_) (fun w => ?_)⟩
        · have : chd V (some l) = false := w
          rw [this] at b97; exact b97
        · have : chd V (some l) = true := w
          rw [this] at b97; exact b97
    unfold wb_X9_look_13
    rw [t4 4 (by decide), h4, nI_clamp (by omega), fr.A (by decide), fr.A (by decide), x48, x49]
    refine pk_le N n (fun z => by omega) (fun _ => ⟨w9, ?_⟩)
    intro x29 e29
    subst e29
    refine ⟨w9, ?_⟩
    cases q : (x n).2.1 with
    | none =>
      rw [q] at b63
      exact br_t rfl b63
    | some l =>
      rw [q] at b63
      have hl := k1 l q
      rw [oI_some, nI_clamp (by omega), tv l hl]
      refine br_f (ni9 (by omega)) ⟨w9, vp_in_nI (by show l < 9; omega) (by decide), bI_br (fun w => ?_) (fun w => ?_)⟩
      · have : chd V (some l) = false := w
        rw [this] at b63; exact b63
      · have : chd V (some l) = true := w
        rw [this] at b63; exact b63
  · simp only [List.mem_cons, List.not_mem_nil, or_false, not_or] at hk
    rw [f2, if_neg hk.2, if_neg hk.1]
