section
variable {p : Program} {l : Launch} {e : Env} {s : State} {m : MethodId} {args : Array Value} {below : List Frame} {meth : Method} {c : Code} {D : va_G} {cy : Nat → ClassId} {ad : Nat → Nat} {b0 : Nat}
def rm_X1_restart_ : Room := { frames := 1, cells := 0, slots := 0, locals := 23 }
def wp_X1_restart_ (a0 : Int32) (σ : Sg) (Q : Sg → Prop) : Prop :=
  wp_X8_putLong 45 a0 (lN 1) σ (fun σ1 => wp_X8_put 46 a0 (nI 0) σ1 (fun σ2 => Q σ2))
set_option maxHeartbeats 4000000 in
set_option maxRecDepth 100000 in
theorem c_X1_restart_ (l : Launch) (D : va_G) (cy : Nat → ClassId) (ad : Nat → Nat) (b0 : Nat) (hA : AdOk ad b0) (a0 : Int32) : Ctv l D cy ad b0 yX1_restart_ cX1_restart_ 2 none rm_X1_restart_ [.ref (ad 9), .int a0] (fun σ Q => wp_X1_restart_ a0 σ Q) := by
  intro σ Q h
  refine g_enter hA rfl (Nat.le_of_ble_eq_true rfl) [some (.ref (ad 9)), some (.int a0)] rfl ?_
  intro p e s m args below meth c C
  refine g_aload_n C dX1_restart__0 rfl ?_
  refine fget_9_0_X1_9 C rfl dX1_restart__1 ?_
  refine g_iload_n C dX1_restart__4 rfl ?_
  refine g_lconst C dX1_restart__5 kl_1 ?_
  refine g_callNv C [.ref (ad 45), .int a0, .long (lN 1)] (c_X8_putLong l D cy ad b0 C.A 45 a0 (lN 1) (by decide)) cal_X8_putLong nw_23 rfl ⟨Nat.le_of_ble_eq_true rfl, Nat.le_of_ble_eq_true rfl⟩ ⟨rfl, rfl⟩ ⟨Nat.zero_le _, Nat.zero_le _⟩ (Nat.le_of_ble_eq_true rfl) rfl dX1_restart__6 h (fun σ1 h => ?_)
  refine g_aload_n C dX1_restart__9 rfl ?_
  refine fget_9_1_X1_15 C rfl dX1_restart__10 ?_
  refine g_iload_n C dX1_restart__13 rfl ?_
  refine g_iconst C dX1_restart__14 kc_0 ?_
  refine g_callNv C [.ref (ad 46), .int a0, .int (nI 0)] (c_X8_put l D cy ad b0 C.A 46 a0 (nI 0) (by decide)) cal_X8_put nw_24 rfl ⟨Nat.le_of_ble_eq_true rfl, Nat.le_of_ble_eq_true rfl⟩ ⟨rfl, rfl⟩ ⟨Nat.zero_le _, Nat.zero_le _⟩ (Nat.le_of_ble_eq_true rfl) rfl dX1_restart__15 h (fun σ2 h => ?_)
  exact g_vret C dX1_restart__18 h
def rm_X1_restart : Room := { frames := 2, cells := 0, slots := 0, locals := 44 }
def wb_X1_restart_2 (v1 : Int32) (K2 : Int32 → Sg → Prop) (Q : Sg → Prop) (σ : Sg) : Prop :=
  (((nI 16) ≤ v1 → Q σ) ∧ (¬ (nI 16) ≤ v1 → wp_X1_restart_ v1 σ (fun σ1 => ∀ x13 : Int32, x13 = v1 + (nI 1) → (K2 x13 σ1))))
set_option maxHeartbeats 4000000 in
set_option maxRecDepth 100000 in
theorem kb_X1_restart_2 {Q : Sg → Prop} (C : Cx p s m args meth c D cy ad b0 yX1_restart cX1_restart 2 none) (v1 : Int32) (K2 : Int32 → Sg → Prop) (hK2 : ∀ (z1 : Int32) (σ : Sg), K2 z1 σ → gV p l e rm_X1_restart s m args below meth c D cy ad b0 Q 2 2 σ [some (.ref (ad 9)), some (.int z1)] []) (σ : Sg) (h : wb_X1_restart_2 v1 K2 Q σ) : gV p l e rm_X1_restart s m args below meth c D cy ad b0 Q 2 2 σ [some (.ref (ad 9)), some (.int v1)] [] := by
  refine g_iload_n C dX1_restart_2 rfl ?_
  refine g_bipush C dX1_restart_3 kb_16 ?_
  refine g_icmp_ge C 19 dX1_restart_5 (by decide) (fun c5 => ?_) (fun c5 => ?_)
  · have h := h.1 c5
    exact g_vret C dX1_restart_19 h
  · have h := h.2 c5
    refine g_aload_n C dX1_restart_8 rfl ?_
    refine g_iload_n C dX1_restart_9 rfl ?_
    refine g_callVv C 9 [.int v1] (c_X1_restart_ l D cy ad b0 C.A v1) cal_X1_restart_ mw_524 (by decide) rfl rfl ⟨Nat.le_of_ble_eq_true rfl, Nat.le_of_ble_eq_true rfl⟩ ⟨rfl, rfl⟩ ⟨Nat.zero_le _, Nat.zero_le _⟩ (Nat.le_of_ble_eq_true rfl) rfl dX1_restart_10 h (fun σ1 h => ?_)
    obtain ⟨x13, e_x13⟩ : ∃ v : Int32, v = v1 + (nI 1) := ⟨_, rfl⟩
    have h := h x13 e_x13
    refine g_iinc C [some (.ref (ad 9)), some (.int x13)] dX1_restart_13 rfl e_x13.symm (by decide) rfl ?_
    refine g_goto C 2 dX1_restart_16 (by decide) ?_
    exact hK2 x13 σ1 h
def wl_X1_restart_2 (Q : Sg → Prop) : Nat → Int32 → Sg → Prop
  | 0, _, _ => False
  | n + 1, v1, σ => wb_X1_restart_2 v1 (wl_X1_restart_2 Q n) Q σ
set_option maxHeartbeats 4000000 in
set_option maxRecDepth 100000 in
theorem kl_X1_restart_2 {Q : Sg → Prop} (C : Cx p s m args meth c D cy ad b0 yX1_restart cX1_restart 2 none) : ∀ (n : Nat) (v1 : Int32) (σ : Sg), wl_X1_restart_2 Q n v1 σ → gV p l e rm_X1_restart s m args below meth c D cy ad b0 Q 2 2 σ [some (.ref (ad 9)), some (.int v1)] [] := by
  intro n
  induction n with
  | zero => intro v1 σ h; exact False.elim h
  | succ n ih =>
    intro v1 σ h
    exact kb_X1_restart_2 C v1 (wl_X1_restart_2 Q n) (fun z1 σ h => ih z1 σ h) σ h
def wp_X1_restart (σ : Sg) (Q : Sg → Prop) : Prop :=
  ∃ n, wl_X1_restart_2 Q n (nI 0) σ
set_option maxHeartbeats 4000000 in
set_option maxRecDepth 100000 in
theorem c_X1_restart (l : Launch) (D : va_G) (cy : Nat → ClassId) (ad : Nat → Nat) (b0 : Nat) (hA : AdOk ad b0) : Ctv l D cy ad b0 yX1_restart cX1_restart 2 none rm_X1_restart [.ref (ad 9)] (fun σ Q => wp_X1_restart σ Q) := by
  intro σ Q h
  refine g_enter hA rfl (Nat.le_of_ble_eq_true rfl) [some (.ref (ad 9)), none] rfl ?_
  intro p e s m args below meth c C
  refine g_iconst C dX1_restart_0 kc_0 ?_
  refine g_istore_n C [some (.ref (ad 9)), some (.int (nI 0))] dX1_restart_1 (by decide) rfl ?_
  obtain ⟨n, h⟩ := h
  exact kl_X1_restart_2 C n (nI 0) σ h
def rm_X1_stepped : Room := { frames := 2, cells := 0, slots := 0, locals := 43 }
def wp_X1_stepped_38 (v1 : Int64) (v3 : Int32) (v4 : Int64) (v6 : Int32) (K6 : Int64 → Int32 → Sg → Prop) (Q : Int64 → Sg → Prop) (σ : Sg) : Prop :=
  ∀ x38 : Int32, x38 = v6 + (nI 1) → (K6 v4 x38 σ)
set_option maxHeartbeats 4000000 in
set_option maxRecDepth 100000 in
theorem k_X1_stepped_38 {Q : Int64 → Sg → Prop} (C : Cx p s m args meth c D cy ad b0 yX1_stepped cX1_stepped 7 (some .long)) (v1 : Int64) (v3 : Int32) (v4 : Int64) (v6 : Int32) (K6 : Int64 → Int32 → Sg → Prop) (hK6 : ∀ (z4 : Int64) (z6 : Int32) (σ : Sg), K6 z4 z6 σ → gL' p l e rm_X1_stepped s m args below meth c D cy ad b0 Q 7 6 σ [some (.ref (ad 6)), some (.long v1), none, some (.int v3), some (.long z4), none, some (.int z6)] []) (σ : Sg) (h : wp_X1_stepped_38 v1 v3 v4 v6 K6 Q σ) : gL' p l e rm_X1_stepped s m args below meth c D cy ad b0 Q 7 38 σ [some (.ref (ad 6)), some (.long v1), none, some (.int v3), some (.long v4), none, some (.int v6)] [] := by
  obtain ⟨x38, e_x38⟩ : ∃ v : Int32, v = v6 + (nI 1) := ⟨_, rfl⟩
  have h := h x38 e_x38
  refine g_iinc C [some (.ref (ad 6)), some (.long v1), none, some (.int v3), some (.long v4), none, some (.int x38)] dX1_stepped_38 rfl e_x38.symm (by decide) rfl ?_
  refine g_goto C 6 dX1_stepped_41 (by decide) ?_
  exact hK6 v4 x38 σ h
def wb_X1_stepped_6 (v1 : Int64) (v3 : Int32) (v4 : Int64) (v6 : Int32) (K6 : Int64 → Int32 → Sg → Prop) (Q : Int64 → Sg → Prop) (σ : Sg) : Prop :=
  wp_X7_size σ (fun r1 σ2 => ((r1 ≤ v6 → Q v4 σ2) ∧ (¬ r1 ≤ v6 → wp_X8_hasBit v1 v6 σ2 (fun r3 σ4 => ((r3 = (nI 0) → wp_X1_stepped_38 v1 v3 v4 v6 K6 Q σ4) ∧ (¬ r3 = (nI 0) → wp_X7_next v6 v3 σ4 (fun r5 σ6 => ∀ x36 : Int64, x36 = (v4 ||| (lSHL (lN 1) r5)) → (wp_X1_stepped_38 v1 v3 x36 v6 K6 Q σ6))))))))
set_option maxHeartbeats 4000000 in
set_option maxRecDepth 100000 in
theorem kb_X1_stepped_6 {Q : Int64 → Sg → Prop} (C : Cx p s m args meth c D cy ad b0 yX1_stepped cX1_stepped 7 (some .long)) (v1 : Int64) (v3 : Int32) (v4 : Int64) (v6 : Int32) (K6 : Int64 → Int32 → Sg → Prop) (hK6 : ∀ (z4 : Int64) (z6 : Int32) (σ : Sg), K6 z4 z6 σ → gL' p l e rm_X1_stepped s m args below meth c D cy ad b0 Q 7 6 σ [some (.ref (ad 6)), some (.long v1), none, some (.int v3), some (.long z4), none, some (.int z6)] []) (σ : Sg) (h : wb_X1_stepped_6 v1 v3 v4 v6 K6 Q σ) : gL' p l e rm_X1_stepped s m args below meth c D cy ad b0 Q 7 6 σ [some (.ref (ad 6)), some (.long v1), none, some (.int v3), some (.long v4), none, some (.int v6)] [] := by
  refine g_iload C dX1_stepped_6 rfl ?_
  refine g_aload_n C dX1_stepped_8 rfl ?_
  refine g_callVi C 6 [] (c_X7_size l D cy ad b0 C.A) cal_X7_size mw_781 (by decide) rfl rfl ⟨Nat.le_of_ble_eq_true rfl, Nat.le_of_ble_eq_true rfl⟩ ⟨rfl, rfl⟩ ⟨Nat.zero_le _, Nat.zero_le _⟩ (Nat.le_of_ble_eq_true rfl) rfl dX1_stepped_9 h (fun r1 σ2 h => ?_)
  refine g_icmp_ge C 44 dX1_stepped_12 (by decide) (fun c12 => ?_) (fun c12 => ?_)
  · have h := h.1 c12
    refine g_lload C dX1_stepped_44 rfl ?_
    exact g_lret C dX1_stepped_46 h
  · have h := h.2 c12
    refine g_lload_n C dX1_stepped_15 rfl ?_
    refine g_iload C dX1_stepped_16 rfl ?_
    refine g_callNi C [.long v1, .int v6] (c_X8_hasBit l D cy ad b0 C.A v1 v6) cal_X8_hasBit nw_26 rfl ⟨Nat.le_of_ble_eq_true rfl, Nat.le_of_ble_eq_true rfl⟩ ⟨rfl, rfl⟩ ⟨Nat.zero_le _, Nat.zero_le _⟩ (Nat.le_of_ble_eq_true rfl) rfl dX1_stepped_18 h (fun r3 σ4 h => ?_)
    refine g_if_eq C 38 dX1_stepped_21 (by decide) (fun c21 => ?_) (fun c21 => ?_)
    · have h := h.1 c21
      exact k_X1_stepped_38 C v1 v3 v4 v6 K6 hK6 σ4 h
    · have h := h.2 c21
      refine g_lload C dX1_stepped_24 rfl ?_
      refine g_lconst C dX1_stepped_26 kl_1 ?_
      refine g_aload_n C dX1_stepped_27 rfl ?_
      refine g_iload C dX1_stepped_28 rfl ?_
      refine g_iload_n C dX1_stepped_30 rfl ?_
      refine g_callVi C 6 [.int v6, .int v3] (c_X7_next l D cy ad b0 C.A v6 v3) cal_X7_next mw_787 (by decide) rfl rfl ⟨Nat.le_of_ble_eq_true rfl, Nat.le_of_ble_eq_true rfl⟩ ⟨rfl, rfl⟩ ⟨Nat.zero_le _, Nat.zero_le _⟩ (Nat.le_of_ble_eq_true rfl) rfl dX1_stepped_31 h (fun r5 σ6 h => ?_)
      refine g_lshl C dX1_stepped_34 ?_
      refine g_lor C dX1_stepped_35 ?_
      refine g_topl (fun x36 e_x36 => ?_)
      have h := h x36 e_x36
      refine g_lstore C [some (.ref (ad 6)), some (.long v1), none, some (.int v3), some (.long x36), none, some (.int v6)] dX1_stepped_36 (by decide) rfl ?_
      exact k_X1_stepped_38 C v1 v3 x36 v6 K6 hK6 σ6 h
def wl_X1_stepped_6 (v1 : Int64) (v3 : Int32) (Q : Int64 → Sg → Prop) : Nat → Int64 → Int32 → Sg → Prop
  | 0, _, _, _ => False
  | n + 1, v4, v6, σ => wb_X1_stepped_6 v1 v3 v4 v6 (wl_X1_stepped_6 v1 v3 Q n) Q σ
set_option maxHeartbeats 4000000 in
set_option maxRecDepth 100000 in
theorem kl_X1_stepped_6 {Q : Int64 → Sg → Prop} (C : Cx p s m args meth c D cy ad b0 yX1_stepped cX1_stepped 7 (some .long)) (v1 : Int64) (v3 : Int32) : ∀ (n : Nat) (v4 : Int64) (v6 : Int32) (σ : Sg), wl_X1_stepped_6 v1 v3 Q n v4 v6 σ → gL' p l e rm_X1_stepped s m args below meth c D cy ad b0 Q 7 6 σ [some (.ref (ad 6)), some (.long v1), none, some (.int v3), some (.long v4), none, some (.int v6)] [] := by
  intro n
  induction n with
  | zero => intro v4 v6 σ h; exact False.elim h
  | succ n ih =>
    intro v4 v6 σ h
    exact kb_X1_stepped_6 C v1 v3 v4 v6 (wl_X1_stepped_6 v1 v3 Q n) (fun z4 z6 σ h => ih z4 z6 σ h) σ h
def wp_X1_stepped (a1 : Int64) (a2 : Int32) (σ : Sg) (Q : Int64 → Sg → Prop) : Prop :=
  ∃ n, wl_X1_stepped_6 a1 a2 Q n (lN 0) (nI 0) σ
set_option maxHeartbeats 4000000 in
set_option maxRecDepth 100000 in
theorem c_X1_stepped (l : Launch) (D : va_G) (cy : Nat → ClassId) (ad : Nat → Nat) (b0 : Nat) (hA : AdOk ad b0) (a1 : Int64) (a2 : Int32) : Ctl l D cy ad b0 yX1_stepped cX1_stepped 7 (some .long) rm_X1_stepped [.ref (ad 6), .long a1, .int a2] (fun σ Q => wp_X1_stepped a1 a2 σ Q) := by
  intro σ Q h
  refine g_enter hA rfl (Nat.le_of_ble_eq_true rfl) [some (.ref (ad 6)), some (.long a1), none, some (.int a2), none, none, none] rfl ?_
  intro p e s m args below meth c C
  refine g_lconst C dX1_stepped_0 kl_0 ?_
  refine g_lstore C [some (.ref (ad 6)), some (.long a1), none, some (.int a2), some (.long (lN 0)), none, none] dX1_stepped_1 (by decide) rfl ?_
  refine g_iconst C dX1_stepped_3 kc_0 ?_
  refine g_istore C [some (.ref (ad 6)), some (.long a1), none, some (.int a2), some (.long (lN 0)), none, some (.int (nI 0))] dX1_stepped_4 (by decide) rfl ?_
  obtain ⟨n, h⟩ := h
  exact kl_X1_stepped_6 C a1 a2 n (lN 0) (nI 0) σ h
def rm_X1_verdictOf : Room := { frames := 3, cells := 0, slots := 0, locals := 63 }
def wp_X1_verdictOf_139 (v7 : Int32) (Q : Int32 → Sg → Prop) (σ : Sg) : Prop :=
  ((v7 = (nI 0) → Q (nI 0) σ) ∧ (¬ v7 = (nI 0) → Q (nI 1) σ))
set_option maxHeartbeats 4000000 in
set_option maxRecDepth 100000 in
theorem k_X1_verdictOf_139 {Q : Int32 → Sg → Prop} (C : Cx p s m args meth c D cy ad b0 yX1_verdictOf cX1_verdictOf 11 (some .int)) (v7 : Int32) (σ : Sg) (h : wp_X1_verdictOf_139 v7 Q σ) : gI p l e rm_X1_verdictOf s m args below meth c D cy ad b0 Q 11 139 σ [none, none, none, none, none, none, none, some (.int v7), none, none, none] [] := by
  refine g_iload C dX1_verdictOf_139 rfl ?_
  refine g_if_eq C 148 dX1_verdictOf_141 (by decide) (fun c141 => ?_) (fun c141 => ?_)
  · have h := h.1 c141
    refine g_iconst C dX1_verdictOf_148 kc_0 ?_
    exact g_iret C dX1_verdictOf_149 h
  · have h := h.2 c141
    refine g_iconst C dX1_verdictOf_144 kc_1 ?_
    refine g_goto C 149 dX1_verdictOf_145 (by decide) ?_
    exact g_iret C dX1_verdictOf_149 h
def wp_X1_verdictOf_117 (v5 : Int32) (v6 : Int32) (v7 : Int32) (v8 : Int32) (Q : Int32 → Sg → Prop) (σ : Sg) : Prop :=
  ((v6 = (nI 0) → ((v7 = (nI 0) → wp_X1_verdictOf_139 v7 Q σ) ∧ (¬ v7 = (nI 0) → ((v8 = (nI 0) → wp_X1_verdictOf_139 v7 Q σ) ∧ (¬ v8 = (nI 0) → Q (nI 4) σ))))) ∧ (¬ v6 = (nI 0) → Q v5 σ))
set_option maxHeartbeats 4000000 in
set_option maxRecDepth 100000 in
theorem k_X1_verdictOf_117 {Q : Int32 → Sg → Prop} (C : Cx p s m args meth c D cy ad b0 yX1_verdictOf cX1_verdictOf 11 (some .int)) (v5 : Int32) (v6 : Int32) (v7 : Int32) (v8 : Int32) (σ : Sg) (h : wp_X1_verdictOf_117 v5 v6 v7 v8 Q σ) : gI p l e rm_X1_verdictOf s m args below meth c D cy ad b0 Q 11 117 σ [none, none, none, none, none, some (.int v5), some (.int v6), some (.int v7), some (.int v8), none, none] [] := by
  refine g_iload C dX1_verdictOf_117 rfl ?_
  refine g_if_eq C 125 dX1_verdictOf_119 (by decide) (fun c119 => ?_) (fun c119 => ?_)
  · have h := h.1 c119
    refine g_iload C dX1_verdictOf_125 rfl ?_
    refine g_if_eq C 139 dX1_verdictOf_127 (by decide) (fun c127 => ?_) (fun c127 => ?_)
    · have h := h.1 c127
      refine g_mask [false, false, false, false, false, false, false, true, false, false, false] rfl ?_
      exact k_X1_verdictOf_139 C v7 σ h
    · have h := h.2 c127
      refine g_iload C dX1_verdictOf_130 rfl ?_
      refine g_if_eq C 139 dX1_verdictOf_132 (by decide) (fun c132 => ?_) (fun c132 => ?_)
      · have h := h.1 c132
        refine g_mask [false, false, false, false, false, false, false, true, false, false, false] rfl ?_
        exact k_X1_verdictOf_139 C v7 σ h
      · have h := h.2 c132
        refine g_iconst C dX1_verdictOf_135 kc_4 ?_
        refine g_goto C 149 dX1_verdictOf_136 (by decide) ?_
        exact g_iret C dX1_verdictOf_149 h
  · have h := h.2 c119
    refine g_iload C dX1_verdictOf_122 rfl ?_
    exact g_iret C dX1_verdictOf_124 h
def wp_X1_verdictOf_111 (v3 : Int64) (v5 : Int32) (v6 : Int32) (v7 : Int32) (v8 : Int32) (v9 : Int32) (K25 : Int32 → Int32 → Int32 → Int32 → Int32 → Sg → Prop) (Q : Int32 → Sg → Prop) (σ : Sg) : Prop :=
  ∀ x111 : Int32, x111 = v9 + (nI 1) → (K25 v5 v6 v7 v8 x111 σ)
set_option maxHeartbeats 4000000 in
set_option maxRecDepth 100000 in
theorem k_X1_verdictOf_111 {Q : Int32 → Sg → Prop} (C : Cx p s m args meth c D cy ad b0 yX1_verdictOf cX1_verdictOf 11 (some .int)) (v3 : Int64) (v5 : Int32) (v6 : Int32) (v7 : Int32) (v8 : Int32) (v9 : Int32) (K25 : Int32 → Int32 → Int32 → Int32 → Int32 → Sg → Prop) (hK25 : ∀ (z5 : Int32) (z6 : Int32) (z7 : Int32) (z8 : Int32) (z9 : Int32) (σ : Sg), K25 z5 z6 z7 z8 z9 σ → gI p l e rm_X1_verdictOf s m args below meth c D cy ad b0 Q 11 25 σ [none, some (.ref (ad 6)), none, some (.long v3), none, some (.int z5), some (.int z6), some (.int z7), some (.int z8), some (.int z9), none] []) (σ : Sg) (h : wp_X1_verdictOf_111 v3 v5 v6 v7 v8 v9 K25 Q σ) : gI p l e rm_X1_verdictOf s m args below meth c D cy ad b0 Q 11 111 σ [none, some (.ref (ad 6)), none, some (.long v3), none, some (.int v5), some (.int v6), some (.int v7), some (.int v8), some (.int v9), none] [] := by
  obtain ⟨x111, e_x111⟩ : ∃ v : Int32, v = v9 + (nI 1) := ⟨_, rfl⟩
  have h := h x111 e_x111
  refine g_iinc C [none, some (.ref (ad 6)), none, some (.long v3), none, some (.int v5), some (.int v6), some (.int v7), some (.int v8), some (.int x111), none] dX1_verdictOf_111 rfl e_x111.symm (by decide) rfl ?_
  refine g_goto C 25 dX1_verdictOf_114 (by decide) ?_
  exact hK25 v5 v6 v7 v8 x111 σ h
def wp_X1_verdictOf_108 (v3 : Int64) (v5 : Int32) (v6 : Int32) (v7 : Int32) (v9 : Int32) (s0 : Int32) (s1 : Int32) (K25 : Int32 → Int32 → Int32 → Int32 → Int32 → Sg → Prop) (Q : Int32 → Sg → Prop) (σ : Sg) : Prop :=
  ∀ x109 : Int32, x109 = (s1 ||| s0) → (wp_X1_verdictOf_111 v3 v5 v6 v7 x109 v9 K25 Q σ)
set_option maxHeartbeats 4000000 in
set_option maxRecDepth 100000 in
theorem k_X1_verdictOf_108 {Q : Int32 → Sg → Prop} (C : Cx p s m args meth c D cy ad b0 yX1_verdictOf cX1_verdictOf 11 (some .int)) (v3 : Int64) (v5 : Int32) (v6 : Int32) (v7 : Int32) (v9 : Int32) (s0 : Int32) (s1 : Int32) (K25 : Int32 → Int32 → Int32 → Int32 → Int32 → Sg → Prop) (hK25 : ∀ (z5 : Int32) (z6 : Int32) (z7 : Int32) (z8 : Int32) (z9 : Int32) (σ : Sg), K25 z5 z6 z7 z8 z9 σ → gI p l e rm_X1_verdictOf s m args below meth c D cy ad b0 Q 11 25 σ [none, some (.ref (ad 6)), none, some (.long v3), none, some (.int z5), some (.int z6), some (.int z7), some (.int z8), some (.int z9), none] []) (σ : Sg) (h : wp_X1_verdictOf_108 v3 v5 v6 v7 v9 s0 s1 K25 Q σ) : gI p l e rm_X1_verdictOf s m args below meth c D cy ad b0 Q 11 108 σ [none, some (.ref (ad 6)), none, some (.long v3), none, some (.int v5), some (.int v6), some (.int v7), none, some (.int v9), none] [.int s0, .int s1] := by
  refine g_ior C dX1_verdictOf_108 ?_
  refine g_topi (fun x109 e_x109 => ?_)
  have h := h x109 e_x109
  refine g_istore C [none, some (.ref (ad 6)), none, some (.long v3), none, some (.int v5), some (.int v6), some (.int v7), some (.int x109), some (.int v9), none] dX1_verdictOf_109 (by decide) rfl ?_
  exact k_X1_verdictOf_111 C v3 v5 v6 v7 x109 v9 K25 hK25 σ h
def wp_X1_verdictOf_75 (v3 : Int64) (v7 : Int32) (v8 : Int32) (v9 : Int32) (v10 : Int32) (s0 : Int32) (K25 : Int32 → Int32 → Int32 → Int32 → Int32 → Sg → Prop) (Q : Int32 → Sg → Prop) (σ : Sg) : Prop :=
  wp_X7_keeps v9 σ (fun r1 σ2 => ∀ x90 : Int32, x90 = (v7 ||| r1) → (wp_X7_keeps v9 σ2 (fun r3 σ4 => ((¬ r3 = (nI 0) → wp_X1_verdictOf_108 v3 v10 s0 x90 v9 (nI 0) v8 K25 Q σ4) ∧ (r3 = (nI 0) → wp_X1_verdictOf_108 v3 v10 s0 x90 v9 (nI 1) v8 K25 Q σ4)))))
set_option maxHeartbeats 4000000 in
set_option maxRecDepth 100000 in
theorem k_X1_verdictOf_75 {Q : Int32 → Sg → Prop} (C : Cx p s m args meth c D cy ad b0 yX1_verdictOf cX1_verdictOf 11 (some .int)) (v3 : Int64) (v7 : Int32) (v8 : Int32) (v9 : Int32) (v10 : Int32) (s0 : Int32) (K25 : Int32 → Int32 → Int32 → Int32 → Int32 → Sg → Prop) (hK25 : ∀ (z5 : Int32) (z6 : Int32) (z7 : Int32) (z8 : Int32) (z9 : Int32) (σ : Sg), K25 z5 z6 z7 z8 z9 σ → gI p l e rm_X1_verdictOf s m args below meth c D cy ad b0 Q 11 25 σ [none, some (.ref (ad 6)), none, some (.long v3), none, some (.int z5), some (.int z6), some (.int z7), some (.int z8), some (.int z9), none] []) (σ : Sg) (h : wp_X1_verdictOf_75 v3 v7 v8 v9 v10 s0 K25 Q σ) : gI p l e rm_X1_verdictOf s m args below meth c D cy ad b0 Q 11 75 σ [none, some (.ref (ad 6)), none, some (.long v3), none, none, none, some (.int v7), some (.int v8), some (.int v9), some (.int v10)] [.int s0] := by
  refine g_istore C [none, some (.ref (ad 6)), none, some (.long v3), none, none, some (.int s0), some (.int v7), some (.int v8), some (.int v9), some (.int v10)] dX1_verdictOf_75 (by decide) rfl ?_
  refine g_iload C dX1_verdictOf_77 rfl ?_
  refine g_istore C [none, some (.ref (ad 6)), none, some (.long v3), none, some (.int v10), some (.int s0), some (.int v7), some (.int v8), some (.int v9), some (.int v10)] dX1_verdictOf_79 (by decide) rfl ?_
  refine g_iload C dX1_verdictOf_81 rfl ?_
  refine g_aload_n C dX1_verdictOf_83 rfl ?_
  refine g_iload C dX1_verdictOf_84 rfl ?_
  refine g_callVi C 6 [.int v9] (c_X7_keeps l D cy ad b0 C.A v9) cal_X7_keeps mw_783 (by decide) rfl rfl ⟨Nat.le_of_ble_eq_true rfl, Nat.le_of_ble_eq_true rfl⟩ ⟨rfl, rfl⟩ ⟨Nat.zero_le _, Nat.zero_le _⟩ (Nat.le_of_ble_eq_true rfl) rfl dX1_verdictOf_86 h (fun r1 σ2 h => ?_)
  refine g_ior C dX1_verdictOf_89 ?_
  refine g_topi (fun x90 e_x90 => ?_)
  have h := h x90 e_x90
  refine g_istore C [none, some (.ref (ad 6)), none, some (.long v3), none, some (.int v10), some (.int s0), some (.int x90), some (.int v8), some (.int v9), some (.int v10)] dX1_verdictOf_90 (by decide) rfl ?_
  refine g_iload C dX1_verdictOf_92 rfl ?_
  refine g_aload_n C dX1_verdictOf_94 rfl ?_
  refine g_iload C dX1_verdictOf_95 rfl ?_
  refine g_callVi C 6 [.int v9] (c_X7_keeps l D cy ad b0 C.A v9) cal_X7_keeps mw_783 (by decide) rfl rfl ⟨Nat.le_of_ble_eq_true rfl, Nat.le_of_ble_eq_true rfl⟩ ⟨rfl, rfl⟩ ⟨Nat.zero_le _, Nat.zero_le _⟩ (Nat.le_of_ble_eq_true rfl) rfl dX1_verdictOf_97 h (fun r3 σ4 h => ?_)
  refine g_if_ne C 107 dX1_verdictOf_100 (by decide) (fun c100 => ?_) (fun c100 => ?_)
  · have h := h.1 c100
    refine g_iconst C dX1_verdictOf_107 kc_0 ?_
    refine g_mask [false, true, false, true, false, true, true, true, false, true, false] rfl ?_
    exact k_X1_verdictOf_108 C v3 v10 s0 x90 v9 (nI 0) v8 K25 hK25 σ4 h
  · have h := h.2 c100
    refine g_iconst C dX1_verdictOf_103 kc_1 ?_
    refine g_goto C 108 dX1_verdictOf_104 (by decide) ?_
    refine g_mask [false, true, false, true, false, true, true, true, false, true, false] rfl ?_
    exact k_X1_verdictOf_108 C v3 v10 s0 x90 v9 (nI 1) v8 K25 hK25 σ4 h
def wp_X1_verdictOf_74 (v3 : Int64) (v7 : Int32) (v8 : Int32) (v9 : Int32) (v10 : Int32) (K25 : Int32 → Int32 → Int32 → Int32 → Int32 → Sg → Prop) (Q : Int32 → Sg → Prop) (σ : Sg) : Prop :=
  wp_X1_verdictOf_75 v3 v7 v8 v9 v10 (nI 0) K25 Q σ
set_option maxHeartbeats 4000000 in
set_option maxRecDepth 100000 in
theorem k_X1_verdictOf_74 {Q : Int32 → Sg → Prop} (C : Cx p s m args meth c D cy ad b0 yX1_verdictOf cX1_verdictOf 11 (some .int)) (v3 : Int64) (v7 : Int32) (v8 : Int32) (v9 : Int32) (v10 : Int32) (K25 : Int32 → Int32 → Int32 → Int32 → Int32 → Sg → Prop) (hK25 : ∀ (z5 : Int32) (z6 : Int32) (z7 : Int32) (z8 : Int32) (z9 : Int32) (σ : Sg), K25 z5 z6 z7 z8 z9 σ → gI p l e rm_X1_verdictOf s m args below meth c D cy ad b0 Q 11 25 σ [none, some (.ref (ad 6)), none, some (.long v3), none, some (.int z5), some (.int z6), some (.int z7), some (.int z8), some (.int z9), none] []) (σ : Sg) (h : wp_X1_verdictOf_74 v3 v7 v8 v9 v10 K25 Q σ) : gI p l e rm_X1_verdictOf s m args below meth c D cy ad b0 Q 11 74 σ [none, some (.ref (ad 6)), none, some (.long v3), none, none, none, some (.int v7), some (.int v8), some (.int v9), some (.int v10)] [] := by
  refine g_iconst C dX1_verdictOf_74 kc_0 ?_
  exact k_X1_verdictOf_75 C v3 v7 v8 v9 v10 (nI 0) K25 hK25 σ h
def wp_X1_verdictOf_70 (v3 : Int64) (v7 : Int32) (v8 : Int32) (v9 : Int32) (v10 : Int32) (K25 : Int32 → Int32 → Int32 → Int32 → Int32 → Sg → Prop) (Q : Int32 → Sg → Prop) (σ : Sg) : Prop :=
  wp_X1_verdictOf_75 v3 v7 v8 v9 v10 (nI 1) K25 Q σ
set_option maxHeartbeats 4000000 in
set_option maxRecDepth 100000 in
theorem k_X1_verdictOf_70 {Q : Int32 → Sg → Prop} (C : Cx p s m args meth c D cy ad b0 yX1_verdictOf cX1_verdictOf 11 (some .int)) (v3 : Int64) (v7 : Int32) (v8 : Int32) (v9 : Int32) (v10 : Int32) (K25 : Int32 → Int32 → Int32 → Int32 → Int32 → Sg → Prop) (hK25 : ∀ (z5 : Int32) (z6 : Int32) (z7 : Int32) (z8 : Int32) (z9 : Int32) (σ : Sg), K25 z5 z6 z7 z8 z9 σ → gI p l e rm_X1_verdictOf s m args below meth c D cy ad b0 Q 11 25 σ [none, some (.ref (ad 6)), none, some (.long v3), none, some (.int z5), some (.int z6), some (.int z7), some (.int z8), some (.int z9), none] []) (σ : Sg) (h : wp_X1_verdictOf_70 v3 v7 v8 v9 v10 K25 Q σ) : gI p l e rm_X1_verdictOf s m args below meth c D cy ad b0 Q 11 70 σ [none, some (.ref (ad 6)), none, some (.long v3), none, none, none, some (.int v7), some (.int v8), some (.int v9), some (.int v10)] [] := by
  refine g_iconst C dX1_verdictOf_70 kc_1 ?_
  refine g_goto C 75 dX1_verdictOf_71 (by decide) ?_
  exact k_X1_verdictOf_75 C v3 v7 v8 v9 v10 (nI 1) K25 hK25 σ h
def wb_X1_verdictOf_25 (v3 : Int64) (v5 : Int32) (v6 : Int32) (v7 : Int32) (v8 : Int32) (v9 : Int32) (K25 : Int32 → Int32 → Int32 → Int32 → Int32 → Sg → Prop) (K117 : Int32 → Int32 → Int32 → Int32 → Sg → Prop) (Q : Int32 → Sg → Prop) (σ : Sg) : Prop :=
  wp_X7_size σ (fun r1 σ2 => ((r1 ≤ v9 → K117 v5 v6 v7 v8 σ2) ∧ (¬ r1 ≤ v9 → wp_X8_hasBit v3 v9 σ2 (fun r3 σ4 => ((r3 = (nI 0) → wp_X1_verdictOf_111 v3 v5 v6 v7 v8 v9 K25 Q σ4) ∧ (¬ r3 = (nI 0) → wp_X7_verdictOf v9 σ4 (fun r5 σ6 => ((v6 = (nI 0) → wp_X1_verdictOf_74 v3 v7 v8 v9 r5 K25 Q σ6) ∧ (¬ v6 = (nI 0) → ((v5 = (-9 : Int32) → wp_X1_verdictOf_70 v3 v7 v8 v9 r5 K25 Q σ6) ∧ (¬ v5 = (-9 : Int32) → ((¬ v5 = r5 → wp_X1_verdictOf_74 v3 v7 v8 v9 r5 K25 Q σ6) ∧ (v5 = r5 → wp_X1_verdictOf_70 v3 v7 v8 v9 r5 K25 Q σ6)))))))))))))
set_option maxHeartbeats 4000000 in
set_option maxRecDepth 100000 in
theorem kb_X1_verdictOf_25 {Q : Int32 → Sg → Prop} (C : Cx p s m args meth c D cy ad b0 yX1_verdictOf cX1_verdictOf 11 (some .int)) (v3 : Int64) (v5 : Int32) (v6 : Int32) (v7 : Int32) (v8 : Int32) (v9 : Int32) (K25 : Int32 → Int32 → Int32 → Int32 → Int32 → Sg → Prop) (K117 : Int32 → Int32 → Int32 → Int32 → Sg → Prop) (hK25 : ∀ (z5 : Int32) (z6 : Int32) (z7 : Int32) (z8 : Int32) (z9 : Int32) (σ : Sg), K25 z5 z6 z7 z8 z9 σ → gI p l e rm_X1_verdictOf s m args below meth c D cy ad b0 Q 11 25 σ [none, some (.ref (ad 6)), none, some (.long v3), none, some (.int z5), some (.int z6), some (.int z7), some (.int z8), some (.int z9), none] []) (hK117 : ∀ (z5 : Int32) (z6 : Int32) (z7 : Int32) (z8 : Int32) (σ : Sg), K117 z5 z6 z7 z8 σ → gI p l e rm_X1_verdictOf s m args below meth c D cy ad b0 Q 11 117 σ [none, none, none, none, none, some (.int z5), some (.int z6), some (.int z7), some (.int z8), none, none] []) (σ : Sg) (h : wb_X1_verdictOf_25 v3 v5 v6 v7 v8 v9 K25 K117 Q σ) : gI p l e rm_X1_verdictOf s m args below meth c D cy ad b0 Q 11 25 σ [none, some (.ref (ad 6)), none, some (.long v3), none, some (.int v5), some (.int v6), some (.int v7), some (.int v8), some (.int v9), none] [] := by
  refine g_iload C dX1_verdictOf_25 rfl ?_
  refine g_aload_n C dX1_verdictOf_27 rfl ?_
  refine g_callVi C 6 [] (c_X7_size l D cy ad b0 C.A) cal_X7_size mw_781 (by decide) rfl rfl ⟨Nat.le_of_ble_eq_true rfl, Nat.le_of_ble_eq_true rfl⟩ ⟨rfl, rfl⟩ ⟨Nat.zero_le _, Nat.zero_le _⟩ (Nat.le_of_ble_eq_true rfl) rfl dX1_verdictOf_28 h (fun r1 σ2 h => ?_)
  refine g_icmp_ge C 117 dX1_verdictOf_31 (by decide) (fun c31 => ?_) (fun c31 => ?_)
  · have h := h.1 c31
    refine g_mask [false, false, false, false, false, true, true, true, true, false, false] rfl ?_
    exact hK117 v5 v6 v7 v8 σ2 h
  · have h := h.2 c31
    refine g_lload_n C dX1_verdictOf_34 rfl ?_
    refine g_iload C dX1_verdictOf_35 rfl ?_
    refine g_callNi C [.long v3, .int v9] (c_X8_hasBit l D cy ad b0 C.A v3 v9) cal_X8_hasBit nw_26 rfl ⟨Nat.le_of_ble_eq_true rfl, Nat.le_of_ble_eq_true rfl⟩ ⟨rfl, rfl⟩ ⟨Nat.zero_le _, Nat.zero_le _⟩ (Nat.le_of_ble_eq_true rfl) rfl dX1_verdictOf_37 h (fun r3 σ4 h => ?_)
    refine g_if_eq C 111 dX1_verdictOf_40 (by decide) (fun c40 => ?_) (fun c40 => ?_)
    · have h := h.1 c40
      exact k_X1_verdictOf_111 C v3 v5 v6 v7 v8 v9 K25 hK25 σ4 h
    · have h := h.2 c40
      refine g_aload_n C dX1_verdictOf_43 rfl ?_
      refine g_iload C dX1_verdictOf_44 rfl ?_
      refine g_callVi C 6 [.int v9] (c_X7_verdictOf l D cy ad b0 C.A v9) cal_X7_verdictOf mw_782 (by decide) rfl rfl ⟨Nat.le_of_ble_eq_true rfl, Nat.le_of_ble_eq_true rfl⟩ ⟨rfl, rfl⟩ ⟨Nat.zero_le _, Nat.zero_le _⟩ (Nat.le_of_ble_eq_true rfl) rfl dX1_verdictOf_46 h (fun r5 σ6 h => ?_)
      refine g_istore C [none, some (.ref (ad 6)), none, some (.long v3), none, some (.int v5), some (.int v6), some (.int v7), some (.int v8), some (.int v9), some (.int r5)] dX1_verdictOf_49 (by decide) rfl ?_
      refine g_iload C dX1_verdictOf_51 rfl ?_
      refine g_if_eq C 74 dX1_verdictOf_53 (by decide) (fun c53 => ?_) (fun c53 => ?_)
      · have h := h.1 c53
        refine g_mask [false, true, false, true, false, false, false, true, true, true, true] rfl ?_
        exact k_X1_verdictOf_74 C v3 v7 v8 v9 r5 K25 hK25 σ6 h
      · have h := h.2 c53
        refine g_iload C dX1_verdictOf_56 rfl ?_
        refine g_bipush C dX1_verdictOf_58 kb_m9 ?_
        refine g_icmp_eq C 70 dX1_verdictOf_60 (by decide) (fun c60 => ?_) (fun c60 => ?_)
        · have h := h.1 c60
          refine g_mask [false, true, false, true, false, false, false, true, true, true, true] rfl ?_
          exact k_X1_verdictOf_70 C v3 v7 v8 v9 r5 K25 hK25 σ6 h
        · have h := h.2 c60
          refine g_iload C dX1_verdictOf_63 rfl ?_
          refine g_iload C dX1_verdictOf_65 rfl ?_
          refine g_icmp_ne C 74 dX1_verdictOf_67 (by decide) (fun c67 => ?_) (fun c67 => ?_)
          · have h := h.1 c67
            refine g_mask [false, true, false, true, false, false, false, true, true, true, true] rfl ?_
            exact k_X1_verdictOf_74 C v3 v7 v8 v9 r5 K25 hK25 σ6 h
          · have h := h.2 c67
            refine g_mask [false, true, false, true, false, false, false, true, true, true, true] rfl ?_
            exact k_X1_verdictOf_70 C v3 v7 v8 v9 r5 K25 hK25 σ6 h
def wl_X1_verdictOf_25 (v3 : Int64) (K117 : Int32 → Int32 → Int32 → Int32 → Sg → Prop) (Q : Int32 → Sg → Prop) : Nat → Int32 → Int32 → Int32 → Int32 → Int32 → Sg → Prop
  | 0, _, _, _, _, _, _ => False
  | n + 1, v5, v6, v7, v8, v9, σ => wb_X1_verdictOf_25 v3 v5 v6 v7 v8 v9 (wl_X1_verdictOf_25 v3 K117 Q n) K117 Q σ
set_option maxHeartbeats 4000000 in
set_option maxRecDepth 100000 in
theorem kl_X1_verdictOf_25 {Q : Int32 → Sg → Prop} (C : Cx p s m args meth c D cy ad b0 yX1_verdictOf cX1_verdictOf 11 (some .int)) (v3 : Int64) (K117 : Int32 → Int32 → Int32 → Int32 → Sg → Prop) (hK117 : ∀ (z5 : Int32) (z6 : Int32) (z7 : Int32) (z8 : Int32) (σ : Sg), K117 z5 z6 z7 z8 σ → gI p l e rm_X1_verdictOf s m args below meth c D cy ad b0 Q 11 117 σ [none, none, none, none, none, some (.int z5), some (.int z6), some (.int z7), some (.int z8), none, none] []) : ∀ (n : Nat) (v5 : Int32) (v6 : Int32) (v7 : Int32) (v8 : Int32) (v9 : Int32) (σ : Sg), wl_X1_verdictOf_25 v3 K117 Q n v5 v6 v7 v8 v9 σ → gI p l e rm_X1_verdictOf s m args below meth c D cy ad b0 Q 11 25 σ [none, some (.ref (ad 6)), none, some (.long v3), none, some (.int v5), some (.int v6), some (.int v7), some (.int v8), some (.int v9), none] [] := by
  intro n
  induction n with
  | zero => intro v5 v6 v7 v8 v9 σ h; exact False.elim h
  | succ n ih =>
    intro v5 v6 v7 v8 v9 σ h
    exact kb_X1_verdictOf_25 C v3 v5 v6 v7 v8 v9 (wl_X1_verdictOf_25 v3 K117 Q n) K117 (fun z5 z6 z7 z8 z9 σ h => ih z5 z6 z7 z8 z9 σ h) hK117 σ h
def wp_X1_verdictOf (a1 : Int32) (σ : Sg) (Q : Int32 → Sg → Prop) : Prop :=
  wp_X8_pickLong 45 a1 σ (fun r1 σ2 => ∃ n, wl_X1_verdictOf_25 r1 (fun z5 z6 z7 z8 σ9 => wp_X1_verdictOf_117 z5 z6 z7 z8 Q σ9) Q n (-9 : Int32) (nI 1) (nI 0) (nI 0) (nI 0) σ2)
set_option maxHeartbeats 4000000 in
set_option maxRecDepth 100000 in
theorem c_X1_verdictOf (l : Launch) (D : va_G) (cy : Nat → ClassId) (ad : Nat → Nat) (b0 : Nat) (hA : AdOk ad b0) (a1 : Int32) : Cti l D cy ad b0 yX1_verdictOf cX1_verdictOf 11 (some .int) rm_X1_verdictOf [.ref (ad 9), .ref (ad 6), .int a1] (fun σ Q => wp_X1_verdictOf a1 σ Q) := by
  intro σ Q h
  refine g_enter hA rfl (Nat.le_of_ble_eq_true rfl) [some (.ref (ad 9)), some (.ref (ad 6)), some (.int a1), none, none, none, none, none, none, none, none] rfl ?_
  intro p e s m args below meth c C
  refine g_aload_n C dX1_verdictOf_0 rfl ?_
  refine fget_9_0_X1_9 C rfl dX1_verdictOf_1 ?_
  refine g_iload_n C dX1_verdictOf_4 rfl ?_
  refine g_callNl C [.ref (ad 45), .int a1] (c_X8_pickLong l D cy ad b0 C.A 45 a1 (by decide)) cal_X8_pickLong nw_25 rfl ⟨Nat.le_of_ble_eq_true rfl, Nat.le_of_ble_eq_true rfl⟩ ⟨rfl, rfl⟩ ⟨Nat.zero_le _, Nat.zero_le _⟩ (Nat.le_of_ble_eq_true rfl) rfl dX1_verdictOf_5 h (fun r1 σ2 h => ?_)
  refine g_lstore_n C [some (.ref (ad 9)), some (.ref (ad 6)), some (.int a1), some (.long r1), none, none, none, none, none, none, none] dX1_verdictOf_8 (by decide) rfl ?_
  refine g_bipush C dX1_verdictOf_9 kb_m9 ?_
  refine g_istore C [some (.ref (ad 9)), some (.ref (ad 6)), some (.int a1), some (.long r1), none, some (.int (-9 : Int32)), none, none, none, none, none] dX1_verdictOf_11 (by decide) rfl ?_
  refine g_iconst C dX1_verdictOf_13 kc_1 ?_
  refine g_istore C [some (.ref (ad 9)), some (.ref (ad 6)), some (.int a1), some (.long r1), none, some (.int (-9 : Int32)), some (.int (nI 1)), none, none, none, none] dX1_verdictOf_14 (by decide) rfl ?_
  refine g_iconst C dX1_verdictOf_16 kc_0 ?_
  refine g_istore C [some (.ref (ad 9)), some (.ref (ad 6)), some (.int a1), some (.long r1), none, some (.int (-9 : Int32)), some (.int (nI 1)), some (.int (nI 0)), none, none, none] dX1_verdictOf_17 (by decide) rfl ?_
  refine g_iconst C dX1_verdictOf_19 kc_0 ?_
  refine g_istore C [some (.ref (ad 9)), some (.ref (ad 6)), some (.int a1), some (.long r1), none, some (.int (-9 : Int32)), some (.int (nI 1)), some (.int (nI 0)), some (.int (nI 0)), none, none] dX1_verdictOf_20 (by decide) rfl ?_
  refine g_iconst C dX1_verdictOf_22 kc_0 ?_
  refine g_istore C [some (.ref (ad 9)), some (.ref (ad 6)), some (.int a1), some (.long r1), none, some (.int (-9 : Int32)), some (.int (nI 1)), some (.int (nI 0)), some (.int (nI 0)), some (.int (nI 0)), none] dX1_verdictOf_23 (by decide) rfl ?_
  refine g_mask [false, true, false, true, false, true, true, true, true, true, false] rfl ?_
  obtain ⟨n, h⟩ := h
  exact kl_X1_verdictOf_25 C r1 _ (fun z5 z6 z7 z8 σ9 h => by exact k_X1_verdictOf_117 C z5 z6 z7 z8 σ9 h) n (-9 : Int32) (nI 1) (nI 0) (nI 0) (nI 0) σ2 h
def rm_X1_isLetGo : Room := { frames := 4, cells := 0, slots := 0, locals := 93 }
def wp_X1_isLetGo_17 (Q : Int32 → Sg → Prop) (σ : Sg) : Prop :=
  Q (nI 1) σ
set_option maxHeartbeats 4000000 in
set_option maxRecDepth 100000 in
theorem k_X1_isLetGo_17 {Q : Int32 → Sg → Prop} (C : Cx p s m args meth c D cy ad b0 yX1_isLetGo cX1_isLetGo 4 (some .boolean)) (σ : Sg) (h : wp_X1_isLetGo_17 Q σ) : gI p l e rm_X1_isLetGo s m args below meth c D cy ad b0 Q 4 17 σ [none, none, none, none] [] := by
  refine g_iconst C dX1_isLetGo_17 kc_1 ?_
  refine g_goto C 22 dX1_isLetGo_18 (by decide) ?_
  exact g_zret C (narrow_bl bl_1) dX1_isLetGo_22 h
def wp_X1_isLetGo (a1 : Int32) (σ : Sg) (Q : Int32 → Sg → Prop) : Prop :=
  wp_X1_verdictOf a1 σ (fun r1 σ2 => ((r1 = (nI 2) → wp_X1_isLetGo_17 Q σ2) ∧ (¬ r1 = (nI 2) → ((¬ r1 = (nI 3) → Q (nI 0) σ2) ∧ (r1 = (nI 3) → wp_X1_isLetGo_17 Q σ2)))))
set_option maxHeartbeats 4000000 in
set_option maxRecDepth 100000 in
theorem c_X1_isLetGo (l : Launch) (D : va_G) (cy : Nat → ClassId) (ad : Nat → Nat) (b0 : Nat) (hA : AdOk ad b0) (a1 : Int32) : Cti l D cy ad b0 yX1_isLetGo cX1_isLetGo 4 (some .boolean) rm_X1_isLetGo [.ref (ad 9), .ref (ad 6), .int a1] (fun σ Q => wp_X1_isLetGo a1 σ Q) := by
  intro σ Q h
  refine g_enter hA rfl (Nat.le_of_ble_eq_true rfl) [some (.ref (ad 9)), some (.ref (ad 6)), some (.int a1), none] rfl ?_
  intro p e s m args below meth c C
  refine g_aload_n C dX1_isLetGo_0 rfl ?_
  refine g_aload_n C dX1_isLetGo_1 rfl ?_
  refine g_iload_n C dX1_isLetGo_2 rfl ?_
  refine g_callVi C 9 [.ref (ad 6), .int a1] (c_X1_verdictOf l D cy ad b0 C.A a1) cal_X1_verdictOf mw_777 (by decide) rfl rfl ⟨Nat.le_of_ble_eq_true rfl, Nat.le_of_ble_eq_true rfl⟩ ⟨rfl, rfl⟩ ⟨Nat.zero_le _, Nat.zero_le _⟩ (Nat.le_of_ble_eq_true rfl) rfl dX1_isLetGo_3 h (fun r1 σ2 h => ?_)
  refine g_istore_n C [some (.ref (ad 9)), some (.ref (ad 6)), some (.int a1), some (.int r1)] dX1_isLetGo_6 (by decide) rfl ?_
  refine g_iload_n C dX1_isLetGo_7 rfl ?_
  refine g_iconst C dX1_isLetGo_8 kc_2 ?_
  refine g_icmp_eq C 17 dX1_isLetGo_9 (by decide) (fun c9 => ?_) (fun c9 => ?_)
  · have h := h.1 c9
    refine g_mask [false, false, false, false] rfl ?_
    exact k_X1_isLetGo_17 C σ2 h
  · have h := h.2 c9
    refine g_iload_n C dX1_isLetGo_12 rfl ?_
    refine g_iconst C dX1_isLetGo_13 kc_3 ?_
    refine g_icmp_ne C 21 dX1_isLetGo_14 (by decide) (fun c14 => ?_) (fun c14 => ?_)
    · have h := h.1 c14
      refine g_iconst C dX1_isLetGo_21 kc_0 ?_
      exact g_zret C (narrow_bl bl_0) dX1_isLetGo_22 h
    · have h := h.2 c14
      refine g_mask [false, false, false, false] rfl ?_
      exact k_X1_isLetGo_17 C σ2 h
def rm_X1_letGo : Room := { frames := 5, cells := 0, slots := 0, locals := 116 }
def wp_X1_letGo_25 (v3 : Int32) (s0 : Int32) (s1 : Int32) (K4 : Int32 → Int32 → Sg → Prop) (Q : Int32 → Sg → Prop) (σ : Sg) : Prop :=
  ∀ x26 : Int32, x26 = (s1 + s0) → (∀ x27 : Int32, x27 = v3 + (nI 1) → (K4 x26 x27 σ))
set_option maxHeartbeats 4000000 in
set_option maxRecDepth 100000 in
theorem k_X1_letGo_25 {Q : Int32 → Sg → Prop} (C : Cx p s m args meth c D cy ad b0 yX1_letGo cX1_letGo 4 (some .int)) (v3 : Int32) (s0 : Int32) (s1 : Int32) (K4 : Int32 → Int32 → Sg → Prop) (hK4 : ∀ (z2 : Int32) (z3 : Int32) (σ : Sg), K4 z2 z3 σ → gI p l e rm_X1_letGo s m args below meth c D cy ad b0 Q 4 4 σ [some (.ref (ad 9)), some (.ref (ad 6)), some (.int z2), some (.int z3)] []) (σ : Sg) (h : wp_X1_letGo_25 v3 s0 s1 K4 Q σ) : gI p l e rm_X1_letGo s m args below meth c D cy ad b0 Q 4 25 σ [some (.ref (ad 9)), some (.ref (ad 6)), none, some (.int v3)] [.int s0, .int s1] := by
  refine g_iadd C dX1_letGo_25 ?_
  refine g_topi (fun x26 e_x26 => ?_)
  have h := h x26 e_x26
  refine g_istore_n C [some (.ref (ad 9)), some (.ref (ad 6)), some (.int x26), some (.int v3)] dX1_letGo_26 (by decide) rfl ?_
  obtain ⟨x27, e_x27⟩ : ∃ v : Int32, v = v3 + (nI 1) := ⟨_, rfl⟩
  have h := h x27 e_x27
  refine g_iinc C [some (.ref (ad 9)), some (.ref (ad 6)), some (.int x26), some (.int x27)] dX1_letGo_27 rfl e_x27.symm (by decide) rfl ?_
  refine g_goto C 4 dX1_letGo_30 (by decide) ?_
  exact hK4 x26 x27 σ h
def wb_X1_letGo_4 (v2 : Int32) (v3 : Int32) (K4 : Int32 → Int32 → Sg → Prop) (Q : Int32 → Sg → Prop) (σ : Sg) : Prop :=
  (((nI 16) ≤ v3 → Q v2 σ) ∧ (¬ (nI 16) ≤ v3 → wp_X1_isLetGo v3 σ (fun r1 σ2 => ((r1 = (nI 0) → wp_X1_letGo_25 v3 (nI 0) v2 K4 Q σ2) ∧ (¬ r1 = (nI 0) → wp_X1_letGo_25 v3 (nI 1) v2 K4 Q σ2)))))
set_option maxHeartbeats 4000000 in
set_option maxRecDepth 100000 in
theorem kb_X1_letGo_4 {Q : Int32 → Sg → Prop} (C : Cx p s m args meth c D cy ad b0 yX1_letGo cX1_letGo 4 (some .int)) (v2 : Int32) (v3 : Int32) (K4 : Int32 → Int32 → Sg → Prop) (hK4 : ∀ (z2 : Int32) (z3 : Int32) (σ : Sg), K4 z2 z3 σ → gI p l e rm_X1_letGo s m args below meth c D cy ad b0 Q 4 4 σ [some (.ref (ad 9)), some (.ref (ad 6)), some (.int z2), some (.int z3)] []) (σ : Sg) (h : wb_X1_letGo_4 v2 v3 K4 Q σ) : gI p l e rm_X1_letGo s m args below meth c D cy ad b0 Q 4 4 σ [some (.ref (ad 9)), some (.ref (ad 6)), some (.int v2), some (.int v3)] [] := by
  refine g_iload_n C dX1_letGo_4 rfl ?_
  refine g_bipush C dX1_letGo_5 kb_16 ?_
  refine g_icmp_ge C 33 dX1_letGo_7 (by decide) (fun c7 => ?_) (fun c7 => ?_)
  · have h := h.1 c7
    refine g_iload_n C dX1_letGo_33 rfl ?_
    exact g_iret C dX1_letGo_34 h
  · have h := h.2 c7
    refine g_iload_n C dX1_letGo_10 rfl ?_
    refine g_aload_n C dX1_letGo_11 rfl ?_
    refine g_aload_n C dX1_letGo_12 rfl ?_
    refine g_iload_n C dX1_letGo_13 rfl ?_
    refine g_callVi C 9 [.ref (ad 6), .int v3] (c_X1_isLetGo l D cy ad b0 C.A v3) cal_X1_isLetGo mw_773 (by decide) rfl rfl ⟨Nat.le_of_ble_eq_true rfl, Nat.le_of_ble_eq_true rfl⟩ ⟨rfl, rfl⟩ ⟨Nat.zero_le _, Nat.zero_le _⟩ (Nat.le_of_ble_eq_true rfl) rfl dX1_letGo_14 h (fun r1 σ2 h => ?_)
    refine g_if_eq C 24 dX1_letGo_17 (by decide) (fun c17 => ?_) (fun c17 => ?_)
    · have h := h.1 c17
      refine g_iconst C dX1_letGo_24 kc_0 ?_
      refine g_mask [true, true, false, true] rfl ?_
      exact k_X1_letGo_25 C v3 (nI 0) v2 K4 hK4 σ2 h
    · have h := h.2 c17
      refine g_iconst C dX1_letGo_20 kc_1 ?_
      refine g_goto C 25 dX1_letGo_21 (by decide) ?_
      refine g_mask [true, true, false, true] rfl ?_
      exact k_X1_letGo_25 C v3 (nI 1) v2 K4 hK4 σ2 h
def wl_X1_letGo_4 (Q : Int32 → Sg → Prop) : Nat → Int32 → Int32 → Sg → Prop
  | 0, _, _, _ => False
  | n + 1, v2, v3, σ => wb_X1_letGo_4 v2 v3 (wl_X1_letGo_4 Q n) Q σ
set_option maxHeartbeats 4000000 in
set_option maxRecDepth 100000 in
theorem kl_X1_letGo_4 {Q : Int32 → Sg → Prop} (C : Cx p s m args meth c D cy ad b0 yX1_letGo cX1_letGo 4 (some .int)) : ∀ (n : Nat) (v2 : Int32) (v3 : Int32) (σ : Sg), wl_X1_letGo_4 Q n v2 v3 σ → gI p l e rm_X1_letGo s m args below meth c D cy ad b0 Q 4 4 σ [some (.ref (ad 9)), some (.ref (ad 6)), some (.int v2), some (.int v3)] [] := by
  intro n
  induction n with
  | zero => intro v2 v3 σ h; exact False.elim h
  | succ n ih =>
    intro v2 v3 σ h
    exact kb_X1_letGo_4 C v2 v3 (wl_X1_letGo_4 Q n) (fun z2 z3 σ h => ih z2 z3 σ h) σ h
def wp_X1_letGo (σ : Sg) (Q : Int32 → Sg → Prop) : Prop :=
  ∃ n, wl_X1_letGo_4 Q n (nI 0) (nI 0) σ
set_option maxHeartbeats 4000000 in
set_option maxRecDepth 100000 in
theorem c_X1_letGo (l : Launch) (D : va_G) (cy : Nat → ClassId) (ad : Nat → Nat) (b0 : Nat) (hA : AdOk ad b0) : Cti l D cy ad b0 yX1_letGo cX1_letGo 4 (some .int) rm_X1_letGo [.ref (ad 9), .ref (ad 6)] (fun σ Q => wp_X1_letGo σ Q) := by
  intro σ Q h
  refine g_enter hA rfl (Nat.le_of_ble_eq_true rfl) [some (.ref (ad 9)), some (.ref (ad 6)), none, none] rfl ?_
  intro p e s m args below meth c C
  refine g_iconst C dX1_letGo_0 kc_0 ?_
  refine g_istore_n C [some (.ref (ad 9)), some (.ref (ad 6)), some (.int (nI 0)), none] dX1_letGo_1 (by decide) rfl ?_
  refine g_iconst C dX1_letGo_2 kc_0 ?_
  refine g_istore_n C [some (.ref (ad 9)), some (.ref (ad 6)), some (.int (nI 0)), some (.int (nI 0))] dX1_letGo_3 (by decide) rfl ?_
  obtain ⟨n, h⟩ := h
  exact kl_X1_letGo_4 C n (nI 0) (nI 0) σ h
def rm_X1_step : Room := { frames := 5, cells := 0, slots := 0, locals := 116 }
def wp_X1_step_48 (v2 : Int32) (Q : Int32 → Sg → Prop) (σ : Sg) : Prop :=
  wp_X1_verdictOf v2 σ (fun r1 σ2 => Q r1 σ2)
set_option maxHeartbeats 4000000 in
set_option maxRecDepth 100000 in
theorem k_X1_step_48 {Q : Int32 → Sg → Prop} (C : Cx p s m args meth c D cy ad b0 yX1_step cX1_step 4 (some .int)) (v2 : Int32) (σ : Sg) (h : wp_X1_step_48 v2 Q σ) : gI p l e rm_X1_step s m args below meth c D cy ad b0 Q 4 48 σ [some (.ref (ad 9)), some (.ref (ad 6)), some (.int v2), none] [] := by
  refine g_aload_n C dX1_step_48 rfl ?_
  refine g_aload_n C dX1_step_49 rfl ?_
  refine g_iload_n C dX1_step_50 rfl ?_
  refine g_callVi C 9 [.ref (ad 6), .int v2] (c_X1_verdictOf l D cy ad b0 C.A v2) cal_X1_verdictOf mw_777 (by decide) rfl rfl ⟨Nat.le_of_ble_eq_true rfl, Nat.le_of_ble_eq_true rfl⟩ ⟨rfl, rfl⟩ ⟨Nat.zero_le _, Nat.zero_le _⟩ (Nat.le_of_ble_eq_true rfl) rfl dX1_step_51 h (fun r1 σ2 h => ?_)
  exact g_iret C dX1_step_54 h
def wp_X1_step (a1 : Int32) (a2 : Int32) (σ : Sg) (Q : Int32 → Sg → Prop) : Prop :=
  wp_X1_isLetGo a1 σ (fun r1 σ2 => ((¬ r1 = (nI 0) → wp_X1_step_48 a1 Q σ2) ∧ (r1 = (nI 0) → wp_X8_pickLong 45 a1 σ2 (fun r3 σ4 => wp_X1_stepped r3 a2 σ4 (fun r5 σ6 => wp_X8_putLong 45 a1 r5 σ6 (fun σ7 => wp_X8_pick 46 a1 σ7 (fun r8 σ9 => wp_X8_put 46 a1 (r8 + (nI 1)) σ9 (fun σ10 => wp_X1_step_48 a1 Q σ10))))))))
set_option maxHeartbeats 4000000 in
set_option maxRecDepth 100000 in
theorem c_X1_step (l : Launch) (D : va_G) (cy : Nat → ClassId) (ad : Nat → Nat) (b0 : Nat) (hA : AdOk ad b0) (a1 : Int32) (a2 : Int32) : Cti l D cy ad b0 yX1_step cX1_step 4 (some .int) rm_X1_step [.ref (ad 9), .ref (ad 6), .int a1, .int a2] (fun σ Q => wp_X1_step a1 a2 σ Q) := by
  intro σ Q h
  refine g_enter hA rfl (Nat.le_of_ble_eq_true rfl) [some (.ref (ad 9)), some (.ref (ad 6)), some (.int a1), some (.int a2)] rfl ?_
  intro p e s m args below meth c C
  refine g_aload_n C dX1_step_0 rfl ?_
  refine g_aload_n C dX1_step_1 rfl ?_
  refine g_iload_n C dX1_step_2 rfl ?_
  refine g_callVi C 9 [.ref (ad 6), .int a1] (c_X1_isLetGo l D cy ad b0 C.A a1) cal_X1_isLetGo mw_773 (by decide) rfl rfl ⟨Nat.le_of_ble_eq_true rfl, Nat.le_of_ble_eq_true rfl⟩ ⟨rfl, rfl⟩ ⟨Nat.zero_le _, Nat.zero_le _⟩ (Nat.le_of_ble_eq_true rfl) rfl dX1_step_3 h (fun r1 σ2 h => ?_)
  refine g_if_ne C 48 dX1_step_6 (by decide) (fun c6 => ?_) (fun c6 => ?_)
  · have h := h.1 c6
    refine g_mask [true, true, true, false] rfl ?_
    exact k_X1_step_48 C a1 σ2 h
  · have h := h.2 c6
    refine g_aload_n C dX1_step_9 rfl ?_
    refine fget_9_0_X1_9 C rfl dX1_step_10 ?_
    refine g_iload_n C dX1_step_13 rfl ?_
    refine g_aload_n C dX1_step_14 rfl ?_
    refine g_aload_n C dX1_step_15 rfl ?_
    refine fget_9_0_X1_9 C rfl dX1_step_16 ?_
    refine g_iload_n C dX1_step_19 rfl ?_
    refine g_callNl C [.ref (ad 45), .int a1] (c_X8_pickLong l D cy ad b0 C.A 45 a1 (by decide)) cal_X8_pickLong nw_25 rfl ⟨Nat.le_of_ble_eq_true rfl, Nat.le_of_ble_eq_true rfl⟩ ⟨rfl, rfl⟩ ⟨Nat.zero_le _, Nat.zero_le _⟩ (Nat.le_of_ble_eq_true rfl) rfl dX1_step_20 h (fun r3 σ4 h => ?_)
    refine g_iload_n C dX1_step_23 rfl ?_
    refine g_callSl C [.ref (ad 6), .long r3, .int a2] (c_X1_stepped l D cy ad b0 C.A r3 a2) cal_X1_stepped mw_784 rfl ⟨Nat.le_of_ble_eq_true rfl, Nat.le_of_ble_eq_true rfl⟩ ⟨rfl, rfl⟩ ⟨Nat.zero_le _, Nat.zero_le _⟩ (Nat.le_of_ble_eq_true rfl) rfl dX1_step_24 h (fun r5 σ6 h => ?_)
    refine g_callNv C [.ref (ad 45), .int a1, .long r5] (c_X8_putLong l D cy ad b0 C.A 45 a1 r5 (by decide)) cal_X8_putLong nw_23 rfl ⟨Nat.le_of_ble_eq_true rfl, Nat.le_of_ble_eq_true rfl⟩ ⟨rfl, rfl⟩ ⟨Nat.zero_le _, Nat.zero_le _⟩ (Nat.le_of_ble_eq_true rfl) rfl dX1_step_27 h (fun σ7 h => ?_)
    refine g_aload_n C dX1_step_30 rfl ?_
    refine fget_9_1_X1_15 C rfl dX1_step_31 ?_
    refine g_iload_n C dX1_step_34 rfl ?_
    refine g_aload_n C dX1_step_35 rfl ?_
    refine fget_9_1_X1_15 C rfl dX1_step_36 ?_
    refine g_iload_n C dX1_step_39 rfl ?_
    refine g_callNi C [.ref (ad 46), .int a1] (c_X8_pick l D cy ad b0 C.A 46 a1 (by decide)) cal_X8_pick nw_27 rfl ⟨Nat.le_of_ble_eq_true rfl, Nat.le_of_ble_eq_true rfl⟩ ⟨rfl, rfl⟩ ⟨Nat.zero_le _, Nat.zero_le _⟩ (Nat.le_of_ble_eq_true rfl) rfl dX1_step_40 h (fun r8 σ9 h => ?_)
    refine g_iconst C dX1_step_43 kc_1 ?_
    refine g_iadd C dX1_step_44 ?_
    refine g_callNv C [.ref (ad 46), .int a1, .int (r8 + (nI 1))] (c_X8_put l D cy ad b0 C.A 46 a1 (r8 + (nI 1)) (by decide)) cal_X8_put nw_24 rfl ⟨Nat.le_of_ble_eq_true rfl, Nat.le_of_ble_eq_true rfl⟩ ⟨rfl, rfl⟩ ⟨Nat.zero_le _, Nat.zero_le _⟩ (Nat.le_of_ble_eq_true rfl) rfl dX1_step_45 h (fun σ10 h => ?_)
    refine g_mask [true, true, true, false] rfl ?_
    exact k_X1_step_48 C a1 σ10 h
def rm_X1_lose : Room := { frames := 4, cells := 0, slots := 0, locals := 93 }
def wp_X1_lose_84 (v2 : Int32) (v4 : Int64) (Q : Int32 → Sg → Prop) (σ : Sg) : Prop :=
  wp_X8_putLong 45 v2 v4 σ (fun σ1 => wp_X1_verdictOf v2 σ1 (fun r2 σ3 => Q r2 σ3))
set_option maxHeartbeats 4000000 in
set_option maxRecDepth 100000 in
theorem k_X1_lose_84 {Q : Int32 → Sg → Prop} (C : Cx p s m args meth c D cy ad b0 yX1_lose cX1_lose 11 (some .int)) (v2 : Int32) (v4 : Int64) (σ : Sg) (h : wp_X1_lose_84 v2 v4 Q σ) : gI p l e rm_X1_lose s m args below meth c D cy ad b0 Q 11 84 σ [some (.ref (ad 9)), some (.ref (ad 6)), some (.int v2), none, some (.long v4), none, none, none, none, none, none] [] := by
  refine g_aload_n C dX1_lose_84 rfl ?_
  refine fget_9_0_X1_9 C rfl dX1_lose_85 ?_
  refine g_iload_n C dX1_lose_88 rfl ?_
  refine g_lload C dX1_lose_89 rfl ?_
  refine g_callNv C [.ref (ad 45), .int v2, .long v4] (c_X8_putLong l D cy ad b0 C.A 45 v2 v4 (by decide)) cal_X8_putLong nw_23 rfl ⟨Nat.le_of_ble_eq_true rfl, Nat.le_of_ble_eq_true rfl⟩ ⟨rfl, rfl⟩ ⟨Nat.zero_le _, Nat.zero_le _⟩ (Nat.le_of_ble_eq_true rfl) rfl dX1_lose_91 h (fun σ1 h => ?_)
  refine g_aload_n C dX1_lose_94 rfl ?_
  refine g_aload_n C dX1_lose_95 rfl ?_
  refine g_iload_n C dX1_lose_96 rfl ?_
  refine g_callVi C 9 [.ref (ad 6), .int v2] (c_X1_verdictOf l D cy ad b0 C.A v2) cal_X1_verdictOf mw_777 (by decide) rfl rfl ⟨Nat.le_of_ble_eq_true rfl, Nat.le_of_ble_eq_true rfl⟩ ⟨rfl, rfl⟩ ⟨Nat.zero_le _, Nat.zero_le _⟩ (Nat.le_of_ble_eq_true rfl) rfl dX1_lose_97 h (fun r2 σ3 h => ?_)
  exact g_iret C dX1_lose_100 h
def wp_X1_lose_72 (v2 : Int32) (v3 : Int32) (v7 : Int32) (v8 : Int64) (s0 : Int32) (K16 : Int64 → Int32 → Int32 → Sg → Prop) (Q : Int32 → Sg → Prop) (σ : Sg) : Prop :=
  ∀ x78 : Int32, x78 = v7 + (nI 1) → (K16 v8 s0 x78 σ)
set_option maxHeartbeats 4000000 in
set_option maxRecDepth 100000 in
theorem k_X1_lose_72 {Q : Int32 → Sg → Prop} (C : Cx p s m args meth c D cy ad b0 yX1_lose cX1_lose 11 (some .int)) (v2 : Int32) (v3 : Int32) (v7 : Int32) (v8 : Int64) (s0 : Int32) (K16 : Int64 → Int32 → Int32 → Sg → Prop) (hK16 : ∀ (z4 : Int64) (z6 : Int32) (z7 : Int32) (σ : Sg), K16 z4 z6 z7 σ → gI p l e rm_X1_lose s m args below meth c D cy ad b0 Q 11 16 σ [some (.ref (ad 9)), some (.ref (ad 6)), some (.int v2), some (.int v3), some (.long z4), none, some (.int z6), some (.int z7), none, none, none] []) (σ : Sg) (h : wp_X1_lose_72 v2 v3 v7 v8 s0 K16 Q σ) : gI p l e rm_X1_lose s m args below meth c D cy ad b0 Q 11 72 σ [some (.ref (ad 9)), some (.ref (ad 6)), some (.int v2), some (.int v3), none, none, none, some (.int v7), some (.long v8), none, none] [.int s0] := by
  refine g_istore C [some (.ref (ad 9)), some (.ref (ad 6)), some (.int v2), some (.int v3), none, none, some (.int s0), some (.int v7), some (.long v8), none, none] dX1_lose_72 (by decide) rfl ?_
  refine g_lload C dX1_lose_74 rfl ?_
  refine g_lstore C [some (.ref (ad 9)), some (.ref (ad 6)), some (.int v2), some (.int v3), some (.long v8), none, some (.int s0), some (.int v7), some (.long v8), none, none] dX1_lose_76 (by decide) rfl ?_
  obtain ⟨x78, e_x78⟩ : ∃ v : Int32, v = v7 + (nI 1) := ⟨_, rfl⟩
  have h := h x78 e_x78
  refine g_iinc C [some (.ref (ad 9)), some (.ref (ad 6)), some (.int v2), some (.int v3), some (.long v8), none, some (.int s0), some (.int x78), some (.long v8), none, none] dX1_lose_78 rfl e_x78.symm (by decide) rfl ?_
  refine g_goto C 16 dX1_lose_81 (by decide) ?_
  refine g_mask [true, true, true, true, true, false, true, true, false, false, false] rfl ?_
  exact hK16 v8 s0 x78 σ h
def wp_X1_lose_59 (v2 : Int32) (v3 : Int32) (v4 : Int64) (v7 : Int32) (v8 : Int64) (K16 : Int64 → Int32 → Int32 → Sg → Prop) (Q : Int32 → Sg → Prop) (σ : Sg) : Prop :=
  (((lg_cmp v8 v4) = (nI 0) → wp_X1_lose_72 v2 v3 v7 v8 (nI 0) K16 Q σ) ∧ (¬ (lg_cmp v8 v4) = (nI 0) → wp_X1_lose_72 v2 v3 v7 v8 (nI 1) K16 Q σ))
set_option maxHeartbeats 4000000 in
set_option maxRecDepth 100000 in
theorem k_X1_lose_59 {Q : Int32 → Sg → Prop} (C : Cx p s m args meth c D cy ad b0 yX1_lose cX1_lose 11 (some .int)) (v2 : Int32) (v3 : Int32) (v4 : Int64) (v7 : Int32) (v8 : Int64) (K16 : Int64 → Int32 → Int32 → Sg → Prop) (hK16 : ∀ (z4 : Int64) (z6 : Int32) (z7 : Int32) (σ : Sg), K16 z4 z6 z7 σ → gI p l e rm_X1_lose s m args below meth c D cy ad b0 Q 11 16 σ [some (.ref (ad 9)), some (.ref (ad 6)), some (.int v2), some (.int v3), some (.long z4), none, some (.int z6), some (.int z7), none, none, none] []) (σ : Sg) (h : wp_X1_lose_59 v2 v3 v4 v7 v8 K16 Q σ) : gI p l e rm_X1_lose s m args below meth c D cy ad b0 Q 11 59 σ [some (.ref (ad 9)), some (.ref (ad 6)), some (.int v2), some (.int v3), some (.long v4), none, none, some (.int v7), some (.long v8), none, none] [] := by
  refine g_lload C dX1_lose_59 rfl ?_
  refine g_lload C dX1_lose_61 rfl ?_
  refine g_lcmp C dX1_lose_63 ?_
  refine g_if_eq C 71 dX1_lose_64 (by decide) (fun c64 => ?_) (fun c64 => ?_)
  · have h := h.1 c64
    refine g_iconst C dX1_lose_71 kc_0 ?_
    refine g_mask [true, true, true, true, false, false, false, true, true, false, false] rfl ?_
    exact k_X1_lose_72 C v2 v3 v7 v8 (nI 0) K16 hK16 σ h
  · have h := h.2 c64
    refine g_iconst C dX1_lose_67 kc_1 ?_
    refine g_goto C 72 dX1_lose_68 (by decide) ?_
    refine g_mask [true, true, true, true, false, false, false, true, true, false, false] rfl ?_
    exact k_X1_lose_72 C v2 v3 v7 v8 (nI 1) K16 hK16 σ h
def wb_X1_lose_34 (v2 : Int32) (v3 : Int32) (v4 : Int64) (v7 : Int32) (v8 : Int64) (v10 : Int32) (K34 : Int64 → Int32 → Sg → Prop) (K59 : Int64 → Sg → Prop) (Q : Int32 → Sg → Prop) (σ : Sg) : Prop :=
  (((nI 4) ≤ v10 → K59 v8 σ) ∧ (¬ (nI 4) ≤ v10 → wp_X1_stepped v4 v10 σ (fun r1 σ2 => ∀ x51 : Int64, x51 = (v8 ||| r1) → (∀ x53 : Int32, x53 = v10 + (nI 1) → (K34 x51 x53 σ2)))))
set_option maxHeartbeats 4000000 in
set_option maxRecDepth 100000 in
theorem kb_X1_lose_34 {Q : Int32 → Sg → Prop} (C : Cx p s m args meth c D cy ad b0 yX1_lose cX1_lose 11 (some .int)) (v2 : Int32) (v3 : Int32) (v4 : Int64) (v7 : Int32) (v8 : Int64) (v10 : Int32) (K34 : Int64 → Int32 → Sg → Prop) (K59 : Int64 → Sg → Prop) (hK34 : ∀ (z8 : Int64) (z10 : Int32) (σ : Sg), K34 z8 z10 σ → gI p l e rm_X1_lose s m args below meth c D cy ad b0 Q 11 34 σ [some (.ref (ad 9)), some (.ref (ad 6)), some (.int v2), some (.int v3), some (.long v4), none, none, some (.int v7), some (.long z8), none, some (.int z10)] []) (hK59 : ∀ (z8 : Int64) (σ : Sg), K59 z8 σ → gI p l e rm_X1_lose s m args below meth c D cy ad b0 Q 11 59 σ [some (.ref (ad 9)), some (.ref (ad 6)), some (.int v2), some (.int v3), some (.long v4), none, none, some (.int v7), some (.long z8), none, none] []) (σ : Sg) (h : wb_X1_lose_34 v2 v3 v4 v7 v8 v10 K34 K59 Q σ) : gI p l e rm_X1_lose s m args below meth c D cy ad b0 Q 11 34 σ [some (.ref (ad 9)), some (.ref (ad 6)), some (.int v2), some (.int v3), some (.long v4), none, none, some (.int v7), some (.long v8), none, some (.int v10)] [] := by
  refine g_iload C dX1_lose_34 rfl ?_
  refine g_iconst C dX1_lose_36 kc_4 ?_
  refine g_icmp_ge C 59 dX1_lose_37 (by decide) (fun c37 => ?_) (fun c37 => ?_)
  · have h := h.1 c37
    refine g_mask [true, true, true, true, true, false, false, true, true, false, false] rfl ?_
    exact hK59 v8 σ h
  · have h := h.2 c37
    refine g_lload C dX1_lose_40 rfl ?_
    refine g_aload_n C dX1_lose_42 rfl ?_
    refine g_lload C dX1_lose_43 rfl ?_
    refine g_iload C dX1_lose_45 rfl ?_
    refine g_callSl C [.ref (ad 6), .long v4, .int v10] (c_X1_stepped l D cy ad b0 C.A v4 v10) cal_X1_stepped mw_784 rfl ⟨Nat.le_of_ble_eq_true rfl, Nat.le_of_ble_eq_true rfl⟩ ⟨rfl, rfl⟩ ⟨Nat.zero_le _, Nat.zero_le _⟩ (Nat.le_of_ble_eq_true rfl) rfl dX1_lose_47 h (fun r1 σ2 h => ?_)
    refine g_lor C dX1_lose_50 ?_
    refine g_topl (fun x51 e_x51 => ?_)
    have h := h x51 e_x51
    refine g_lstore C [some (.ref (ad 9)), some (.ref (ad 6)), some (.int v2), some (.int v3), some (.long v4), none, none, some (.int v7), some (.long x51), none, some (.int v10)] dX1_lose_51 (by decide) rfl ?_
    obtain ⟨x53, e_x53⟩ : ∃ v : Int32, v = v10 + (nI 1) := ⟨_, rfl⟩
    have h := h x53 e_x53
    refine g_iinc C [some (.ref (ad 9)), some (.ref (ad 6)), some (.int v2), some (.int v3), some (.long v4), none, none, some (.int v7), some (.long x51), none, some (.int x53)] dX1_lose_53 rfl e_x53.symm (by decide) rfl ?_
    refine g_goto C 34 dX1_lose_56 (by decide) ?_
    exact hK34 x51 x53 σ2 h
def wl_X1_lose_34 (v2 : Int32) (v3 : Int32) (v4 : Int64) (v7 : Int32) (K59 : Int64 → Sg → Prop) (Q : Int32 → Sg → Prop) : Nat → Int64 → Int32 → Sg → Prop
  | 0, _, _, _ => False
  | n + 1, v8, v10, σ => wb_X1_lose_34 v2 v3 v4 v7 v8 v10 (wl_X1_lose_34 v2 v3 v4 v7 K59 Q n) K59 Q σ
set_option maxHeartbeats 4000000 in
set_option maxRecDepth 100000 in
theorem kl_X1_lose_34 {Q : Int32 → Sg → Prop} (C : Cx p s m args meth c D cy ad b0 yX1_lose cX1_lose 11 (some .int)) (v2 : Int32) (v3 : Int32) (v4 : Int64) (v7 : Int32) (K59 : Int64 → Sg → Prop) (hK59 : ∀ (z8 : Int64) (σ : Sg), K59 z8 σ → gI p l e rm_X1_lose s m args below meth c D cy ad b0 Q 11 59 σ [some (.ref (ad 9)), some (.ref (ad 6)), some (.int v2), some (.int v3), some (.long v4), none, none, some (.int v7), some (.long z8), none, none] []) : ∀ (n : Nat) (v8 : Int64) (v10 : Int32) (σ : Sg), wl_X1_lose_34 v2 v3 v4 v7 K59 Q n v8 v10 σ → gI p l e rm_X1_lose s m args below meth c D cy ad b0 Q 11 34 σ [some (.ref (ad 9)), some (.ref (ad 6)), some (.int v2), some (.int v3), some (.long v4), none, none, some (.int v7), some (.long v8), none, some (.int v10)] [] := by
  intro n
  induction n with
  | zero => intro v8 v10 σ h; exact False.elim h
  | succ n ih =>
    intro v8 v10 σ h
    exact kb_X1_lose_34 C v2 v3 v4 v7 v8 v10 (wl_X1_lose_34 v2 v3 v4 v7 K59 Q n) K59 (fun z8 z10 σ h => ih z8 z10 σ h) hK59 σ h
def wb_X1_lose_16 (v2 : Int32) (v3 : Int32) (v4 : Int64) (v6 : Int32) (v7 : Int32) (K16 : Int64 → Int32 → Int32 → Sg → Prop) (K84 : Int64 → Sg → Prop) (Q : Int32 → Sg → Prop) (σ : Sg) : Prop :=
  ((v3 ≤ v7 → K84 v4 σ) ∧ (¬ v3 ≤ v7 → ((v6 = (nI 0) → K84 v4 σ) ∧ (¬ v6 = (nI 0) → ∃ n, wl_X1_lose_34 v2 v3 v4 v7 (fun z8 σ9 => wp_X1_lose_59 v2 v3 v4 v7 z8 K16 Q σ9) Q n v4 (nI 0) σ))))
set_option maxHeartbeats 4000000 in
set_option maxRecDepth 100000 in
theorem kb_X1_lose_16 {Q : Int32 → Sg → Prop} (C : Cx p s m args meth c D cy ad b0 yX1_lose cX1_lose 11 (some .int)) (v2 : Int32) (v3 : Int32) (v4 : Int64) (v6 : Int32) (v7 : Int32) (K16 : Int64 → Int32 → Int32 → Sg → Prop) (K84 : Int64 → Sg → Prop) (hK16 : ∀ (z4 : Int64) (z6 : Int32) (z7 : Int32) (σ : Sg), K16 z4 z6 z7 σ → gI p l e rm_X1_lose s m args below meth c D cy ad b0 Q 11 16 σ [some (.ref (ad 9)), some (.ref (ad 6)), some (.int v2), some (.int v3), some (.long z4), none, some (.int z6), some (.int z7), none, none, none] []) (hK84 : ∀ (z4 : Int64) (σ : Sg), K84 z4 σ → gI p l e rm_X1_lose s m args below meth c D cy ad b0 Q 11 84 σ [some (.ref (ad 9)), some (.ref (ad 6)), some (.int v2), none, some (.long z4), none, none, none, none, none, none] []) (σ : Sg) (h : wb_X1_lose_16 v2 v3 v4 v6 v7 K16 K84 Q σ) : gI p l e rm_X1_lose s m args below meth c D cy ad b0 Q 11 16 σ [some (.ref (ad 9)), some (.ref (ad 6)), some (.int v2), some (.int v3), some (.long v4), none, some (.int v6), some (.int v7), none, none, none] [] := by
  refine g_iload C dX1_lose_16 rfl ?_
  refine g_iload_n C dX1_lose_18 rfl ?_
  refine g_icmp_ge C 84 dX1_lose_19 (by decide) (fun c19 => ?_) (fun c19 => ?_)
  · have h := h.1 c19
    refine g_mask [true, true, true, false, true, false, false, false, false, false, false] rfl ?_
    exact hK84 v4 σ h
  · have h := h.2 c19
    refine g_iload C dX1_lose_22 rfl ?_
    refine g_if_eq C 84 dX1_lose_24 (by decide) (fun c24 => ?_) (fun c24 => ?_)
    · have h := h.1 c24
      refine g_mask [true, true, true, false, true, false, false, false, false, false, false] rfl ?_
      exact hK84 v4 σ h
    · have h := h.2 c24
      refine g_lload C dX1_lose_27 rfl ?_
      refine g_lstore C [some (.ref (ad 9)), some (.ref (ad 6)), some (.int v2), some (.int v3), some (.long v4), none, some (.int v6), some (.int v7), some (.long v4), none, none] dX1_lose_29 (by decide) rfl ?_
      refine g_iconst C dX1_lose_31 kc_0 ?_
      refine g_istore C [some (.ref (ad 9)), some (.ref (ad 6)), some (.int v2), some (.int v3), some (.long v4), none, some (.int v6), some (.int v7), some (.long v4), none, some (.int (nI 0))] dX1_lose_32 (by decide) rfl ?_
      refine g_mask [true, true, true, true, true, false, false, true, true, false, true] rfl ?_
      obtain ⟨n, h⟩ := h
      exact kl_X1_lose_34 C v2 v3 v4 v7 _ (fun z8 σ9 h => by exact k_X1_lose_59 C v2 v3 v4 v7 z8 K16 hK16 σ9 h) n v4 (nI 0) σ h
def wl_X1_lose_16 (v2 : Int32) (v3 : Int32) (K84 : Int64 → Sg → Prop) (Q : Int32 → Sg → Prop) : Nat → Int64 → Int32 → Int32 → Sg → Prop
  | 0, _, _, _, _ => False
  | n + 1, v4, v6, v7, σ => wb_X1_lose_16 v2 v3 v4 v6 v7 (wl_X1_lose_16 v2 v3 K84 Q n) K84 Q σ
set_option maxHeartbeats 4000000 in
set_option maxRecDepth 100000 in
theorem kl_X1_lose_16 {Q : Int32 → Sg → Prop} (C : Cx p s m args meth c D cy ad b0 yX1_lose cX1_lose 11 (some .int)) (v2 : Int32) (v3 : Int32) (K84 : Int64 → Sg → Prop) (hK84 : ∀ (z4 : Int64) (σ : Sg), K84 z4 σ → gI p l e rm_X1_lose s m args below meth c D cy ad b0 Q 11 84 σ [some (.ref (ad 9)), some (.ref (ad 6)), some (.int v2), none, some (.long z4), none, none, none, none, none, none] []) : ∀ (n : Nat) (v4 : Int64) (v6 : Int32) (v7 : Int32) (σ : Sg), wl_X1_lose_16 v2 v3 K84 Q n v4 v6 v7 σ → gI p l e rm_X1_lose s m args below meth c D cy ad b0 Q 11 16 σ [some (.ref (ad 9)), some (.ref (ad 6)), some (.int v2), some (.int v3), some (.long v4), none, some (.int v6), some (.int v7), none, none, none] [] := by
  intro n
  induction n with
  | zero => intro v4 v6 v7 σ h; exact False.elim h
  | succ n ih =>
    intro v4 v6 v7 σ h
    exact kb_X1_lose_16 C v2 v3 v4 v6 v7 (wl_X1_lose_16 v2 v3 K84 Q n) K84 (fun z4 z6 z7 σ h => ih z4 z6 z7 σ h) hK84 σ h
def wp_X1_lose (a1 : Int32) (a2 : Int32) (σ : Sg) (Q : Int32 → Sg → Prop) : Prop :=
  wp_X8_pickLong 45 a1 σ (fun r1 σ2 => ∃ n, wl_X1_lose_16 a1 a2 (fun z4 σ9 => wp_X1_lose_84 a1 z4 Q σ9) Q n r1 (nI 1) (nI 0) σ2)
set_option maxHeartbeats 4000000 in
set_option maxRecDepth 100000 in
theorem c_X1_lose (l : Launch) (D : va_G) (cy : Nat → ClassId) (ad : Nat → Nat) (b0 : Nat) (hA : AdOk ad b0) (a1 : Int32) (a2 : Int32) : Cti l D cy ad b0 yX1_lose cX1_lose 11 (some .int) rm_X1_lose [.ref (ad 9), .ref (ad 6), .int a1, .int a2] (fun σ Q => wp_X1_lose a1 a2 σ Q) := by
  intro σ Q h
  refine g_enter hA rfl (Nat.le_of_ble_eq_true rfl) [some (.ref (ad 9)), some (.ref (ad 6)), some (.int a1), some (.int a2), none, none, none, none, none, none, none] rfl ?_
  intro p e s m args below meth c C
  refine g_aload_n C dX1_lose_0 rfl ?_
  refine fget_9_0_X1_9 C rfl dX1_lose_1 ?_
  refine g_iload_n C dX1_lose_4 rfl ?_
  refine g_callNl C [.ref (ad 45), .int a1] (c_X8_pickLong l D cy ad b0 C.A 45 a1 (by decide)) cal_X8_pickLong nw_25 rfl ⟨Nat.le_of_ble_eq_true rfl, Nat.le_of_ble_eq_true rfl⟩ ⟨rfl, rfl⟩ ⟨Nat.zero_le _, Nat.zero_le _⟩ (Nat.le_of_ble_eq_true rfl) rfl dX1_lose_5 h (fun r1 σ2 h => ?_)
  refine g_lstore C [some (.ref (ad 9)), some (.ref (ad 6)), some (.int a1), some (.int a2), some (.long r1), none, none, none, none, none, none] dX1_lose_8 (by decide) rfl ?_
  refine g_iconst C dX1_lose_10 kc_1 ?_
  refine g_istore C [some (.ref (ad 9)), some (.ref (ad 6)), some (.int a1), some (.int a2), some (.long r1), none, some (.int (nI 1)), none, none, none, none] dX1_lose_11 (by decide) rfl ?_
  refine g_iconst C dX1_lose_13 kc_0 ?_
  refine g_istore C [some (.ref (ad 9)), some (.ref (ad 6)), some (.int a1), some (.int a2), some (.long r1), none, some (.int (nI 1)), some (.int (nI 0)), none, none, none] dX1_lose_14 (by decide) rfl ?_
  obtain ⟨n, h⟩ := h
  exact kl_X1_lose_16 C a1 a2 _ (fun z4 σ9 h => by exact k_X1_lose_84 C a1 z4 σ9 h) n r1 (nI 1) (nI 0) σ2 h
def rm_X1_stateAt : Room := { frames := 1, cells := 0, slots := 0, locals := 22 }
def wp_X1_stateAt_42 (v3 : Int64) (v5 : Int32) (v6 : Int32) (K15 : Int32 → Int32 → Sg → Prop) (Q : Int32 → Sg → Prop) (σ : Sg) : Prop :=
  ∀ x42 : Int32, x42 = v6 + (nI 1) → (K15 v5 x42 σ)
set_option maxHeartbeats 4000000 in
set_option maxRecDepth 100000 in
theorem k_X1_stateAt_42 {Q : Int32 → Sg → Prop} (C : Cx p s m args meth c D cy ad b0 yX1_stateAt cX1_stateAt 7 (some .int)) (v3 : Int64) (v5 : Int32) (v6 : Int32) (K15 : Int32 → Int32 → Sg → Prop) (hK15 : ∀ (z5 : Int32) (z6 : Int32) (σ : Sg), K15 z5 z6 σ → gI p l e rm_X1_stateAt s m args below meth c D cy ad b0 Q 7 15 σ [none, none, none, some (.long v3), none, some (.int z5), some (.int z6)] []) (σ : Sg) (h : wp_X1_stateAt_42 v3 v5 v6 K15 Q σ) : gI p l e rm_X1_stateAt s m args below meth c D cy ad b0 Q 7 42 σ [none, none, none, some (.long v3), none, some (.int v5), some (.int v6)] [] := by
  obtain ⟨x42, e_x42⟩ : ∃ v : Int32, v = v6 + (nI 1) := ⟨_, rfl⟩
  have h := h x42 e_x42
  refine g_iinc C [none, none, none, some (.long v3), none, some (.int v5), some (.int x42)] dX1_stateAt_42 rfl e_x42.symm (by decide) rfl ?_
  refine g_goto C 15 dX1_stateAt_45 (by decide) ?_
  exact hK15 v5 x42 σ h
def wb_X1_stateAt_15 (v3 : Int64) (v5 : Int32) (v6 : Int32) (K15 : Int32 → Int32 → Sg → Prop) (Q : Int32 → Sg → Prop) (σ : Sg) : Prop :=
  (((nI 60) ≤ v6 → Q (-9 : Int32) σ) ∧ (¬ (nI 60) ≤ v6 → wp_X8_hasBit v3 v6 σ (fun r1 σ2 => ((r1 = (nI 0) → wp_X1_stateAt_42 v3 v5 v6 K15 Q σ2) ∧ (¬ r1 = (nI 0) → ((¬ v5 = (nI 0) → ∀ x39 : Int32, x39 = v5 + (-1 : Int32) → (wp_X1_stateAt_42 v3 x39 v6 K15 Q σ2)) ∧ (v5 = (nI 0) → Q v6 σ2)))))))
set_option maxHeartbeats 4000000 in
set_option maxRecDepth 100000 in
theorem kb_X1_stateAt_15 {Q : Int32 → Sg → Prop} (C : Cx p s m args meth c D cy ad b0 yX1_stateAt cX1_stateAt 7 (some .int)) (v3 : Int64) (v5 : Int32) (v6 : Int32) (K15 : Int32 → Int32 → Sg → Prop) (hK15 : ∀ (z5 : Int32) (z6 : Int32) (σ : Sg), K15 z5 z6 σ → gI p l e rm_X1_stateAt s m args below meth c D cy ad b0 Q 7 15 σ [none, none, none, some (.long v3), none, some (.int z5), some (.int z6)] []) (σ : Sg) (h : wb_X1_stateAt_15 v3 v5 v6 K15 Q σ) : gI p l e rm_X1_stateAt s m args below meth c D cy ad b0 Q 7 15 σ [none, none, none, some (.long v3), none, some (.int v5), some (.int v6)] [] := by
  refine g_iload C dX1_stateAt_15 rfl ?_
  refine g_bipush C dX1_stateAt_17 kb_60 ?_
  refine g_icmp_ge C 48 dX1_stateAt_19 (by decide) (fun c19 => ?_) (fun c19 => ?_)
  · have h := h.1 c19
    refine g_bipush C dX1_stateAt_48 kb_m9 ?_
    exact g_iret C dX1_stateAt_50 h
  · have h := h.2 c19
    refine g_lload_n C dX1_stateAt_22 rfl ?_
    refine g_iload C dX1_stateAt_23 rfl ?_
    refine g_callNi C [.long v3, .int v6] (c_X8_hasBit l D cy ad b0 C.A v3 v6) cal_X8_hasBit nw_26 rfl ⟨Nat.le_of_ble_eq_true rfl, Nat.le_of_ble_eq_true rfl⟩ ⟨rfl, rfl⟩ ⟨Nat.zero_le _, Nat.zero_le _⟩ (Nat.le_of_ble_eq_true rfl) rfl dX1_stateAt_25 h (fun r1 σ2 h => ?_)
    refine g_if_eq C 42 dX1_stateAt_28 (by decide) (fun c28 => ?_) (fun c28 => ?_)
    · have h := h.1 c28
      exact k_X1_stateAt_42 C v3 v5 v6 K15 hK15 σ2 h
    · have h := h.2 c28
      refine g_iload C dX1_stateAt_31 rfl ?_
      refine g_if_ne C 39 dX1_stateAt_33 (by decide) (fun c33 => ?_) (fun c33 => ?_)
      · have h := h.1 c33
        obtain ⟨x39, e_x39⟩ : ∃ v : Int32, v = v5 + (-1 : Int32) := ⟨_, rfl⟩
        have h := h x39 e_x39
        refine g_iinc C [none, none, none, some (.long v3), none, some (.int x39), some (.int v6)] dX1_stateAt_39 rfl e_x39.symm (by decide) rfl ?_
        exact k_X1_stateAt_42 C v3 x39 v6 K15 hK15 σ2 h
      · have h := h.2 c33
        refine g_iload C dX1_stateAt_36 rfl ?_
        exact g_iret C dX1_stateAt_38 h
def wl_X1_stateAt_15 (v3 : Int64) (Q : Int32 → Sg → Prop) : Nat → Int32 → Int32 → Sg → Prop
  | 0, _, _, _ => False
  | n + 1, v5, v6, σ => wb_X1_stateAt_15 v3 v5 v6 (wl_X1_stateAt_15 v3 Q n) Q σ
set_option maxHeartbeats 4000000 in
set_option maxRecDepth 100000 in
theorem kl_X1_stateAt_15 {Q : Int32 → Sg → Prop} (C : Cx p s m args meth c D cy ad b0 yX1_stateAt cX1_stateAt 7 (some .int)) (v3 : Int64) : ∀ (n : Nat) (v5 : Int32) (v6 : Int32) (σ : Sg), wl_X1_stateAt_15 v3 Q n v5 v6 σ → gI p l e rm_X1_stateAt s m args below meth c D cy ad b0 Q 7 15 σ [none, none, none, some (.long v3), none, some (.int v5), some (.int v6)] [] := by
  intro n
  induction n with
  | zero => intro v5 v6 σ h; exact False.elim h
  | succ n ih =>
    intro v5 v6 σ h
    exact kb_X1_stateAt_15 C v3 v5 v6 (wl_X1_stateAt_15 v3 Q n) (fun z5 z6 σ h => ih z5 z6 σ h) σ h
def wp_X1_stateAt (a0 : Int32) (a1 : Int32) (σ : Sg) (Q : Int32 → Sg → Prop) : Prop :=
  wp_X8_pickLong 45 a0 σ (fun r1 σ2 => ∃ n, wl_X1_stateAt_15 r1 Q n a1 (nI 0) σ2)
set_option maxHeartbeats 4000000 in
set_option maxRecDepth 100000 in
theorem c_X1_stateAt (l : Launch) (D : va_G) (cy : Nat → ClassId) (ad : Nat → Nat) (b0 : Nat) (hA : AdOk ad b0) (a0 : Int32) (a1 : Int32) : Cti l D cy ad b0 yX1_stateAt cX1_stateAt 7 (some .int) rm_X1_stateAt [.ref (ad 9), .int a0, .int a1] (fun σ Q => wp_X1_stateAt a0 a1 σ Q) := by
  intro σ Q h
  refine g_enter hA rfl (Nat.le_of_ble_eq_true rfl) [some (.ref (ad 9)), some (.int a0), some (.int a1), none, none, none, none] rfl ?_
  intro p e s m args below meth c C
  refine g_aload_n C dX1_stateAt_0 rfl ?_
  refine fget_9_0_X1_9 C rfl dX1_stateAt_1 ?_
  refine g_iload_n C dX1_stateAt_4 rfl ?_
  refine g_callNl C [.ref (ad 45), .int a0] (c_X8_pickLong l D cy ad b0 C.A 45 a0 (by decide)) cal_X8_pickLong nw_25 rfl ⟨Nat.le_of_ble_eq_true rfl, Nat.le_of_ble_eq_true rfl⟩ ⟨rfl, rfl⟩ ⟨Nat.zero_le _, Nat.zero_le _⟩ (Nat.le_of_ble_eq_true rfl) rfl dX1_stateAt_5 h (fun r1 σ2 h => ?_)
  refine g_lstore_n C [some (.ref (ad 9)), some (.int a0), some (.int a1), some (.long r1), none, none, none] dX1_stateAt_8 (by decide) rfl ?_
  refine g_iload_n C dX1_stateAt_9 rfl ?_
  refine g_istore C [some (.ref (ad 9)), some (.int a0), some (.int a1), some (.long r1), none, some (.int a1), none] dX1_stateAt_10 (by decide) rfl ?_
  refine g_iconst C dX1_stateAt_12 kc_0 ?_
  refine g_istore C [some (.ref (ad 9)), some (.int a0), some (.int a1), some (.long r1), none, some (.int a1), some (.int (nI 0))] dX1_stateAt_13 (by decide) rfl ?_
  refine g_mask [false, false, false, true, false, true, true] rfl ?_
  obtain ⟨n, h⟩ := h
  exact kl_X1_stateAt_15 C r1 n a1 (nI 0) σ2 h
def rm_X1_eventsOf : Room := { frames := 1, cells := 0, slots := 0, locals := 21 }
def wp_X1_eventsOf (a0 : Int32) (σ : Sg) (Q : Int32 → Sg → Prop) : Prop :=
  wp_X8_pick 46 a0 σ (fun r1 σ2 => Q r1 σ2)
set_option maxHeartbeats 4000000 in
set_option maxRecDepth 100000 in
theorem c_X1_eventsOf (l : Launch) (D : va_G) (cy : Nat → ClassId) (ad : Nat → Nat) (b0 : Nat) (hA : AdOk ad b0) (a0 : Int32) : Cti l D cy ad b0 yX1_eventsOf cX1_eventsOf 2 (some .int) rm_X1_eventsOf [.ref (ad 9), .int a0] (fun σ Q => wp_X1_eventsOf a0 σ Q) := by
  intro σ Q h
  refine g_enter hA rfl (Nat.le_of_ble_eq_true rfl) [some (.ref (ad 9)), some (.int a0)] rfl ?_
  intro p e s m args below meth c C
  refine g_aload_n C dX1_eventsOf_0 rfl ?_
  refine fget_9_1_X1_15 C rfl dX1_eventsOf_1 ?_
  refine g_iload_n C dX1_eventsOf_4 rfl ?_
  refine g_callNi C [.ref (ad 46), .int a0] (c_X8_pick l D cy ad b0 C.A 46 a0 (by decide)) cal_X8_pick nw_27 rfl ⟨Nat.le_of_ble_eq_true rfl, Nat.le_of_ble_eq_true rfl⟩ ⟨rfl, rfl⟩ ⟨Nat.zero_le _, Nat.zero_le _⟩ (Nat.le_of_ble_eq_true rfl) rfl dX1_eventsOf_5 h (fun r1 σ2 h => ?_)
  exact g_iret C dX1_eventsOf_8 h
def rm_J13_bitCount_95d88 : Room := { frames := 0, cells := 0, slots := 0, locals := 0 }
def wp_J13_bitCount_95d88 (a0 : Int64) (σ : Sg) (Q : Int32 → Sg → Prop) : Prop :=
  ∀ x9 : Int64, x9 = (a0 - ((lUSHR a0 (nI 1)) &&& (lN 6148914691236517205))) → (∀ x23 : Int64, x23 = ((x9 &&& (lN 3689348814741910323)) + ((lUSHR x9 (nI 2)) &&& (lN 3689348814741910323))) → (∀ x33 : Int64, x33 = ((x23 + (lUSHR x23 (nI 4))) &&& (lN 1085102592571150095)) → (∀ x40 : Int64, x40 = (x33 + (lUSHR x33 (nI 8))) → (∀ x47 : Int64, x47 = (x40 + (lUSHR x40 (nI 16))) → (∀ x54 : Int64, x54 = (x47 + (lUSHR x47 (nI 32))) → (Q ((Int64.toInt32 x54) &&& (nI 127)) σ))))))
set_option maxHeartbeats 4000000 in
set_option maxRecDepth 100000 in
theorem c_J13_bitCount_95d88 (l : Launch) (D : va_G) (cy : Nat → ClassId) (ad : Nat → Nat) (b0 : Nat) (hA : AdOk ad b0) (a0 : Int64) : Cti l D cy ad b0 yJ13_bitCount_95d88 cJ13_bitCount_95d88 2 (some .int) rm_J13_bitCount_95d88 [.long a0] (fun σ Q => wp_J13_bitCount_95d88 a0 σ Q) := by
  intro σ Q h
  refine g_enter hA rfl (Nat.le_of_ble_eq_true rfl) [some (.long a0), none] rfl ?_
  intro p e s m args below meth c C
  refine g_lload_n C dJ13_bitCount_95d88_0 rfl ?_
  refine g_lload_n C dJ13_bitCount_95d88_1 rfl ?_
  refine g_iconst C dJ13_bitCount_95d88_2 kc_1 ?_
  refine g_lushr C dJ13_bitCount_95d88_3 ?_
  refine g_ldc2 C (v := (lN 6148914691236517205)) mw_846 dJ13_bitCount_95d88_4 ?_
  refine g_land C dJ13_bitCount_95d88_7 ?_
  refine g_lsub C dJ13_bitCount_95d88_8 ?_
  refine g_topl (fun x9 e_x9 => ?_)
  have h := h x9 e_x9
  refine g_lstore_n C [some (.long x9), none] dJ13_bitCount_95d88_9 (by decide) rfl ?_
  refine g_lload_n C dJ13_bitCount_95d88_10 rfl ?_
  refine g_ldc2 C (v := (lN 3689348814741910323)) mw_847 dJ13_bitCount_95d88_11 ?_
  refine g_land C dJ13_bitCount_95d88_14 ?_
  refine g_lload_n C dJ13_bitCount_95d88_15 rfl ?_
  refine g_iconst C dJ13_bitCount_95d88_16 kc_2 ?_
  refine g_lushr C dJ13_bitCount_95d88_17 ?_
  refine g_ldc2 C (v := (lN 3689348814741910323)) mw_847 dJ13_bitCount_95d88_18 ?_
  refine g_land C dJ13_bitCount_95d88_21 ?_
  refine g_ladd C dJ13_bitCount_95d88_22 ?_
  refine g_topl (fun x23 e_x23 => ?_)
  have h := h x23 e_x23
  refine g_lstore_n C [some (.long x23), none] dJ13_bitCount_95d88_23 (by decide) rfl ?_
  refine g_lload_n C dJ13_bitCount_95d88_24 rfl ?_
  refine g_lload_n C dJ13_bitCount_95d88_25 rfl ?_
  refine g_iconst C dJ13_bitCount_95d88_26 kc_4 ?_
  refine g_lushr C dJ13_bitCount_95d88_27 ?_
  refine g_ladd C dJ13_bitCount_95d88_28 ?_
  refine g_ldc2 C (v := (lN 1085102592571150095)) mw_848 dJ13_bitCount_95d88_29 ?_
  refine g_land C dJ13_bitCount_95d88_32 ?_
  refine g_topl (fun x33 e_x33 => ?_)
  have h := h x33 e_x33
  refine g_lstore_n C [some (.long x33), none] dJ13_bitCount_95d88_33 (by decide) rfl ?_
  refine g_lload_n C dJ13_bitCount_95d88_34 rfl ?_
  refine g_lload_n C dJ13_bitCount_95d88_35 rfl ?_
  refine g_bipush C dJ13_bitCount_95d88_36 kb_8 ?_
  refine g_lushr C dJ13_bitCount_95d88_38 ?_
  refine g_ladd C dJ13_bitCount_95d88_39 ?_
  refine g_topl (fun x40 e_x40 => ?_)
  have h := h x40 e_x40
  refine g_lstore_n C [some (.long x40), none] dJ13_bitCount_95d88_40 (by decide) rfl ?_
  refine g_lload_n C dJ13_bitCount_95d88_41 rfl ?_
  refine g_lload_n C dJ13_bitCount_95d88_42 rfl ?_
  refine g_bipush C dJ13_bitCount_95d88_43 kb_16 ?_
  refine g_lushr C dJ13_bitCount_95d88_45 ?_
  refine g_ladd C dJ13_bitCount_95d88_46 ?_
  refine g_topl (fun x47 e_x47 => ?_)
  have h := h x47 e_x47
  refine g_lstore_n C [some (.long x47), none] dJ13_bitCount_95d88_47 (by decide) rfl ?_
  refine g_lload_n C dJ13_bitCount_95d88_48 rfl ?_
  refine g_lload_n C dJ13_bitCount_95d88_49 rfl ?_
  refine g_bipush C dJ13_bitCount_95d88_50 kb_32 ?_
  refine g_lushr C dJ13_bitCount_95d88_52 ?_
  refine g_ladd C dJ13_bitCount_95d88_53 ?_
  refine g_topl (fun x54 e_x54 => ?_)
  have h := h x54 e_x54
  refine g_lstore_n C [some (.long x54), none] dJ13_bitCount_95d88_54 (by decide) rfl ?_
  refine g_lload_n C dJ13_bitCount_95d88_55 rfl ?_
  refine g_l2i C dJ13_bitCount_95d88_56 ?_
  refine g_bipush C dJ13_bitCount_95d88_57 kb_127 ?_
  refine g_iand C dJ13_bitCount_95d88_59 ?_
  exact g_iret C dJ13_bitCount_95d88_60 h
def rm_X1_statesOf : Room := { frames := 1, cells := 0, slots := 0, locals := 21 }
def wp_X1_statesOf (a0 : Int32) (σ : Sg) (Q : Int32 → Sg → Prop) : Prop :=
  wp_X8_pickLong 45 a0 σ (fun r1 σ2 => wp_J13_bitCount_95d88 r1 σ2 (fun r3 σ4 => Q r3 σ4))
set_option maxHeartbeats 4000000 in
set_option maxRecDepth 100000 in
theorem c_X1_statesOf (l : Launch) (D : va_G) (cy : Nat → ClassId) (ad : Nat → Nat) (b0 : Nat) (hA : AdOk ad b0) (a0 : Int32) : Cti l D cy ad b0 yX1_statesOf cX1_statesOf 2 (some .int) rm_X1_statesOf [.ref (ad 9), .int a0] (fun σ Q => wp_X1_statesOf a0 σ Q) := by
  intro σ Q h
  refine g_enter hA rfl (Nat.le_of_ble_eq_true rfl) [some (.ref (ad 9)), some (.int a0)] rfl ?_
  intro p e s m args below meth c C
  refine g_aload_n C dX1_statesOf_0 rfl ?_
  refine fget_9_0_X1_9 C rfl dX1_statesOf_1 ?_
  refine g_iload_n C dX1_statesOf_4 rfl ?_
  refine g_callNl C [.ref (ad 45), .int a0] (c_X8_pickLong l D cy ad b0 C.A 45 a0 (by decide)) cal_X8_pickLong nw_25 rfl ⟨Nat.le_of_ble_eq_true rfl, Nat.le_of_ble_eq_true rfl⟩ ⟨rfl, rfl⟩ ⟨Nat.zero_le _, Nat.zero_le _⟩ (Nat.le_of_ble_eq_true rfl) rfl dX1_statesOf_5 h (fun r1 σ2 h => ?_)
  refine g_callSi C [.long r1] (c_J13_bitCount_95d88 l D cy ad b0 C.A r1) cal_J13_bitCount_95d88 mw_842 rfl ⟨Nat.le_of_ble_eq_true rfl, Nat.le_of_ble_eq_true rfl⟩ ⟨rfl, rfl⟩ ⟨Nat.zero_le _, Nat.zero_le _⟩ (Nat.le_of_ble_eq_true rfl) rfl dX1_statesOf_8 h (fun r3 σ4 h => ?_)
  exact g_iret C dX1_statesOf_11 h
def rm_X3_look : Room := { frames := 0, cells := 0, slots := 0, locals := 0 }
def wp_X3_look_62 (v1 : Int32) (v2 : Int32) (v3 : Int32) (s0 : Int32) (s1 : Int32) (Q : Sg → Prop) (σ : Sg) : Prop :=
  bl (s1 ||| s0) ∧ (∀ σ1 : Sg, σ1 = stF σ 8 5 (s1 ||| s0) → (((v1 = v2 → Q σ1) ∧ (¬ v1 = v2 → ((¬ (gF σ1 8 6) = (-9 : Int32) → Q σ1) ∧ ((gF σ1 8 6) = (-9 : Int32) → ∀ σ2 : Sg, σ2 = stF σ1 8 6 v3 → (Q σ2)))))))
set_option maxHeartbeats 4000000 in
set_option maxRecDepth 100000 in
theorem k_X3_look_62 {Q : Sg → Prop} (C : Cx p s m args meth c D cy ad b0 yX3_look cX3_look 4 none) (v1 : Int32) (v2 : Int32) (v3 : Int32) (s0 : Int32) (s1 : Int32) (σ : Sg) (h : wp_X3_look_62 v1 v2 v3 s0 s1 Q σ) : gV p l e rm_X3_look s m args below meth c D cy ad b0 Q 4 62 σ [some (.ref (ad 8)), some (.int v1), some (.int v2), some (.int v3)] [.int s0, .int s1, .ref (ad 8)] := by
  refine g_ior C dX3_look_62 ?_
  refine fputZ_8_5_X3_29 C rfl h.1 dX3_look_63 (fun σ1 e_σ1 => ?_)
  have h := h.2
  have h := h σ1 e_σ1
  refine g_iload_n C dX3_look_66 rfl ?_
  refine g_iload_n C dX3_look_67 rfl ?_
  refine g_icmp_eq C 85 dX3_look_68 (by decide) (fun c68 => ?_) (fun c68 => ?_)
  · have h := h.1 c68
    exact g_vret C dX3_look_85 h
  · have h := h.2 c68
    refine g_aload_n C dX3_look_71 rfl ?_
    refine fget_8_6_X3_32 C rfl dX3_look_72 ?_
    refine g_bipush C dX3_look_75 kb_m9 ?_
    refine g_icmp_ne C 85 dX3_look_77 (by decide) (fun c77 => ?_) (fun c77 => ?_)
    · have h := h.1 c77
      exact g_vret C dX3_look_85 h
    · have h := h.2 c77
      refine g_aload_n C dX3_look_80 rfl ?_
      refine g_iload_n C dX3_look_81 rfl ?_
      refine fput_8_6_X3_32 C rfl dX3_look_82 (fun σ2 e_σ2 => ?_)
      have h := h σ2 e_σ2
      exact g_vret C dX3_look_85 h
def wp_X3_look_61 (v1 : Int32) (v2 : Int32) (v3 : Int32) (s0 : Int32) (Q : Sg → Prop) (σ : Sg) : Prop :=
  wp_X3_look_62 v1 v2 v3 (nI 0) s0 Q σ
set_option maxHeartbeats 4000000 in
set_option maxRecDepth 100000 in
theorem k_X3_look_61 {Q : Sg → Prop} (C : Cx p s m args meth c D cy ad b0 yX3_look cX3_look 4 none) (v1 : Int32) (v2 : Int32) (v3 : Int32) (s0 : Int32) (σ : Sg) (h : wp_X3_look_61 v1 v2 v3 s0 Q σ) : gV p l e rm_X3_look s m args below meth c D cy ad b0 Q 4 61 σ [some (.ref (ad 8)), some (.int v1), some (.int v2), some (.int v3)] [.int s0, .ref (ad 8)] := by
  refine g_iconst C dX3_look_61 kc_0 ?_
  exact k_X3_look_62 C v1 v2 v3 (nI 0) s0 σ h
def wp_X3_look_40 (v1 : Int32) (v2 : Int32) (v3 : Int32) (s0 : Int32) (s1 : Int32) (Q : Sg → Prop) (σ : Sg) : Prop :=
  bl (s1 ||| s0) ∧ (∀ σ1 : Sg, σ1 = stF σ 8 4 (s1 ||| s0) → (((v2 = (nI 0) → wp_X3_look_61 v1 v2 v3 (gF σ1 8 5) Q σ1) ∧ (¬ v2 = (nI 0) → ((¬ v1 = (nI 0) → wp_X3_look_61 v1 v2 v3 (gF σ1 8 5) Q σ1) ∧ (v1 = (nI 0) → wp_X3_look_62 v1 v2 v3 (nI 1) (gF σ1 8 5) Q σ1))))))
set_option maxHeartbeats 4000000 in
set_option maxRecDepth 100000 in
theorem k_X3_look_40 {Q : Sg → Prop} (C : Cx p s m args meth c D cy ad b0 yX3_look cX3_look 4 none) (v1 : Int32) (v2 : Int32) (v3 : Int32) (s0 : Int32) (s1 : Int32) (σ : Sg) (h : wp_X3_look_40 v1 v2 v3 s0 s1 Q σ) : gV p l e rm_X3_look s m args below meth c D cy ad b0 Q 4 40 σ [some (.ref (ad 8)), some (.int v1), some (.int v2), some (.int v3)] [.int s0, .int s1, .ref (ad 8)] := by
  refine g_ior C dX3_look_40 ?_
  refine fputZ_8_4_X3_26 C rfl h.1 dX3_look_41 (fun σ1 e_σ1 => ?_)
  have h := h.2
  have h := h σ1 e_σ1
  refine g_aload_n C dX3_look_44 rfl ?_
  refine g_dup C dX3_look_45 rfl ?_
  refine fget_8_5_X3_29 C rfl dX3_look_46 ?_
  refine g_iload_n C dX3_look_49 rfl ?_
  refine g_if_eq C 61 dX3_look_50 (by decide) (fun c50 => ?_) (fun c50 => ?_)
  · have h := h.1 c50
    exact k_X3_look_61 C v1 v2 v3 (gF σ1 8 5) σ1 h
  · have h := h.2 c50
    refine g_iload_n C dX3_look_53 rfl ?_
    refine g_if_ne C 61 dX3_look_54 (by decide) (fun c54 => ?_) (fun c54 => ?_)
    · have h := h.1 c54
      exact k_X3_look_61 C v1 v2 v3 (gF σ1 8 5) σ1 h
    · have h := h.2 c54
      refine g_iconst C dX3_look_57 kc_1 ?_
      refine g_goto C 62 dX3_look_58 (by decide) ?_
      exact k_X3_look_62 C v1 v2 v3 (nI 1) (gF σ1 8 5) σ1 h
def wp_X3_look_39 (v1 : Int32) (v2 : Int32) (v3 : Int32) (s0 : Int32) (Q : Sg → Prop) (σ : Sg) : Prop :=
  wp_X3_look_40 v1 v2 v3 (nI 0) s0 Q σ
set_option maxHeartbeats 4000000 in
set_option maxRecDepth 100000 in
theorem k_X3_look_39 {Q : Sg → Prop} (C : Cx p s m args meth c D cy ad b0 yX3_look cX3_look 4 none) (v1 : Int32) (v2 : Int32) (v3 : Int32) (s0 : Int32) (σ : Sg) (h : wp_X3_look_39 v1 v2 v3 s0 Q σ) : gV p l e rm_X3_look s m args below meth c D cy ad b0 Q 4 39 σ [some (.ref (ad 8)), some (.int v1), some (.int v2), some (.int v3)] [.int s0, .ref (ad 8)] := by
  refine g_iconst C dX3_look_39 kc_0 ?_
  exact k_X3_look_40 C v1 v2 v3 (nI 0) s0 σ h
def wp_X3_look_18 (v1 : Int32) (v2 : Int32) (v3 : Int32) (s0 : Int32) (s1 : Int32) (Q : Sg → Prop) (σ : Sg) : Prop :=
  bl (s1 ||| s0) ∧ (∀ σ1 : Sg, σ1 = stF σ 8 3 (s1 ||| s0) → (((v1 = (nI 0) → wp_X3_look_39 v1 v2 v3 (gF σ1 8 4) Q σ1) ∧ (¬ v1 = (nI 0) → ((¬ v2 = (nI 0) → wp_X3_look_39 v1 v2 v3 (gF σ1 8 4) Q σ1) ∧ (v2 = (nI 0) → wp_X3_look_40 v1 v2 v3 (nI 1) (gF σ1 8 4) Q σ1))))))
set_option maxHeartbeats 4000000 in
set_option maxRecDepth 100000 in
theorem k_X3_look_18 {Q : Sg → Prop} (C : Cx p s m args meth c D cy ad b0 yX3_look cX3_look 4 none) (v1 : Int32) (v2 : Int32) (v3 : Int32) (s0 : Int32) (s1 : Int32) (σ : Sg) (h : wp_X3_look_18 v1 v2 v3 s0 s1 Q σ) : gV p l e rm_X3_look s m args below meth c D cy ad b0 Q 4 18 σ [some (.ref (ad 8)), some (.int v1), some (.int v2), some (.int v3)] [.int s0, .int s1, .ref (ad 8)] := by
  refine g_ior C dX3_look_18 ?_
  refine fputZ_8_3_X3_22 C rfl h.1 dX3_look_19 (fun σ1 e_σ1 => ?_)
  have h := h.2
  have h := h σ1 e_σ1
  refine g_aload_n C dX3_look_22 rfl ?_
  refine g_dup C dX3_look_23 rfl ?_
  refine fget_8_4_X3_26 C rfl dX3_look_24 ?_
  refine g_iload_n C dX3_look_27 rfl ?_
  refine g_if_eq C 39 dX3_look_28 (by decide) (fun c28 => ?_) (fun c28 => ?_)
  · have h := h.1 c28
    exact k_X3_look_39 C v1 v2 v3 (gF σ1 8 4) σ1 h
  · have h := h.2 c28
    refine g_iload_n C dX3_look_31 rfl ?_
    refine g_if_ne C 39 dX3_look_32 (by decide) (fun c32 => ?_) (fun c32 => ?_)
    · have h := h.1 c32
      exact k_X3_look_39 C v1 v2 v3 (gF σ1 8 4) σ1 h
    · have h := h.2 c32
      refine g_iconst C dX3_look_35 kc_1 ?_
      refine g_goto C 40 dX3_look_36 (by decide) ?_
      exact k_X3_look_40 C v1 v2 v3 (nI 1) (gF σ1 8 4) σ1 h
def wp_X3_look_17 (v1 : Int32) (v2 : Int32) (v3 : Int32) (s0 : Int32) (Q : Sg → Prop) (σ : Sg) : Prop :=
  wp_X3_look_18 v1 v2 v3 (nI 0) s0 Q σ
set_option maxHeartbeats 4000000 in
set_option maxRecDepth 100000 in
theorem k_X3_look_17 {Q : Sg → Prop} (C : Cx p s m args meth c D cy ad b0 yX3_look cX3_look 4 none) (v1 : Int32) (v2 : Int32) (v3 : Int32) (s0 : Int32) (σ : Sg) (h : wp_X3_look_17 v1 v2 v3 s0 Q σ) : gV p l e rm_X3_look s m args below meth c D cy ad b0 Q 4 17 σ [some (.ref (ad 8)), some (.int v1), some (.int v2), some (.int v3)] [.int s0, .ref (ad 8)] := by
  refine g_iconst C dX3_look_17 kc_0 ?_
  exact k_X3_look_18 C v1 v2 v3 (nI 0) s0 σ h
def wp_X3_look (a0 : Int32) (a1 : Int32) (a2 : Int32) (σ : Sg) (Q : Sg → Prop) : Prop :=
  ((a0 = (nI 0) → wp_X3_look_17 a0 a1 a2 (gF σ 8 3) Q σ) ∧ (¬ a0 = (nI 0) → ((a1 = (nI 0) → wp_X3_look_17 a0 a1 a2 (gF σ 8 3) Q σ) ∧ (¬ a1 = (nI 0) → wp_X3_look_18 a0 a1 a2 (nI 1) (gF σ 8 3) Q σ))))
set_option maxHeartbeats 4000000 in
set_option maxRecDepth 100000 in
theorem c_X3_look (l : Launch) (D : va_G) (cy : Nat → ClassId) (ad : Nat → Nat) (b0 : Nat) (hA : AdOk ad b0) (a0 : Int32) (a1 : Int32) (a2 : Int32) : Ctv l D cy ad b0 yX3_look cX3_look 4 none rm_X3_look [.ref (ad 8), .int a0, .int a1, .int a2] (fun σ Q => wp_X3_look a0 a1 a2 σ Q) := by
  intro σ Q h
  refine g_enter hA rfl (Nat.le_of_ble_eq_true rfl) [some (.ref (ad 8)), some (.int a0), some (.int a1), some (.int a2)] rfl ?_
  intro p e s m args below meth c C
  refine g_aload_n C dX3_look_0 rfl ?_
  refine g_dup C dX3_look_1 rfl ?_
  refine fget_8_3_X3_22 C rfl dX3_look_2 ?_
  refine g_iload_n C dX3_look_5 rfl ?_
  refine g_if_eq C 17 dX3_look_6 (by decide) (fun c6 => ?_) (fun c6 => ?_)
  · have h := h.1 c6
    exact k_X3_look_17 C a0 a1 a2 (gF σ 8 3) σ h
  · have h := h.2 c6
    refine g_iload_n C dX3_look_9 rfl ?_
    refine g_if_eq C 17 dX3_look_10 (by decide) (fun c10 => ?_) (fun c10 => ?_)
    · have h := h.1 c10
      exact k_X3_look_17 C a0 a1 a2 (gF σ 8 3) σ h
    · have h := h.2 c10
      refine g_iconst C dX3_look_13 kc_1 ?_
      refine g_goto C 18 dX3_look_14 (by decide) ?_
      exact k_X3_look_18 C a0 a1 a2 (nI 1) (gF σ 8 3) σ h
def rm_X3_walk : Room := { frames := 3, cells := 0, slots := 0, locals := 63 }
def wp_X3_walk_109 (v3 : Int32) (v4 : Int32) (v5 : Int32) (K3 : Int32 → Sg → Prop) (Q : Sg → Prop) (σ : Sg) : Prop :=
  ∀ x109 : Int32, x109 = v5 + (nI 1) → (K3 x109 σ)
set_option maxHeartbeats 4000000 in
set_option maxRecDepth 100000 in
theorem k_X3_walk_109 {Q : Sg → Prop} (C : Cx p s m args meth c D cy ad b0 yX3_walk cX3_walk 9 none) (v3 : Int32) (v4 : Int32) (v5 : Int32) (K3 : Int32 → Sg → Prop) (hK3 : ∀ (z5 : Int32) (σ : Sg), K3 z5 σ → gV p l e rm_X3_walk s m args below meth c D cy ad b0 Q 9 3 σ [some (.ref (ad 8)), some (.ref (ad 6)), some (.ref (ad 7)), some (.int v3), some (.int v4), some (.int z5), none, none, none] []) (σ : Sg) (h : wp_X3_walk_109 v3 v4 v5 K3 Q σ) : gV p l e rm_X3_walk s m args below meth c D cy ad b0 Q 9 109 σ [some (.ref (ad 8)), some (.ref (ad 6)), some (.ref (ad 7)), some (.int v3), some (.int v4), some (.int v5), none, none, none] [] := by
  obtain ⟨x109, e_x109⟩ : ∃ v : Int32, v = v5 + (nI 1) := ⟨_, rfl⟩
  have h := h x109 e_x109
  refine g_iinc C [some (.ref (ad 8)), some (.ref (ad 6)), some (.ref (ad 7)), some (.int v3), some (.int v4), some (.int x109), none, none, none] dX3_walk_109 rfl e_x109.symm (by decide) rfl ?_
  refine g_goto C 3 dX3_walk_112 (by decide) ?_
  exact hK3 x109 σ h
def wb_X3_walk_3 (v3 : Int32) (v4 : Int32) (v5 : Int32) (K3 : Int32 → Sg → Prop) (Q : Sg → Prop) (σ : Sg) : Prop :=
  (((nI 4) ≤ v5 → Q σ) ∧ (¬ (nI 4) ≤ v5 → wp_X7_next (v3 / (nI 60)) v5 σ (fun r1 σ2 => wp_X7_nextk (iREM v3 (nI 60)) v5 σ2 (fun r3 σ4 => ∀ x41 : Int32, x41 = ((r1 * (nI 60)) + r3) → (wp_X8_pick 43 x41 σ4 (fun r5 σ6 => ((¬ r5 = (-9 : Int32) → wp_X3_walk_109 v3 v4 v5 K3 Q σ6) ∧ (r5 = (-9 : Int32) → wp_X8_put 43 x41 v4 σ6 (fun σ7 => wp_X8_put 44 (gF σ7 8 2) x41 σ7 (fun σ8 => ∀ σ9 : Sg, σ9 = stF σ8 8 2 ((gF σ8 8 2) + (nI 1)) → (wp_X7_keeps r1 σ9 (fun r10 σ11 => wp_X7_keepsk r3 σ11 (fun r12 σ13 => wp_X3_look r10 r12 v4 σ13 (fun σ14 => wp_X3_walk_109 v3 v4 v5 K3 Q σ14))))))))))))))
set_option maxHeartbeats 4000000 in
set_option maxRecDepth 100000 in
theorem kb_X3_walk_3 {Q : Sg → Prop} (C : Cx p s m args meth c D cy ad b0 yX3_walk cX3_walk 9 none) (v3 : Int32) (v4 : Int32) (v5 : Int32) (K3 : Int32 → Sg → Prop) (hK3 : ∀ (z5 : Int32) (σ : Sg), K3 z5 σ → gV p l e rm_X3_walk s m args below meth c D cy ad b0 Q 9 3 σ [some (.ref (ad 8)), some (.ref (ad 6)), some (.ref (ad 7)), some (.int v3), some (.int v4), some (.int z5), none, none, none] []) (σ : Sg) (h : wb_X3_walk_3 v3 v4 v5 K3 Q σ) : gV p l e rm_X3_walk s m args below meth c D cy ad b0 Q 9 3 σ [some (.ref (ad 8)), some (.ref (ad 6)), some (.ref (ad 7)), some (.int v3), some (.int v4), some (.int v5), none, none, none] [] := by
  refine g_iload C dX3_walk_3 rfl ?_
  refine g_iconst C dX3_walk_5 kc_4 ?_
  refine g_icmp_ge C 115 dX3_walk_6 (by decide) (fun c6 => ?_) (fun c6 => ?_)
  · have h := h.1 c6
    exact g_vret C dX3_walk_115 h
  · have h := h.2 c6
    refine g_aload_n C dX3_walk_9 rfl ?_
    refine g_iload_n C dX3_walk_10 rfl ?_
    refine g_bipush C dX3_walk_11 kb_60 ?_
    refine g_idiv C dX3_walk_13 (by decide) ?_
    refine g_iload C dX3_walk_14 rfl ?_
    refine g_callVi C 6 [.int (v3 / (nI 60)), .int v5] (c_X7_next l D cy ad b0 C.A (v3 / (nI 60)) v5) cal_X7_next mw_917 (by decide) rfl rfl ⟨Nat.le_of_ble_eq_true rfl, Nat.le_of_ble_eq_true rfl⟩ ⟨rfl, rfl⟩ ⟨Nat.zero_le _, Nat.zero_le _⟩ (Nat.le_of_ble_eq_true rfl) rfl dX3_walk_16 h (fun r1 σ2 h => ?_)
    refine g_istore C [some (.ref (ad 8)), some (.ref (ad 6)), some (.ref (ad 7)), some (.int v3), some (.int v4), some (.int v5), some (.int r1), none, none] dX3_walk_19 (by decide) rfl ?_
    refine g_aload_n C dX3_walk_21 rfl ?_
    refine g_iload_n C dX3_walk_22 rfl ?_
    refine g_bipush C dX3_walk_23 kb_60 ?_
    refine g_irem C dX3_walk_25 (by decide) ?_
    refine g_iload C dX3_walk_26 rfl ?_
    refine g_callVi C 7 [.int (iREM v3 (nI 60)), .int v5] (c_X7_nextk l D cy ad b0 C.A (iREM v3 (nI 60)) v5) cal_X7_next mw_917 (by decide) rfl rfl ⟨Nat.le_of_ble_eq_true rfl, Nat.le_of_ble_eq_true rfl⟩ ⟨rfl, rfl⟩ ⟨Nat.zero_le _, Nat.zero_le _⟩ (Nat.le_of_ble_eq_true rfl) rfl dX3_walk_28 h (fun r3 σ4 h => ?_)
    refine g_istore C [some (.ref (ad 8)), some (.ref (ad 6)), some (.ref (ad 7)), some (.int v3), some (.int v4), some (.int v5), some (.int r1), some (.int r3), none] dX3_walk_31 (by decide) rfl ?_
    refine g_iload C dX3_walk_33 rfl ?_
    refine g_bipush C dX3_walk_35 kb_60 ?_
    refine g_imul C dX3_walk_37 ?_
    refine g_iload C dX3_walk_38 rfl ?_
    refine g_iadd C dX3_walk_40 ?_
    refine g_topi (fun x41 e_x41 => ?_)
    have h := h x41 e_x41
    refine g_istore C [some (.ref (ad 8)), some (.ref (ad 6)), some (.ref (ad 7)), some (.int v3), some (.int v4), some (.int v5), some (.int r1), some (.int r3), some (.int x41)] dX3_walk_41 (by decide) rfl ?_
    refine g_aload_n C dX3_walk_43 rfl ?_
    refine fget_8_0_X3_9 C rfl dX3_walk_44 ?_
    refine g_iload C dX3_walk_47 rfl ?_
    refine g_callNi C [.ref (ad 43), .int x41] (c_X8_pick l D cy ad b0 C.A 43 x41 (by decide)) cal_X8_pick nw_29 rfl ⟨Nat.le_of_ble_eq_true rfl, Nat.le_of_ble_eq_true rfl⟩ ⟨rfl, rfl⟩ ⟨Nat.zero_le _, Nat.zero_le _⟩ (Nat.le_of_ble_eq_true rfl) rfl dX3_walk_49 h (fun r5 σ6 h => ?_)
    refine g_bipush C dX3_walk_52 kb_m9 ?_
    refine g_icmp_ne C 109 dX3_walk_54 (by decide) (fun c54 => ?_) (fun c54 => ?_)
    · have h := h.1 c54
      refine g_mask [true, true, true, true, true, true, false, false, false] rfl ?_
      exact k_X3_walk_109 C v3 v4 v5 K3 hK3 σ6 h
    · have h := h.2 c54
      refine g_aload_n C dX3_walk_57 rfl ?_
      refine fget_8_0_X3_9 C rfl dX3_walk_58 ?_
      refine g_iload C dX3_walk_61 rfl ?_
      refine g_iload C dX3_walk_63 rfl ?_
      refine g_callNv C [.ref (ad 43), .int x41, .int v4] (c_X8_put l D cy ad b0 C.A 43 x41 v4 (by decide)) cal_X8_put nw_28 rfl ⟨Nat.le_of_ble_eq_true rfl, Nat.le_of_ble_eq_true rfl⟩ ⟨rfl, rfl⟩ ⟨Nat.zero_le _, Nat.zero_le _⟩ (Nat.le_of_ble_eq_true rfl) rfl dX3_walk_65 h (fun σ7 h => ?_)
      refine g_aload_n C dX3_walk_68 rfl ?_
      refine fget_8_1_X3_15 C rfl dX3_walk_69 ?_
      refine g_aload_n C dX3_walk_72 rfl ?_
      refine fget_8_2_X3_18 C rfl dX3_walk_73 ?_
      refine g_iload C dX3_walk_76 rfl ?_
      refine g_callNv C [.ref (ad 44), .int (gF σ7 8 2), .int x41] (c_X8_put l D cy ad b0 C.A 44 (gF σ7 8 2) x41 (by decide)) cal_X8_put nw_28 rfl ⟨Nat.le_of_ble_eq_true rfl, Nat.le_of_ble_eq_true rfl⟩ ⟨rfl, rfl⟩ ⟨Nat.zero_le _, Nat.zero_le _⟩ (Nat.le_of_ble_eq_true rfl) rfl dX3_walk_78 h (fun σ8 h => ?_)
      refine g_aload_n C dX3_walk_81 rfl ?_
      refine g_dup C dX3_walk_82 rfl ?_
      refine fget_8_2_X3_18 C rfl dX3_walk_83 ?_
      refine g_iconst C dX3_walk_86 kc_1 ?_
      refine g_iadd C dX3_walk_87 ?_
      refine fput_8_2_X3_18 C rfl dX3_walk_88 (fun σ9 e_σ9 => ?_)
      have h := h σ9 e_σ9
      refine g_aload_n C dX3_walk_91 rfl ?_
      refine g_aload_n C dX3_walk_92 rfl ?_
      refine g_iload C dX3_walk_93 rfl ?_
      refine g_callVi C 6 [.int r1] (c_X7_keeps l D cy ad b0 C.A r1) cal_X7_keeps mw_918 (by decide) rfl rfl ⟨Nat.le_of_ble_eq_true rfl, Nat.le_of_ble_eq_true rfl⟩ ⟨rfl, rfl⟩ ⟨Nat.zero_le _, Nat.zero_le _⟩ (Nat.le_of_ble_eq_true rfl) rfl dX3_walk_95 h (fun r10 σ11 h => ?_)
      refine g_aload_n C dX3_walk_98 rfl ?_
      refine g_iload C dX3_walk_99 rfl ?_
      refine g_callVi C 7 [.int r3] (c_X7_keepsk l D cy ad b0 C.A r3) cal_X7_keeps mw_918 (by decide) rfl rfl ⟨Nat.le_of_ble_eq_true rfl, Nat.le_of_ble_eq_true rfl⟩ ⟨rfl, rfl⟩ ⟨Nat.zero_le _, Nat.zero_le _⟩ (Nat.le_of_ble_eq_true rfl) rfl dX3_walk_101 h (fun r12 σ13 h => ?_)
      refine g_iload C dX3_walk_104 rfl ?_
      refine g_callVv C 8 [.int r10, .int r12, .int v4] (c_X3_look l D cy ad b0 C.A r10 r12 v4) cal_X3_look mw_919 (by decide) rfl rfl ⟨Nat.le_of_ble_eq_true rfl, Nat.le_of_ble_eq_true rfl⟩ ⟨rfl, rfl⟩ ⟨Nat.zero_le _, Nat.zero_le _⟩ (Nat.le_of_ble_eq_true rfl) rfl dX3_walk_106 h (fun σ14 h => ?_)
      refine g_mask [true, true, true, true, true, true, false, false, false] rfl ?_
      exact k_X3_walk_109 C v3 v4 v5 K3 hK3 σ14 h
def wl_X3_walk_3 (v3 : Int32) (v4 : Int32) (Q : Sg → Prop) : Nat → Int32 → Sg → Prop
  | 0, _, _ => False
  | n + 1, v5, σ => wb_X3_walk_3 v3 v4 v5 (wl_X3_walk_3 v3 v4 Q n) Q σ
set_option maxHeartbeats 4000000 in
set_option maxRecDepth 100000 in
theorem kl_X3_walk_3 {Q : Sg → Prop} (C : Cx p s m args meth c D cy ad b0 yX3_walk cX3_walk 9 none) (v3 : Int32) (v4 : Int32) : ∀ (n : Nat) (v5 : Int32) (σ : Sg), wl_X3_walk_3 v3 v4 Q n v5 σ → gV p l e rm_X3_walk s m args below meth c D cy ad b0 Q 9 3 σ [some (.ref (ad 8)), some (.ref (ad 6)), some (.ref (ad 7)), some (.int v3), some (.int v4), some (.int v5), none, none, none] [] := by
  intro n
  induction n with
  | zero => intro v5 σ h; exact False.elim h
  | succ n ih =>
    intro v5 σ h
    exact kb_X3_walk_3 C v3 v4 v5 (wl_X3_walk_3 v3 v4 Q n) (fun z5 σ h => ih z5 σ h) σ h
def wp_X3_walk (a2 : Int32) (a3 : Int32) (σ : Sg) (Q : Sg → Prop) : Prop :=
  ∃ n, wl_X3_walk_3 a2 a3 Q n (nI 0) σ
set_option maxHeartbeats 4000000 in
set_option maxRecDepth 100000 in
theorem c_X3_walk (l : Launch) (D : va_G) (cy : Nat → ClassId) (ad : Nat → Nat) (b0 : Nat) (hA : AdOk ad b0) (a2 : Int32) (a3 : Int32) : Ctv l D cy ad b0 yX3_walk cX3_walk 9 none rm_X3_walk [.ref (ad 8), .ref (ad 6), .ref (ad 7), .int a2, .int a3] (fun σ Q => wp_X3_walk a2 a3 σ Q) := by
  intro σ Q h
  refine g_enter hA rfl (Nat.le_of_ble_eq_true rfl) [some (.ref (ad 8)), some (.ref (ad 6)), some (.ref (ad 7)), some (.int a2), some (.int a3), none, none, none, none] rfl ?_
  intro p e s m args below meth c C
  refine g_iconst C dX3_walk_0 kc_0 ?_
  refine g_istore C [some (.ref (ad 8)), some (.ref (ad 6)), some (.ref (ad 7)), some (.int a2), some (.int a3), some (.int (nI 0)), none, none, none] dX3_walk_1 (by decide) rfl ?_
  obtain ⟨n, h⟩ := h
  exact kl_X3_walk_3 C a2 a3 n (nI 0) σ h
def rm_X3_meet : Room := { frames := 4, cells := 0, slots := 0, locals := 91 }
def wb_X3_meet_65 (v3 : Int32) (K65 : Int32 → Sg → Prop) (Q : Sg → Prop) (σ : Sg) : Prop :=
  (((gF σ 8 2) ≤ v3 → Q σ) ∧ (¬ (gF σ 8 2) ≤ v3 → (((nI (aN 44)) ≤ v3 → Q σ) ∧ (¬ (nI (aN 44)) ≤ v3 → wp_X8_pick 44 v3 σ (fun r1 σ2 => wp_X8_pick 43 r1 σ2 (fun r3 σ4 => wp_X3_walk r1 (r3 + (nI 1)) σ4 (fun σ5 => ∀ x111 : Int32, x111 = v3 + (nI 1) → (K65 x111 σ5))))))))
set_option maxHeartbeats 4000000 in
set_option maxRecDepth 100000 in
theorem kb_X3_meet_65 {Q : Sg → Prop} (C : Cx p s m args meth c D cy ad b0 yX3_meet cX3_meet 5 none) (v3 : Int32) (K65 : Int32 → Sg → Prop) (hK65 : ∀ (z3 : Int32) (σ : Sg), K65 z3 σ → gV p l e rm_X3_meet s m args below meth c D cy ad b0 Q 5 65 σ [some (.ref (ad 8)), some (.ref (ad 6)), some (.ref (ad 7)), some (.int z3), none] []) (σ : Sg) (h : wb_X3_meet_65 v3 K65 Q σ) : gV p l e rm_X3_meet s m args below meth c D cy ad b0 Q 5 65 σ [some (.ref (ad 8)), some (.ref (ad 6)), some (.ref (ad 7)), some (.int v3), none] [] := by
  refine g_iload_n C dX3_meet_65 rfl ?_
  refine g_aload_n C dX3_meet_66 rfl ?_
  refine fget_8_2_X3_18 C rfl dX3_meet_67 ?_
  refine g_icmp_ge C 117 dX3_meet_70 (by decide) (fun c70 => ?_) (fun c70 => ?_)
  · have h := h.1 c70
    exact g_vret C dX3_meet_117 h
  · have h := h.2 c70
    refine g_iload_n C dX3_meet_73 rfl ?_
    refine g_aload_n C dX3_meet_74 rfl ?_
    refine fget_8_1_X3_15 C rfl dX3_meet_75 ?_
    refine g_alen C (by decide) dX3_meet_78 ?_
    refine g_icmp_ge C 117 dX3_meet_79 (by decide) (fun c79 => ?_) (fun c79 => ?_)
    · have h := h.1 c79
      exact g_vret C dX3_meet_117 h
    · have h := h.2 c79
      refine g_aload_n C dX3_meet_82 rfl ?_
      refine fget_8_1_X3_15 C rfl dX3_meet_83 ?_
      refine g_iload_n C dX3_meet_86 rfl ?_
      refine g_callNi C [.ref (ad 44), .int v3] (c_X8_pick l D cy ad b0 C.A 44 v3 (by decide)) cal_X8_pick nw_29 rfl ⟨Nat.le_of_ble_eq_true rfl, Nat.le_of_ble_eq_true rfl⟩ ⟨rfl, rfl⟩ ⟨Nat.zero_le _, Nat.zero_le _⟩ (Nat.le_of_ble_eq_true rfl) rfl dX3_meet_87 h (fun r1 σ2 h => ?_)
      refine g_istore C [some (.ref (ad 8)), some (.ref (ad 6)), some (.ref (ad 7)), some (.int v3), some (.int r1)] dX3_meet_90 (by decide) rfl ?_
      refine g_aload_n C dX3_meet_92 rfl ?_
      refine g_aload_n C dX3_meet_93 rfl ?_
      refine g_aload_n C dX3_meet_94 rfl ?_
      refine g_iload C dX3_meet_95 rfl ?_
      refine g_aload_n C dX3_meet_97 rfl ?_
      refine fget_8_0_X3_9 C rfl dX3_meet_98 ?_
      refine g_iload C dX3_meet_101 rfl ?_
      refine g_callNi C [.ref (ad 43), .int r1] (c_X8_pick l D cy ad b0 C.A 43 r1 (by decide)) cal_X8_pick nw_29 rfl ⟨Nat.le_of_ble_eq_true rfl, Nat.le_of_ble_eq_true rfl⟩ ⟨rfl, rfl⟩ ⟨Nat.zero_le _, Nat.zero_le _⟩ (Nat.le_of_ble_eq_true rfl) rfl dX3_meet_103 h (fun r3 σ4 h => ?_)
      refine g_iconst C dX3_meet_106 kc_1 ?_
      refine g_iadd C dX3_meet_107 ?_
      refine g_callVv C 8 [.ref (ad 6), .ref (ad 7), .int r1, .int (r3 + (nI 1))] (c_X3_walk l D cy ad b0 C.A r1 (r3 + (nI 1))) cal_X3_walk mw_913 (by decide) rfl rfl ⟨Nat.le_of_ble_eq_true rfl, Nat.le_of_ble_eq_true rfl⟩ ⟨rfl, rfl⟩ ⟨Nat.zero_le _, Nat.zero_le _⟩ (Nat.le_of_ble_eq_true rfl) rfl dX3_meet_108 h (fun σ5 h => ?_)
      obtain ⟨x111, e_x111⟩ : ∃ v : Int32, v = v3 + (nI 1) := ⟨_, rfl⟩
      have h := h x111 e_x111
      refine g_iinc C [some (.ref (ad 8)), some (.ref (ad 6)), some (.ref (ad 7)), some (.int x111), some (.int r1)] dX3_meet_111 rfl e_x111.symm (by decide) rfl ?_
      refine g_goto C 65 dX3_meet_114 (by decide) ?_
      refine g_mask [true, true, true, true, false] rfl ?_
      exact hK65 x111 σ5 h
def wl_X3_meet_65 (Q : Sg → Prop) : Nat → Int32 → Sg → Prop
  | 0, _, _ => False
  | n + 1, v3, σ => wb_X3_meet_65 v3 (wl_X3_meet_65 Q n) Q σ
set_option maxHeartbeats 4000000 in
set_option maxRecDepth 100000 in
theorem kl_X3_meet_65 {Q : Sg → Prop} (C : Cx p s m args meth c D cy ad b0 yX3_meet cX3_meet 5 none) : ∀ (n : Nat) (v3 : Int32) (σ : Sg), wl_X3_meet_65 Q n v3 σ → gV p l e rm_X3_meet s m args below meth c D cy ad b0 Q 5 65 σ [some (.ref (ad 8)), some (.ref (ad 6)), some (.ref (ad 7)), some (.int v3), none] [] := by
  intro n
  induction n with
  | zero => intro v3 σ h; exact False.elim h
  | succ n ih =>
    intro v3 σ h
    exact kb_X3_meet_65 C v3 (wl_X3_meet_65 Q n) (fun z3 σ h => ih z3 σ h) σ h
def wp_X3_meet_29 (Q : Sg → Prop) (σ : Sg) : Prop :=
  ∀ σ1 : Sg, σ1 = stF σ 8 2 (nI 0) → (∀ σ2 : Sg, σ2 = stF σ1 8 3 (nI 0) → (∀ σ3 : Sg, σ3 = stF σ2 8 4 (nI 0) → (∀ σ4 : Sg, σ4 = stF σ3 8 5 (nI 0) → (∀ σ5 : Sg, σ5 = stF σ4 8 6 (-9 : Int32) → (wp_X3_walk (nI 0) (nI 1) σ5 (fun σ6 => ∃ n, wl_X3_meet_65 Q n (nI 0) σ6))))))
set_option maxHeartbeats 4000000 in
set_option maxRecDepth 100000 in
theorem k_X3_meet_29 {Q : Sg → Prop} (C : Cx p s m args meth c D cy ad b0 yX3_meet cX3_meet 5 none) (σ : Sg) (h : wp_X3_meet_29 Q σ) : gV p l e rm_X3_meet s m args below meth c D cy ad b0 Q 5 29 σ [some (.ref (ad 8)), some (.ref (ad 6)), some (.ref (ad 7)), none, none] [] := by
  refine g_aload_n C dX3_meet_29 rfl ?_
  refine g_iconst C dX3_meet_30 kc_0 ?_
  refine fput_8_2_X3_18 C rfl dX3_meet_31 (fun σ1 e_σ1 => ?_)
  have h := h σ1 e_σ1
  refine g_aload_n C dX3_meet_34 rfl ?_
  refine g_iconst C dX3_meet_35 kc_0 ?_
  refine fputZ_8_3_X3_22 C rfl bl_0 dX3_meet_36 (fun σ2 e_σ2 => ?_)
  have h := h σ2 e_σ2
  refine g_aload_n C dX3_meet_39 rfl ?_
  refine g_iconst C dX3_meet_40 kc_0 ?_
  refine fputZ_8_4_X3_26 C rfl bl_0 dX3_meet_41 (fun σ3 e_σ3 => ?_)
  have h := h σ3 e_σ3
  refine g_aload_n C dX3_meet_44 rfl ?_
  refine g_iconst C dX3_meet_45 kc_0 ?_
  refine fputZ_8_5_X3_29 C rfl bl_0 dX3_meet_46 (fun σ4 e_σ4 => ?_)
  have h := h σ4 e_σ4
  refine g_aload_n C dX3_meet_49 rfl ?_
  refine g_bipush C dX3_meet_50 kb_m9 ?_
  refine fput_8_6_X3_32 C rfl dX3_meet_52 (fun σ5 e_σ5 => ?_)
  have h := h σ5 e_σ5
  refine g_aload_n C dX3_meet_55 rfl ?_
  refine g_aload_n C dX3_meet_56 rfl ?_
  refine g_aload_n C dX3_meet_57 rfl ?_
  refine g_iconst C dX3_meet_58 kc_0 ?_
  refine g_iconst C dX3_meet_59 kc_1 ?_
  refine g_callVv C 8 [.ref (ad 6), .ref (ad 7), .int (nI 0), .int (nI 1)] (c_X3_walk l D cy ad b0 C.A (nI 0) (nI 1)) cal_X3_walk mw_913 (by decide) rfl rfl ⟨Nat.le_of_ble_eq_true rfl, Nat.le_of_ble_eq_true rfl⟩ ⟨rfl, rfl⟩ ⟨Nat.zero_le _, Nat.zero_le _⟩ (Nat.le_of_ble_eq_true rfl) rfl dX3_meet_60 h (fun σ6 h => ?_)
  refine g_iconst C dX3_meet_63 kc_0 ?_
  refine g_istore_n C [some (.ref (ad 8)), some (.ref (ad 6)), some (.ref (ad 7)), some (.int (nI 0)), none] dX3_meet_64 (by decide) rfl ?_
  obtain ⟨n, h⟩ := h
  exact kl_X3_meet_65 C n (nI 0) σ6 h
def wb_X3_meet_2 (v3 : Int32) (K2 : Int32 → Sg → Prop) (K29 : Sg → Prop) (Q : Sg → Prop) (σ : Sg) : Prop :=
  wp_X7_size σ (fun r1 σ2 => (((r1 * (nI 60)) ≤ v3 → K29 σ2) ∧ (¬ (r1 * (nI 60)) ≤ v3 → wp_X8_put 43 v3 (-9 : Int32) σ2 (fun σ3 => ∀ x23 : Int32, x23 = v3 + (nI 1) → (K2 x23 σ3)))))
set_option maxHeartbeats 4000000 in
set_option maxRecDepth 100000 in
theorem kb_X3_meet_2 {Q : Sg → Prop} (C : Cx p s m args meth c D cy ad b0 yX3_meet cX3_meet 5 none) (v3 : Int32) (K2 : Int32 → Sg → Prop) (K29 : Sg → Prop) (hK2 : ∀ (z3 : Int32) (σ : Sg), K2 z3 σ → gV p l e rm_X3_meet s m args below meth c D cy ad b0 Q 5 2 σ [some (.ref (ad 8)), some (.ref (ad 6)), some (.ref (ad 7)), some (.int z3), none] []) (hK29 : ∀  (σ : Sg), K29 σ → gV p l e rm_X3_meet s m args below meth c D cy ad b0 Q 5 29 σ [some (.ref (ad 8)), some (.ref (ad 6)), some (.ref (ad 7)), none, none] []) (σ : Sg) (h : wb_X3_meet_2 v3 K2 K29 Q σ) : gV p l e rm_X3_meet s m args below meth c D cy ad b0 Q 5 2 σ [some (.ref (ad 8)), some (.ref (ad 6)), some (.ref (ad 7)), some (.int v3), none] [] := by
  refine g_iload_n C dX3_meet_2 rfl ?_
  refine g_aload_n C dX3_meet_3 rfl ?_
  refine g_callVi C 6 [] (c_X7_size l D cy ad b0 C.A) cal_X7_size mw_912 (by decide) rfl rfl ⟨Nat.le_of_ble_eq_true rfl, Nat.le_of_ble_eq_true rfl⟩ ⟨rfl, rfl⟩ ⟨Nat.zero_le _, Nat.zero_le _⟩ (Nat.le_of_ble_eq_true rfl) rfl dX3_meet_4 h (fun r1 σ2 h => ?_)
  refine g_bipush C dX3_meet_7 kb_60 ?_
  refine g_imul C dX3_meet_9 ?_
  refine g_icmp_ge C 29 dX3_meet_10 (by decide) (fun c10 => ?_) (fun c10 => ?_)
  · have h := h.1 c10
    refine g_mask [true, true, true, false, false] rfl ?_
    exact hK29 σ2 h
  · have h := h.2 c10
    refine g_aload_n C dX3_meet_13 rfl ?_
    refine fget_8_0_X3_9 C rfl dX3_meet_14 ?_
    refine g_iload_n C dX3_meet_17 rfl ?_
    refine g_bipush C dX3_meet_18 kb_m9 ?_
    refine g_callNv C [.ref (ad 43), .int v3, .int (-9 : Int32)] (c_X8_put l D cy ad b0 C.A 43 v3 (-9 : Int32) (by decide)) cal_X8_put nw_28 rfl ⟨Nat.le_of_ble_eq_true rfl, Nat.le_of_ble_eq_true rfl⟩ ⟨rfl, rfl⟩ ⟨Nat.zero_le _, Nat.zero_le _⟩ (Nat.le_of_ble_eq_true rfl) rfl dX3_meet_20 h (fun σ3 h => ?_)
    obtain ⟨x23, e_x23⟩ : ∃ v : Int32, v = v3 + (nI 1) := ⟨_, rfl⟩
    have h := h x23 e_x23
    refine g_iinc C [some (.ref (ad 8)), some (.ref (ad 6)), some (.ref (ad 7)), some (.int x23), none] dX3_meet_23 rfl e_x23.symm (by decide) rfl ?_
    refine g_goto C 2 dX3_meet_26 (by decide) ?_
    exact hK2 x23 σ3 h
def wl_X3_meet_2 (K29 : Sg → Prop) (Q : Sg → Prop) : Nat → Int32 → Sg → Prop
  | 0, _, _ => False
  | n + 1, v3, σ => wb_X3_meet_2 v3 (wl_X3_meet_2 K29 Q n) K29 Q σ
set_option maxHeartbeats 4000000 in
set_option maxRecDepth 100000 in
theorem kl_X3_meet_2 {Q : Sg → Prop} (C : Cx p s m args meth c D cy ad b0 yX3_meet cX3_meet 5 none) (K29 : Sg → Prop) (hK29 : ∀  (σ : Sg), K29 σ → gV p l e rm_X3_meet s m args below meth c D cy ad b0 Q 5 29 σ [some (.ref (ad 8)), some (.ref (ad 6)), some (.ref (ad 7)), none, none] []) : ∀ (n : Nat) (v3 : Int32) (σ : Sg), wl_X3_meet_2 K29 Q n v3 σ → gV p l e rm_X3_meet s m args below meth c D cy ad b0 Q 5 2 σ [some (.ref (ad 8)), some (.ref (ad 6)), some (.ref (ad 7)), some (.int v3), none] [] := by
  intro n
  induction n with
  | zero => intro v3 σ h; exact False.elim h
  | succ n ih =>
    intro v3 σ h
    exact kb_X3_meet_2 C v3 (wl_X3_meet_2 K29 Q n) K29 (fun z3 σ h => ih z3 σ h) hK29 σ h
def wp_X3_meet (σ : Sg) (Q : Sg → Prop) : Prop :=
  ∃ n, wl_X3_meet_2 (fun σ9 => wp_X3_meet_29 Q σ9) Q n (nI 0) σ
set_option maxHeartbeats 4000000 in
set_option maxRecDepth 100000 in
theorem c_X3_meet (l : Launch) (D : va_G) (cy : Nat → ClassId) (ad : Nat → Nat) (b0 : Nat) (hA : AdOk ad b0) : Ctv l D cy ad b0 yX3_meet cX3_meet 5 none rm_X3_meet [.ref (ad 8), .ref (ad 6), .ref (ad 7)] (fun σ Q => wp_X3_meet σ Q) := by
  intro σ Q h
  refine g_enter hA rfl (Nat.le_of_ble_eq_true rfl) [some (.ref (ad 8)), some (.ref (ad 6)), some (.ref (ad 7)), none, none] rfl ?_
  intro p e s m args below meth c C
  refine g_iconst C dX3_meet_0 kc_0 ?_
  refine g_istore_n C [some (.ref (ad 8)), some (.ref (ad 6)), some (.ref (ad 7)), some (.int (nI 0)), none] dX3_meet_1 (by decide) rfl ?_
  obtain ⟨n, h⟩ := h
  exact kl_X3_meet_2 C _ (fun σ9 h => by exact k_X3_meet_29 C σ9 h) n (nI 0) σ h
def rm_X3_shortestApart : Room := { frames := 0, cells := 0, slots := 0, locals := 0 }
def wp_X3_shortestApart (σ : Sg) (Q : Int32 → Sg → Prop) : Prop :=
  Q (gF σ 8 6) σ
set_option maxHeartbeats 4000000 in
set_option maxRecDepth 100000 in
theorem c_X3_shortestApart (l : Launch) (D : va_G) (cy : Nat → ClassId) (ad : Nat → Nat) (b0 : Nat) (hA : AdOk ad b0) : Cti l D cy ad b0 yX3_shortestApart cX3_shortestApart 1 (some .int) rm_X3_shortestApart [.ref (ad 8)] (fun σ Q => wp_X3_shortestApart σ Q) := by
  intro σ Q h
  refine g_enter hA rfl (Nat.le_of_ble_eq_true rfl) [some (.ref (ad 8))] rfl ?_
  intro p e s m args below meth c C
  refine g_aload_n C dX3_shortestApart_0 rfl ?_
  refine fget_8_6_X3_32 C rfl dX3_shortestApart_1 ?_
  exact g_iret C dX3_shortestApart_4 h
def rm_X3_relation : Room := { frames := 0, cells := 0, slots := 0, locals := 0 }
def wp_X3_relation_16 (Q : Int32 → Sg → Prop) (σ : Sg) : Prop :=
  ((¬ (gF σ 8 3) = (nI 0) → ((¬ (gF σ 8 4) = (nI 0) → (((gF σ 8 5) = (nI 0) → Q (nI 4) σ) ∧ (¬ (gF σ 8 5) = (nI 0) → Q (nI 0) σ))) ∧ ((gF σ 8 4) = (nI 0) → Q (nI 3) σ))) ∧ ((gF σ 8 3) = (nI 0) → Q (nI 2) σ))
set_option maxHeartbeats 4000000 in
set_option maxRecDepth 100000 in
theorem k_X3_relation_16 {Q : Int32 → Sg → Prop} (C : Cx p s m args meth c D cy ad b0 yX3_relation cX3_relation 1 (some .int)) (σ : Sg) (h : wp_X3_relation_16 Q σ) : gI p l e rm_X3_relation s m args below meth c D cy ad b0 Q 1 16 σ [some (.ref (ad 8))] [] := by
  refine g_aload_n C dX3_relation_16 rfl ?_
  refine fget_8_3_X3_22 C rfl dX3_relation_17 ?_
  refine g_if_ne C 25 dX3_relation_20 (by decide) (fun c20 => ?_) (fun c20 => ?_)
  · have h := h.1 c20
    refine g_aload_n C dX3_relation_25 rfl ?_
    refine fget_8_4_X3_26 C rfl dX3_relation_26 ?_
    refine g_if_ne C 34 dX3_relation_29 (by decide) (fun c29 => ?_) (fun c29 => ?_)
    · have h := h.1 c29
      refine g_aload_n C dX3_relation_34 rfl ?_
      refine fget_8_5_X3_29 C rfl dX3_relation_35 ?_
      refine g_if_eq C 45 dX3_relation_38 (by decide) (fun c38 => ?_) (fun c38 => ?_)
      · have h := h.1 c38
        refine g_iconst C dX3_relation_45 kc_4 ?_
        exact g_iret C dX3_relation_46 h
      · have h := h.2 c38
        refine g_iconst C dX3_relation_41 kc_0 ?_
        refine g_goto C 46 dX3_relation_42 (by decide) ?_
        exact g_iret C dX3_relation_46 h
    · have h := h.2 c29
      refine g_iconst C dX3_relation_32 kc_3 ?_
      exact g_iret C dX3_relation_33 h
  · have h := h.2 c20
    refine g_iconst C dX3_relation_23 kc_2 ?_
    exact g_iret C dX3_relation_24 h
def wp_X3_relation (σ : Sg) (Q : Int32 → Sg → Prop) : Prop :=
  ((¬ (gF σ 8 4) = (nI 0) → wp_X3_relation_16 Q σ) ∧ ((gF σ 8 4) = (nI 0) → ((¬ (gF σ 8 5) = (nI 0) → wp_X3_relation_16 Q σ) ∧ ((gF σ 8 5) = (nI 0) → Q (nI 1) σ))))
set_option maxHeartbeats 4000000 in
set_option maxRecDepth 100000 in
theorem c_X3_relation (l : Launch) (D : va_G) (cy : Nat → ClassId) (ad : Nat → Nat) (b0 : Nat) (hA : AdOk ad b0) : Cti l D cy ad b0 yX3_relation cX3_relation 1 (some .int) rm_X3_relation [.ref (ad 8)] (fun σ Q => wp_X3_relation σ Q) := by
  intro σ Q h
  refine g_enter hA rfl (Nat.le_of_ble_eq_true rfl) [some (.ref (ad 8))] rfl ?_
  intro p e s m args below meth c C
  refine g_aload_n C dX3_relation_0 rfl ?_
  refine fget_8_4_X3_26 C rfl dX3_relation_1 ?_
  refine g_if_ne C 16 dX3_relation_4 (by decide) (fun c4 => ?_) (fun c4 => ?_)
  · have h := h.1 c4
    exact k_X3_relation_16 C σ h
  · have h := h.2 c4
    refine g_aload_n C dX3_relation_7 rfl ?_
    refine fget_8_5_X3_29 C rfl dX3_relation_8 ?_
    refine g_if_ne C 16 dX3_relation_11 (by decide) (fun c11 => ?_) (fun c11 => ?_)
    · have h := h.1 c11
      exact k_X3_relation_16 C σ h
    · have h := h.2 c11
      refine g_iconst C dX3_relation_14 kc_1 ?_
      exact g_iret C dX3_relation_15 h
end
