section
variable {p : Program} {l : Launch} {e : Env} {s : State} {m : MethodId} {args : Array Value} {below : List Frame} {meth : Method} {c : Code} {D : va_G} {cy : Nat → ClassId} {ad : Nat → Nat} {b0 : Nat}
def rm_X7_clear : Room := { frames := 0, cells := 0, slots := 0, locals := 0 }
def wp_X7_clear (σ : Sg) (Q : Sg → Prop) : Prop :=
  ∀ σ1 : Sg, σ1 = stF σ 6 4 (nI 0) → (Q σ1)
set_option maxHeartbeats 4000000 in
set_option maxRecDepth 100000 in
theorem c_X7_clear (l : Launch) (D : va_G) (cy : Nat → ClassId) (ad : Nat → Nat) (b0 : Nat) (hA : AdOk ad b0) : Ctv l D cy ad b0 yX7_clear cX7_clear 1 none rm_X7_clear [.ref (ad 6)] (fun σ Q => wp_X7_clear σ Q) := by
  intro σ Q h
  refine g_enter hA rfl (Nat.le_of_ble_eq_true rfl) [some (.ref (ad 6))] rfl ?_
  intro p e s m args below meth c C
  refine g_aload_n C dX7_clear_0 rfl ?_
  refine g_iconst C dX7_clear_1 kc_0 ?_
  refine fput_6_4_X7_25 C rfl dX7_clear_2 (fun σ1 e_σ1 => ?_)
  have h := h σ1 e_σ1
  exact g_vret C dX7_clear_5 h
def rm_X7_add : Room := { frames := 1, cells := 0, slots := 0, locals := 22 }
def wp_X7_add_29 (s0 : Int32) (s1 : Int32) (Q : Int32 → Sg → Prop) (σ : Sg) : Prop :=
  wp_X8_put 36 s1 s0 σ (fun σ1 => ∀ σ2 : Sg, σ2 = stF σ1 6 4 ((gF σ1 6 4) + (nI 1)) → (Q ((gF σ2 6 4) - (nI 1)) σ2))
set_option maxHeartbeats 4000000 in
set_option maxRecDepth 100000 in
theorem k_X7_add_29 {Q : Int32 → Sg → Prop} (C : Cx p s m args meth c D cy ad b0 yX7_add cX7_add 2 (some .int)) (s0 : Int32) (s1 : Int32) (σ : Sg) (h : wp_X7_add_29 s0 s1 Q σ) : gI p l e rm_X7_add s m args below meth c D cy ad b0 Q 2 29 σ [some (.ref (ad 6)), none] [.int s0, .int s1, .ref (ad 36)] := by
  refine g_callNv C [.ref (ad 36), .int s1, .int s0] (c_X8_put l D cy ad b0 C.A 36 s1 s0 (by decide)) cal_X8_put nw_19 rfl ⟨Nat.le_of_ble_eq_true rfl, Nat.le_of_ble_eq_true rfl⟩ ⟨rfl, rfl⟩ ⟨Nat.zero_le _, Nat.zero_le _⟩ (Nat.le_of_ble_eq_true rfl) rfl dX7_add_29 h (fun σ1 h => ?_)
  refine g_aload_n C dX7_add_32 rfl ?_
  refine g_dup C dX7_add_33 rfl ?_
  refine fget_6_4_X7_25 C rfl dX7_add_34 ?_
  refine g_iconst C dX7_add_37 kc_1 ?_
  refine g_iadd C dX7_add_38 ?_
  refine fput_6_4_X7_25 C rfl dX7_add_39 (fun σ2 e_σ2 => ?_)
  have h := h σ2 e_σ2
  refine g_aload_n C dX7_add_42 rfl ?_
  refine fget_6_4_X7_25 C rfl dX7_add_43 ?_
  refine g_iconst C dX7_add_46 kc_1 ?_
  refine g_isub C dX7_add_47 ?_
  exact g_iret C dX7_add_48 h
def wp_X7_add (a0 : Int32) (σ : Sg) (Q : Int32 → Sg → Prop) : Prop :=
  (((gF σ 6 4) < (nI 60) → ((a0 = (nI 0) → wp_X7_add_29 (nI 0) (gF σ 6 4) Q σ) ∧ (¬ a0 = (nI 0) → wp_X7_add_29 (nI 1) (gF σ 6 4) Q σ))) ∧ (¬ (gF σ 6 4) < (nI 60) → Q (-9 : Int32) σ))
set_option maxHeartbeats 4000000 in
set_option maxRecDepth 100000 in
theorem c_X7_add (l : Launch) (D : va_G) (cy : Nat → ClassId) (ad : Nat → Nat) (b0 : Nat) (hA : AdOk ad b0) (a0 : Int32) : Cti l D cy ad b0 yX7_add cX7_add 2 (some .int) rm_X7_add [.ref (ad 6), .int a0] (fun σ Q => wp_X7_add a0 σ Q) := by
  intro σ Q h
  refine g_enter hA rfl (Nat.le_of_ble_eq_true rfl) [some (.ref (ad 6)), some (.int a0)] rfl ?_
  intro p e s m args below meth c C
  refine g_aload_n C dX7_add_0 rfl ?_
  refine fget_6_4_X7_25 C rfl dX7_add_1 ?_
  refine g_bipush C dX7_add_4 kb_60 ?_
  refine g_icmp_lt C 12 dX7_add_6 (by decide) (fun c6 => ?_) (fun c6 => ?_)
  · have h := h.1 c6
    refine g_aload_n C dX7_add_12 rfl ?_
    refine fget_6_1_X7_15 C rfl dX7_add_13 ?_
    refine g_aload_n C dX7_add_16 rfl ?_
    refine fget_6_4_X7_25 C rfl dX7_add_17 ?_
    refine g_iload_n C dX7_add_20 rfl ?_
    refine g_if_eq C 28 dX7_add_21 (by decide) (fun c21 => ?_) (fun c21 => ?_)
    · have h := h.1 c21
      refine g_iconst C dX7_add_28 kc_0 ?_
      refine g_mask [true, false] rfl ?_
      exact k_X7_add_29 C (nI 0) (gF σ 6 4) σ h
    · have h := h.2 c21
      refine g_iconst C dX7_add_24 kc_1 ?_
      refine g_goto C 29 dX7_add_25 (by decide) ?_
      refine g_mask [true, false] rfl ?_
      exact k_X7_add_29 C (nI 1) (gF σ 6 4) σ h
  · have h := h.2 c6
    refine g_bipush C dX7_add_9 kb_m9 ?_
    exact g_iret C dX7_add_11 h
def rm_X7_lead : Room := { frames := 1, cells := 0, slots := 0, locals := 22 }
def wp_X7_lead (a0 : Int32) (a1 : Int32) (a2 : Int32) (σ : Sg) (Q : Sg → Prop) : Prop :=
  wp_X8_put 35 ((a0 * (nI 4)) + a1) a2 σ (fun σ1 => Q σ1)
set_option maxHeartbeats 4000000 in
set_option maxRecDepth 100000 in
theorem c_X7_lead (l : Launch) (D : va_G) (cy : Nat → ClassId) (ad : Nat → Nat) (b0 : Nat) (hA : AdOk ad b0) (a0 : Int32) (a1 : Int32) (a2 : Int32) : Ctv l D cy ad b0 yX7_lead cX7_lead 4 none rm_X7_lead [.ref (ad 6), .int a0, .int a1, .int a2] (fun σ Q => wp_X7_lead a0 a1 a2 σ Q) := by
  intro σ Q h
  refine g_enter hA rfl (Nat.le_of_ble_eq_true rfl) [some (.ref (ad 6)), some (.int a0), some (.int a1), some (.int a2)] rfl ?_
  intro p e s m args below meth c C
  refine g_aload_n C dX7_lead_0 rfl ?_
  refine fget_6_0_X7_9 C rfl dX7_lead_1 ?_
  refine g_iload_n C dX7_lead_4 rfl ?_
  refine g_iconst C dX7_lead_5 kc_4 ?_
  refine g_imul C dX7_lead_6 ?_
  refine g_iload_n C dX7_lead_7 rfl ?_
  refine g_iadd C dX7_lead_8 ?_
  refine g_iload_n C dX7_lead_9 rfl ?_
  refine g_callNv C [.ref (ad 35), .int ((a0 * (nI 4)) + a1), .int a2] (c_X8_put l D cy ad b0 C.A 35 ((a0 * (nI 4)) + a1) a2 (by decide)) cal_X8_put nw_19 rfl ⟨Nat.le_of_ble_eq_true rfl, Nat.le_of_ble_eq_true rfl⟩ ⟨rfl, rfl⟩ ⟨Nat.zero_le _, Nat.zero_le _⟩ (Nat.le_of_ble_eq_true rfl) rfl dX7_lead_10 h (fun σ1 h => ?_)
  exact g_vret C dX7_lead_13 h
def rm_X7_isThere : Room := { frames := 0, cells := 0, slots := 0, locals := 0 }
def wp_X7_isThere (σ : Sg) (Q : Int32 → Sg → Prop) : Prop :=
  (((gF σ 6 4) ≤ (nI 0) → Q (nI 0) σ) ∧ (¬ (gF σ 6 4) ≤ (nI 0) → Q (nI 1) σ))
set_option maxHeartbeats 4000000 in
set_option maxRecDepth 100000 in
theorem c_X7_isThere (l : Launch) (D : va_G) (cy : Nat → ClassId) (ad : Nat → Nat) (b0 : Nat) (hA : AdOk ad b0) : Cti l D cy ad b0 yX7_isThere cX7_isThere 1 (some .boolean) rm_X7_isThere [.ref (ad 6)] (fun σ Q => wp_X7_isThere σ Q) := by
  intro σ Q h
  refine g_enter hA rfl (Nat.le_of_ble_eq_true rfl) [some (.ref (ad 6))] rfl ?_
  intro p e s m args below meth c C
  refine g_aload_n C dX7_isThere_0 rfl ?_
  refine fget_6_4_X7_25 C rfl dX7_isThere_1 ?_
  refine g_if_le C 11 dX7_isThere_4 (by decide) (fun c4 => ?_) (fun c4 => ?_)
  · have h := h.1 c4
    refine g_iconst C dX7_isThere_11 kc_0 ?_
    exact g_zret C (narrow_bl bl_0) dX7_isThere_12 h
  · have h := h.2 c4
    refine g_iconst C dX7_isThere_7 kc_1 ?_
    refine g_goto C 12 dX7_isThere_8 (by decide) ?_
    exact g_zret C (narrow_bl bl_1) dX7_isThere_12 h
def rm_X7_isTherek : Room := { frames := 0, cells := 0, slots := 0, locals := 0 }
def wp_X7_isTherek (σ : Sg) (Q : Int32 → Sg → Prop) : Prop :=
  (((gF σ 7 4) ≤ (nI 0) → Q (nI 0) σ) ∧ (¬ (gF σ 7 4) ≤ (nI 0) → Q (nI 1) σ))
set_option maxHeartbeats 4000000 in
set_option maxRecDepth 100000 in
theorem c_X7_isTherek (l : Launch) (D : va_G) (cy : Nat → ClassId) (ad : Nat → Nat) (b0 : Nat) (hA : AdOk ad b0) : Cti l D cy ad b0 yX7_isThere cX7_isThere 1 (some .boolean) rm_X7_isTherek [.ref (ad 7)] (fun σ Q => wp_X7_isTherek σ Q) := by
  intro σ Q h
  refine g_enter hA rfl (Nat.le_of_ble_eq_true rfl) [some (.ref (ad 7))] rfl ?_
  intro p e s m args below meth c C
  refine g_aload_n C dX7_isThere_0 rfl ?_
  refine fget_7_4_X7_25 C rfl dX7_isThere_1 ?_
  refine g_if_le C 11 dX7_isThere_4 (by decide) (fun c4 => ?_) (fun c4 => ?_)
  · have h := h.1 c4
    refine g_iconst C dX7_isThere_11 kc_0 ?_
    exact g_zret C (narrow_bl bl_0) dX7_isThere_12 h
  · have h := h.2 c4
    refine g_iconst C dX7_isThere_7 kc_1 ?_
    refine g_goto C 12 dX7_isThere_8 (by decide) ?_
    exact g_zret C (narrow_bl bl_1) dX7_isThere_12 h
def rm_X7_size : Room := { frames := 0, cells := 0, slots := 0, locals := 0 }
def wp_X7_size (σ : Sg) (Q : Int32 → Sg → Prop) : Prop :=
  Q (gF σ 6 4) σ
set_option maxHeartbeats 4000000 in
set_option maxRecDepth 100000 in
theorem c_X7_size (l : Launch) (D : va_G) (cy : Nat → ClassId) (ad : Nat → Nat) (b0 : Nat) (hA : AdOk ad b0) : Cti l D cy ad b0 yX7_size cX7_size 1 (some .int) rm_X7_size [.ref (ad 6)] (fun σ Q => wp_X7_size σ Q) := by
  intro σ Q h
  refine g_enter hA rfl (Nat.le_of_ble_eq_true rfl) [some (.ref (ad 6))] rfl ?_
  intro p e s m args below meth c C
  refine g_aload_n C dX7_size_0 rfl ?_
  refine fget_6_4_X7_25 C rfl dX7_size_1 ?_
  exact g_iret C dX7_size_4 h
def rm_X7_sizek : Room := { frames := 0, cells := 0, slots := 0, locals := 0 }
def wp_X7_sizek (σ : Sg) (Q : Int32 → Sg → Prop) : Prop :=
  Q (gF σ 7 4) σ
set_option maxHeartbeats 4000000 in
set_option maxRecDepth 100000 in
theorem c_X7_sizek (l : Launch) (D : va_G) (cy : Nat → ClassId) (ad : Nat → Nat) (b0 : Nat) (hA : AdOk ad b0) : Cti l D cy ad b0 yX7_size cX7_size 1 (some .int) rm_X7_sizek [.ref (ad 7)] (fun σ Q => wp_X7_sizek σ Q) := by
  intro σ Q h
  refine g_enter hA rfl (Nat.le_of_ble_eq_true rfl) [some (.ref (ad 7))] rfl ?_
  intro p e s m args below meth c C
  refine g_aload_n C dX7_size_0 rfl ?_
  refine fget_7_4_X7_25 C rfl dX7_size_1 ?_
  exact g_iret C dX7_size_4 h
def rm_X7_has : Room := { frames := 0, cells := 0, slots := 0, locals := 0 }
def wp_X7_has (a0 : Int32) (σ : Sg) (Q : Int32 → Sg → Prop) : Prop :=
  ((a0 < (nI 0) → Q (nI 0) σ) ∧ (¬ a0 < (nI 0) → (((gF σ 6 4) ≤ a0 → Q (nI 0) σ) ∧ (¬ (gF σ 6 4) ≤ a0 → Q (nI 1) σ))))
set_option maxHeartbeats 4000000 in
set_option maxRecDepth 100000 in
theorem c_X7_has (l : Launch) (D : va_G) (cy : Nat → ClassId) (ad : Nat → Nat) (b0 : Nat) (hA : AdOk ad b0) (a0 : Int32) : Cti l D cy ad b0 yX7_has cX7_has 2 (some .boolean) rm_X7_has [.ref (ad 6), .int a0] (fun σ Q => wp_X7_has a0 σ Q) := by
  intro σ Q h
  refine g_enter hA rfl (Nat.le_of_ble_eq_true rfl) [some (.ref (ad 6)), some (.int a0)] rfl ?_
  intro p e s m args below meth c C
  refine g_iload_n C dX7_has_0 rfl ?_
  refine g_if_lt C 16 dX7_has_1 (by decide) (fun c1 => ?_) (fun c1 => ?_)
  · have h := h.1 c1
    refine g_iconst C dX7_has_16 kc_0 ?_
    exact g_zret C (narrow_bl bl_0) dX7_has_17 h
  · have h := h.2 c1
    refine g_iload_n C dX7_has_4 rfl ?_
    refine g_aload_n C dX7_has_5 rfl ?_
    refine fget_6_4_X7_25 C rfl dX7_has_6 ?_
    refine g_icmp_ge C 16 dX7_has_9 (by decide) (fun c9 => ?_) (fun c9 => ?_)
    · have h := h.1 c9
      refine g_iconst C dX7_has_16 kc_0 ?_
      exact g_zret C (narrow_bl bl_0) dX7_has_17 h
    · have h := h.2 c9
      refine g_iconst C dX7_has_12 kc_1 ?_
      refine g_goto C 17 dX7_has_13 (by decide) ?_
      exact g_zret C (narrow_bl bl_1) dX7_has_17 h
def rm_X7_next : Room := { frames := 1, cells := 0, slots := 0, locals := 21 }
def wp_X7_next (a0 : Int32) (a1 : Int32) (σ : Sg) (Q : Int32 → Sg → Prop) : Prop :=
  wp_X8_pick 35 ((a0 * (nI 4)) + a1) σ (fun r1 σ2 => Q r1 σ2)
set_option maxHeartbeats 4000000 in
set_option maxRecDepth 100000 in
theorem c_X7_next (l : Launch) (D : va_G) (cy : Nat → ClassId) (ad : Nat → Nat) (b0 : Nat) (hA : AdOk ad b0) (a0 : Int32) (a1 : Int32) : Cti l D cy ad b0 yX7_next cX7_next 3 (some .int) rm_X7_next [.ref (ad 6), .int a0, .int a1] (fun σ Q => wp_X7_next a0 a1 σ Q) := by
  intro σ Q h
  refine g_enter hA rfl (Nat.le_of_ble_eq_true rfl) [some (.ref (ad 6)), some (.int a0), some (.int a1)] rfl ?_
  intro p e s m args below meth c C
  refine g_aload_n C dX7_next_0 rfl ?_
  refine fget_6_0_X7_9 C rfl dX7_next_1 ?_
  refine g_iload_n C dX7_next_4 rfl ?_
  refine g_iconst C dX7_next_5 kc_4 ?_
  refine g_imul C dX7_next_6 ?_
  refine g_iload_n C dX7_next_7 rfl ?_
  refine g_iadd C dX7_next_8 ?_
  refine g_callNi C [.ref (ad 35), .int ((a0 * (nI 4)) + a1)] (c_X8_pick l D cy ad b0 C.A 35 ((a0 * (nI 4)) + a1) (by decide)) cal_X8_pick nw_20 rfl ⟨Nat.le_of_ble_eq_true rfl, Nat.le_of_ble_eq_true rfl⟩ ⟨rfl, rfl⟩ ⟨Nat.zero_le _, Nat.zero_le _⟩ (Nat.le_of_ble_eq_true rfl) rfl dX7_next_9 h (fun r1 σ2 h => ?_)
  exact g_iret C dX7_next_12 h
def rm_X7_nextk : Room := { frames := 1, cells := 0, slots := 0, locals := 21 }
def wp_X7_nextk (a0 : Int32) (a1 : Int32) (σ : Sg) (Q : Int32 → Sg → Prop) : Prop :=
  wp_X8_pick 39 ((a0 * (nI 4)) + a1) σ (fun r1 σ2 => Q r1 σ2)
set_option maxHeartbeats 4000000 in
set_option maxRecDepth 100000 in
theorem c_X7_nextk (l : Launch) (D : va_G) (cy : Nat → ClassId) (ad : Nat → Nat) (b0 : Nat) (hA : AdOk ad b0) (a0 : Int32) (a1 : Int32) : Cti l D cy ad b0 yX7_next cX7_next 3 (some .int) rm_X7_nextk [.ref (ad 7), .int a0, .int a1] (fun σ Q => wp_X7_nextk a0 a1 σ Q) := by
  intro σ Q h
  refine g_enter hA rfl (Nat.le_of_ble_eq_true rfl) [some (.ref (ad 7)), some (.int a0), some (.int a1)] rfl ?_
  intro p e s m args below meth c C
  refine g_aload_n C dX7_next_0 rfl ?_
  refine fget_7_0_X7_9 C rfl dX7_next_1 ?_
  refine g_iload_n C dX7_next_4 rfl ?_
  refine g_iconst C dX7_next_5 kc_4 ?_
  refine g_imul C dX7_next_6 ?_
  refine g_iload_n C dX7_next_7 rfl ?_
  refine g_iadd C dX7_next_8 ?_
  refine g_callNi C [.ref (ad 39), .int ((a0 * (nI 4)) + a1)] (c_X8_pick l D cy ad b0 C.A 39 ((a0 * (nI 4)) + a1) (by decide)) cal_X8_pick nw_20 rfl ⟨Nat.le_of_ble_eq_true rfl, Nat.le_of_ble_eq_true rfl⟩ ⟨rfl, rfl⟩ ⟨Nat.zero_le _, Nat.zero_le _⟩ (Nat.le_of_ble_eq_true rfl) rfl dX7_next_9 h (fun r1 σ2 h => ?_)
  exact g_iret C dX7_next_12 h
def rm_X7_verdictOf : Room := { frames := 1, cells := 0, slots := 0, locals := 21 }
def wp_X7_verdictOf (a0 : Int32) (σ : Sg) (Q : Int32 → Sg → Prop) : Prop :=
  wp_X8_pick 36 a0 σ (fun r1 σ2 => Q r1 σ2)
set_option maxHeartbeats 4000000 in
set_option maxRecDepth 100000 in
theorem c_X7_verdictOf (l : Launch) (D : va_G) (cy : Nat → ClassId) (ad : Nat → Nat) (b0 : Nat) (hA : AdOk ad b0) (a0 : Int32) : Cti l D cy ad b0 yX7_verdictOf cX7_verdictOf 2 (some .int) rm_X7_verdictOf [.ref (ad 6), .int a0] (fun σ Q => wp_X7_verdictOf a0 σ Q) := by
  intro σ Q h
  refine g_enter hA rfl (Nat.le_of_ble_eq_true rfl) [some (.ref (ad 6)), some (.int a0)] rfl ?_
  intro p e s m args below meth c C
  refine g_aload_n C dX7_verdictOf_0 rfl ?_
  refine fget_6_1_X7_15 C rfl dX7_verdictOf_1 ?_
  refine g_iload_n C dX7_verdictOf_4 rfl ?_
  refine g_callNi C [.ref (ad 36), .int a0] (c_X8_pick l D cy ad b0 C.A 36 a0 (by decide)) cal_X8_pick nw_20 rfl ⟨Nat.le_of_ble_eq_true rfl, Nat.le_of_ble_eq_true rfl⟩ ⟨rfl, rfl⟩ ⟨Nat.zero_le _, Nat.zero_le _⟩ (Nat.le_of_ble_eq_true rfl) rfl dX7_verdictOf_5 h (fun r1 σ2 h => ?_)
  exact g_iret C dX7_verdictOf_8 h
def rm_X7_verdictOfk : Room := { frames := 1, cells := 0, slots := 0, locals := 21 }
def wp_X7_verdictOfk (a0 : Int32) (σ : Sg) (Q : Int32 → Sg → Prop) : Prop :=
  wp_X8_pick 40 a0 σ (fun r1 σ2 => Q r1 σ2)
set_option maxHeartbeats 4000000 in
set_option maxRecDepth 100000 in
theorem c_X7_verdictOfk (l : Launch) (D : va_G) (cy : Nat → ClassId) (ad : Nat → Nat) (b0 : Nat) (hA : AdOk ad b0) (a0 : Int32) : Cti l D cy ad b0 yX7_verdictOf cX7_verdictOf 2 (some .int) rm_X7_verdictOfk [.ref (ad 7), .int a0] (fun σ Q => wp_X7_verdictOfk a0 σ Q) := by
  intro σ Q h
  refine g_enter hA rfl (Nat.le_of_ble_eq_true rfl) [some (.ref (ad 7)), some (.int a0)] rfl ?_
  intro p e s m args below meth c C
  refine g_aload_n C dX7_verdictOf_0 rfl ?_
  refine fget_7_1_X7_15 C rfl dX7_verdictOf_1 ?_
  refine g_iload_n C dX7_verdictOf_4 rfl ?_
  refine g_callNi C [.ref (ad 40), .int a0] (c_X8_pick l D cy ad b0 C.A 40 a0 (by decide)) cal_X8_pick nw_20 rfl ⟨Nat.le_of_ble_eq_true rfl, Nat.le_of_ble_eq_true rfl⟩ ⟨rfl, rfl⟩ ⟨Nat.zero_le _, Nat.zero_le _⟩ (Nat.le_of_ble_eq_true rfl) rfl dX7_verdictOf_5 h (fun r1 σ2 h => ?_)
  exact g_iret C dX7_verdictOf_8 h
def rm_X7_keeps : Room := { frames := 2, cells := 0, slots := 0, locals := 42 }
def wp_X7_keeps (a0 : Int32) (σ : Sg) (Q : Int32 → Sg → Prop) : Prop :=
  wp_X7_verdictOf a0 σ (fun r1 σ2 => (((r1 &&& (nI 1)) = (nI 0) → Q (nI 0) σ2) ∧ (¬ (r1 &&& (nI 1)) = (nI 0) → Q (nI 1) σ2)))
set_option maxHeartbeats 4000000 in
set_option maxRecDepth 100000 in
theorem c_X7_keeps (l : Launch) (D : va_G) (cy : Nat → ClassId) (ad : Nat → Nat) (b0 : Nat) (hA : AdOk ad b0) (a0 : Int32) : Cti l D cy ad b0 yX7_keeps cX7_keeps 2 (some .boolean) rm_X7_keeps [.ref (ad 6), .int a0] (fun σ Q => wp_X7_keeps a0 σ Q) := by
  intro σ Q h
  refine g_enter hA rfl (Nat.le_of_ble_eq_true rfl) [some (.ref (ad 6)), some (.int a0)] rfl ?_
  intro p e s m args below meth c C
  refine g_aload_n C dX7_keeps_0 rfl ?_
  refine g_iload_n C dX7_keeps_1 rfl ?_
  refine g_callVi C 6 [.int a0] (c_X7_verdictOf l D cy ad b0 C.A a0) cal_X7_verdictOf mw_492 (by decide) rfl rfl ⟨Nat.le_of_ble_eq_true rfl, Nat.le_of_ble_eq_true rfl⟩ ⟨rfl, rfl⟩ ⟨Nat.zero_le _, Nat.zero_le _⟩ (Nat.le_of_ble_eq_true rfl) rfl dX7_keeps_2 h (fun r1 σ2 h => ?_)
  refine g_iconst C dX7_keeps_5 kc_1 ?_
  refine g_iand C dX7_keeps_6 ?_
  refine g_if_eq C 14 dX7_keeps_7 (by decide) (fun c7 => ?_) (fun c7 => ?_)
  · have h := h.1 c7
    refine g_iconst C dX7_keeps_14 kc_0 ?_
    exact g_zret C (narrow_bl bl_0) dX7_keeps_15 h
  · have h := h.2 c7
    refine g_iconst C dX7_keeps_10 kc_1 ?_
    refine g_goto C 15 dX7_keeps_11 (by decide) ?_
    exact g_zret C (narrow_bl bl_1) dX7_keeps_15 h
def rm_X7_keepsk : Room := { frames := 2, cells := 0, slots := 0, locals := 42 }
def wp_X7_keepsk (a0 : Int32) (σ : Sg) (Q : Int32 → Sg → Prop) : Prop :=
  wp_X7_verdictOfk a0 σ (fun r1 σ2 => (((r1 &&& (nI 1)) = (nI 0) → Q (nI 0) σ2) ∧ (¬ (r1 &&& (nI 1)) = (nI 0) → Q (nI 1) σ2)))
set_option maxHeartbeats 4000000 in
set_option maxRecDepth 100000 in
theorem c_X7_keepsk (l : Launch) (D : va_G) (cy : Nat → ClassId) (ad : Nat → Nat) (b0 : Nat) (hA : AdOk ad b0) (a0 : Int32) : Cti l D cy ad b0 yX7_keeps cX7_keeps 2 (some .boolean) rm_X7_keepsk [.ref (ad 7), .int a0] (fun σ Q => wp_X7_keepsk a0 σ Q) := by
  intro σ Q h
  refine g_enter hA rfl (Nat.le_of_ble_eq_true rfl) [some (.ref (ad 7)), some (.int a0)] rfl ?_
  intro p e s m args below meth c C
  refine g_aload_n C dX7_keeps_0 rfl ?_
  refine g_iload_n C dX7_keeps_1 rfl ?_
  refine g_callVi C 7 [.int a0] (c_X7_verdictOfk l D cy ad b0 C.A a0) cal_X7_verdictOf mw_492 (by decide) rfl rfl ⟨Nat.le_of_ble_eq_true rfl, Nat.le_of_ble_eq_true rfl⟩ ⟨rfl, rfl⟩ ⟨Nat.zero_le _, Nat.zero_le _⟩ (Nat.le_of_ble_eq_true rfl) rfl dX7_keeps_2 h (fun r1 σ2 h => ?_)
  refine g_iconst C dX7_keeps_5 kc_1 ?_
  refine g_iand C dX7_keeps_6 ?_
  refine g_if_eq C 14 dX7_keeps_7 (by decide) (fun c7 => ?_) (fun c7 => ?_)
  · have h := h.1 c7
    refine g_iconst C dX7_keeps_14 kc_0 ?_
    exact g_zret C (narrow_bl bl_0) dX7_keeps_15 h
  · have h := h.2 c7
    refine g_iconst C dX7_keeps_10 kc_1 ?_
    refine g_goto C 15 dX7_keeps_11 (by decide) ?_
    exact g_zret C (narrow_bl bl_1) dX7_keeps_15 h
def rm_X7_isSure : Room := { frames := 2, cells := 0, slots := 0, locals := 42 }
def wp_X7_isSure (a0 : Int32) (σ : Sg) (Q : Int32 → Sg → Prop) : Prop :=
  wp_X7_verdictOf a0 σ (fun r1 σ2 => (((r1 &&& (nI 2)) = (nI 0) → Q (nI 0) σ2) ∧ (¬ (r1 &&& (nI 2)) = (nI 0) → Q (nI 1) σ2)))
set_option maxHeartbeats 4000000 in
set_option maxRecDepth 100000 in
theorem c_X7_isSure (l : Launch) (D : va_G) (cy : Nat → ClassId) (ad : Nat → Nat) (b0 : Nat) (hA : AdOk ad b0) (a0 : Int32) : Cti l D cy ad b0 yX7_isSure cX7_isSure 2 (some .boolean) rm_X7_isSure [.ref (ad 6), .int a0] (fun σ Q => wp_X7_isSure a0 σ Q) := by
  intro σ Q h
  refine g_enter hA rfl (Nat.le_of_ble_eq_true rfl) [some (.ref (ad 6)), some (.int a0)] rfl ?_
  intro p e s m args below meth c C
  refine g_aload_n C dX7_isSure_0 rfl ?_
  refine g_iload_n C dX7_isSure_1 rfl ?_
  refine g_callVi C 6 [.int a0] (c_X7_verdictOf l D cy ad b0 C.A a0) cal_X7_verdictOf mw_492 (by decide) rfl rfl ⟨Nat.le_of_ble_eq_true rfl, Nat.le_of_ble_eq_true rfl⟩ ⟨rfl, rfl⟩ ⟨Nat.zero_le _, Nat.zero_le _⟩ (Nat.le_of_ble_eq_true rfl) rfl dX7_isSure_2 h (fun r1 σ2 h => ?_)
  refine g_iconst C dX7_isSure_5 kc_2 ?_
  refine g_iand C dX7_isSure_6 ?_
  refine g_if_eq C 14 dX7_isSure_7 (by decide) (fun c7 => ?_) (fun c7 => ?_)
  · have h := h.1 c7
    refine g_iconst C dX7_isSure_14 kc_0 ?_
    exact g_zret C (narrow_bl bl_0) dX7_isSure_15 h
  · have h := h.2 c7
    refine g_iconst C dX7_isSure_10 kc_1 ?_
    refine g_goto C 15 dX7_isSure_11 (by decide) ?_
    exact g_zret C (narrow_bl bl_1) dX7_isSure_15 h
def rm_X7_sureStates : Room := { frames := 3, cells := 0, slots := 0, locals := 63 }
def wp_X7_sureStates_26 (v2 : Int32) (s0 : Int32) (s1 : Int32) (K4 : Int32 → Int32 → Sg → Prop) (Q : Int32 → Sg → Prop) (σ : Sg) : Prop :=
  ∀ x27 : Int32, x27 = (s1 + s0) → (∀ x28 : Int32, x28 = v2 + (nI 1) → (K4 x27 x28 σ))
set_option maxHeartbeats 4000000 in
set_option maxRecDepth 100000 in
theorem k_X7_sureStates_26 {Q : Int32 → Sg → Prop} (C : Cx p s m args meth c D cy ad b0 yX7_sureStates cX7_sureStates 3 (some .int)) (v2 : Int32) (s0 : Int32) (s1 : Int32) (K4 : Int32 → Int32 → Sg → Prop) (hK4 : ∀ (z1 : Int32) (z2 : Int32) (σ : Sg), K4 z1 z2 σ → gI p l e rm_X7_sureStates s m args below meth c D cy ad b0 Q 3 4 σ [some (.ref (ad 6)), some (.int z1), some (.int z2)] []) (σ : Sg) (h : wp_X7_sureStates_26 v2 s0 s1 K4 Q σ) : gI p l e rm_X7_sureStates s m args below meth c D cy ad b0 Q 3 26 σ [some (.ref (ad 6)), none, some (.int v2)] [.int s0, .int s1] := by
  refine g_iadd C dX7_sureStates_26 ?_
  refine g_topi (fun x27 e_x27 => ?_)
  have h := h x27 e_x27
  refine g_istore_n C [some (.ref (ad 6)), some (.int x27), some (.int v2)] dX7_sureStates_27 (by decide) rfl ?_
  obtain ⟨x28, e_x28⟩ : ∃ v : Int32, v = v2 + (nI 1) := ⟨_, rfl⟩
  have h := h x28 e_x28
  refine g_iinc C [some (.ref (ad 6)), some (.int x27), some (.int x28)] dX7_sureStates_28 rfl e_x28.symm (by decide) rfl ?_
  refine g_goto C 4 dX7_sureStates_31 (by decide) ?_
  exact hK4 x27 x28 σ h
def wb_X7_sureStates_4 (v1 : Int32) (v2 : Int32) (K4 : Int32 → Int32 → Sg → Prop) (Q : Int32 → Sg → Prop) (σ : Sg) : Prop :=
  (((gF σ 6 4) ≤ v2 → Q v1 σ) ∧ (¬ (gF σ 6 4) ≤ v2 → wp_X7_isSure v2 σ (fun r1 σ2 => ((r1 = (nI 0) → wp_X7_sureStates_26 v2 (nI 0) v1 K4 Q σ2) ∧ (¬ r1 = (nI 0) → wp_X7_sureStates_26 v2 (nI 1) v1 K4 Q σ2)))))
set_option maxHeartbeats 4000000 in
set_option maxRecDepth 100000 in
theorem kb_X7_sureStates_4 {Q : Int32 → Sg → Prop} (C : Cx p s m args meth c D cy ad b0 yX7_sureStates cX7_sureStates 3 (some .int)) (v1 : Int32) (v2 : Int32) (K4 : Int32 → Int32 → Sg → Prop) (hK4 : ∀ (z1 : Int32) (z2 : Int32) (σ : Sg), K4 z1 z2 σ → gI p l e rm_X7_sureStates s m args below meth c D cy ad b0 Q 3 4 σ [some (.ref (ad 6)), some (.int z1), some (.int z2)] []) (σ : Sg) (h : wb_X7_sureStates_4 v1 v2 K4 Q σ) : gI p l e rm_X7_sureStates s m args below meth c D cy ad b0 Q 3 4 σ [some (.ref (ad 6)), some (.int v1), some (.int v2)] [] := by
  refine g_iload_n C dX7_sureStates_4 rfl ?_
  refine g_aload_n C dX7_sureStates_5 rfl ?_
  refine fget_6_4_X7_25 C rfl dX7_sureStates_6 ?_
  refine g_icmp_ge C 34 dX7_sureStates_9 (by decide) (fun c9 => ?_) (fun c9 => ?_)
  · have h := h.1 c9
    refine g_iload_n C dX7_sureStates_34 rfl ?_
    exact g_iret C dX7_sureStates_35 h
  · have h := h.2 c9
    refine g_iload_n C dX7_sureStates_12 rfl ?_
    refine g_aload_n C dX7_sureStates_13 rfl ?_
    refine g_iload_n C dX7_sureStates_14 rfl ?_
    refine g_callVi C 6 [.int v2] (c_X7_isSure l D cy ad b0 C.A v2) cal_X7_isSure mw_960 (by decide) rfl rfl ⟨Nat.le_of_ble_eq_true rfl, Nat.le_of_ble_eq_true rfl⟩ ⟨rfl, rfl⟩ ⟨Nat.zero_le _, Nat.zero_le _⟩ (Nat.le_of_ble_eq_true rfl) rfl dX7_sureStates_15 h (fun r1 σ2 h => ?_)
    refine g_if_eq C 25 dX7_sureStates_18 (by decide) (fun c18 => ?_) (fun c18 => ?_)
    · have h := h.1 c18
      refine g_iconst C dX7_sureStates_25 kc_0 ?_
      refine g_mask [true, false, true] rfl ?_
      exact k_X7_sureStates_26 C v2 (nI 0) v1 K4 hK4 σ2 h
    · have h := h.2 c18
      refine g_iconst C dX7_sureStates_21 kc_1 ?_
      refine g_goto C 26 dX7_sureStates_22 (by decide) ?_
      refine g_mask [true, false, true] rfl ?_
      exact k_X7_sureStates_26 C v2 (nI 1) v1 K4 hK4 σ2 h
def wl_X7_sureStates_4 (Q : Int32 → Sg → Prop) : Nat → Int32 → Int32 → Sg → Prop
  | 0, _, _, _ => False
  | n + 1, v1, v2, σ => wb_X7_sureStates_4 v1 v2 (wl_X7_sureStates_4 Q n) Q σ
set_option maxHeartbeats 4000000 in
set_option maxRecDepth 100000 in
theorem kl_X7_sureStates_4 {Q : Int32 → Sg → Prop} (C : Cx p s m args meth c D cy ad b0 yX7_sureStates cX7_sureStates 3 (some .int)) : ∀ (n : Nat) (v1 : Int32) (v2 : Int32) (σ : Sg), wl_X7_sureStates_4 Q n v1 v2 σ → gI p l e rm_X7_sureStates s m args below meth c D cy ad b0 Q 3 4 σ [some (.ref (ad 6)), some (.int v1), some (.int v2)] [] := by
  intro n
  induction n with
  | zero => intro v1 v2 σ h; exact False.elim h
  | succ n ih =>
    intro v1 v2 σ h
    exact kb_X7_sureStates_4 C v1 v2 (wl_X7_sureStates_4 Q n) (fun z1 z2 σ h => ih z1 z2 σ h) σ h
def wp_X7_sureStates (σ : Sg) (Q : Int32 → Sg → Prop) : Prop :=
  ∃ n, wl_X7_sureStates_4 Q n (nI 0) (nI 0) σ
set_option maxHeartbeats 4000000 in
set_option maxRecDepth 100000 in
theorem c_X7_sureStates (l : Launch) (D : va_G) (cy : Nat → ClassId) (ad : Nat → Nat) (b0 : Nat) (hA : AdOk ad b0) : Cti l D cy ad b0 yX7_sureStates cX7_sureStates 3 (some .int) rm_X7_sureStates [.ref (ad 6)] (fun σ Q => wp_X7_sureStates σ Q) := by
  intro σ Q h
  refine g_enter hA rfl (Nat.le_of_ble_eq_true rfl) [some (.ref (ad 6)), none, none] rfl ?_
  intro p e s m args below meth c C
  refine g_iconst C dX7_sureStates_0 kc_0 ?_
  refine g_istore_n C [some (.ref (ad 6)), some (.int (nI 0)), none] dX7_sureStates_1 (by decide) rfl ?_
  refine g_iconst C dX7_sureStates_2 kc_0 ?_
  refine g_istore_n C [some (.ref (ad 6)), some (.int (nI 0)), some (.int (nI 0))] dX7_sureStates_3 (by decide) rfl ?_
  obtain ⟨n, h⟩ := h
  exact kl_X7_sureStates_4 C n (nI 0) (nI 0) σ h
def rm_X7_markSure : Room := { frames := 2, cells := 0, slots := 0, locals := 43 }
def wp_X7_markSure_64 (v1 : Int32) (K2 : Int32 → Sg → Prop) (Q : Sg → Prop) (σ : Sg) : Prop :=
  ∀ x64 : Int32, x64 = v1 + (nI 1) → (K2 x64 σ)
set_option maxHeartbeats 4000000 in
set_option maxRecDepth 100000 in
theorem k_X7_markSure_64 {Q : Sg → Prop} (C : Cx p s m args meth c D cy ad b0 yX7_markSure cX7_markSure 4 none) (v1 : Int32) (K2 : Int32 → Sg → Prop) (hK2 : ∀ (z1 : Int32) (σ : Sg), K2 z1 σ → gV p l e rm_X7_markSure s m args below meth c D cy ad b0 Q 4 2 σ [some (.ref (ad 6)), some (.int z1), none, none] []) (σ : Sg) (h : wp_X7_markSure_64 v1 K2 Q σ) : gV p l e rm_X7_markSure s m args below meth c D cy ad b0 Q 4 64 σ [some (.ref (ad 6)), some (.int v1), none, none] [] := by
  obtain ⟨x64, e_x64⟩ : ∃ v : Int32, v = v1 + (nI 1) := ⟨_, rfl⟩
  have h := h x64 e_x64
  refine g_iinc C [some (.ref (ad 6)), some (.int x64), none, none] dX7_markSure_64 rfl e_x64.symm (by decide) rfl ?_
  refine g_goto C 2 dX7_markSure_67 (by decide) ?_
  exact hK2 x64 σ h
def wp_X7_markSure_45 (v1 : Int32) (v2 : Int32) (K2 : Int32 → Sg → Prop) (Q : Sg → Prop) (σ : Sg) : Prop :=
  ((v2 = (nI 0) → wp_X7_markSure_64 v1 K2 Q σ) ∧ (¬ v2 = (nI 0) → wp_X7_verdictOf v1 σ (fun r1 σ2 => wp_X8_put 36 v1 (r1 ||| (nI 2)) σ2 (fun σ3 => wp_X7_markSure_64 v1 K2 Q σ3))))
set_option maxHeartbeats 4000000 in
set_option maxRecDepth 100000 in
theorem k_X7_markSure_45 {Q : Sg → Prop} (C : Cx p s m args meth c D cy ad b0 yX7_markSure cX7_markSure 4 none) (v1 : Int32) (v2 : Int32) (K2 : Int32 → Sg → Prop) (hK2 : ∀ (z1 : Int32) (σ : Sg), K2 z1 σ → gV p l e rm_X7_markSure s m args below meth c D cy ad b0 Q 4 2 σ [some (.ref (ad 6)), some (.int z1), none, none] []) (σ : Sg) (h : wp_X7_markSure_45 v1 v2 K2 Q σ) : gV p l e rm_X7_markSure s m args below meth c D cy ad b0 Q 4 45 σ [some (.ref (ad 6)), some (.int v1), some (.int v2), none] [] := by
  refine g_iload_n C dX7_markSure_45 rfl ?_
  refine g_if_eq C 64 dX7_markSure_46 (by decide) (fun c46 => ?_) (fun c46 => ?_)
  · have h := h.1 c46
    refine g_mask [true, true, false, false] rfl ?_
    exact k_X7_markSure_64 C v1 K2 hK2 σ h
  · have h := h.2 c46
    refine g_aload_n C dX7_markSure_49 rfl ?_
    refine fget_6_1_X7_15 C rfl dX7_markSure_50 ?_
    refine g_iload_n C dX7_markSure_53 rfl ?_
    refine g_aload_n C dX7_markSure_54 rfl ?_
    refine g_iload_n C dX7_markSure_55 rfl ?_
    refine g_callVi C 6 [.int v1] (c_X7_verdictOf l D cy ad b0 C.A v1) cal_X7_verdictOf mw_492 (by decide) rfl rfl ⟨Nat.le_of_ble_eq_true rfl, Nat.le_of_ble_eq_true rfl⟩ ⟨rfl, rfl⟩ ⟨Nat.zero_le _, Nat.zero_le _⟩ (Nat.le_of_ble_eq_true rfl) rfl dX7_markSure_56 h (fun r1 σ2 h => ?_)
    refine g_iconst C dX7_markSure_59 kc_2 ?_
    refine g_ior C dX7_markSure_60 ?_
    refine g_callNv C [.ref (ad 36), .int v1, .int (r1 ||| (nI 2))] (c_X8_put l D cy ad b0 C.A 36 v1 (r1 ||| (nI 2)) (by decide)) cal_X8_put nw_19 rfl ⟨Nat.le_of_ble_eq_true rfl, Nat.le_of_ble_eq_true rfl⟩ ⟨rfl, rfl⟩ ⟨Nat.zero_le _, Nat.zero_le _⟩ (Nat.le_of_ble_eq_true rfl) rfl dX7_markSure_61 h (fun σ3 h => ?_)
    refine g_mask [true, true, false, false] rfl ?_
    exact k_X7_markSure_64 C v1 K2 hK2 σ3 h
def wp_X7_markSure_38 (v1 : Int32) (v3 : Int32) (s0 : Int32) (K14 : Int32 → Int32 → Sg → Prop) (Q : Sg → Prop) (σ : Sg) : Prop :=
  ∀ x39 : Int32, x39 = v3 + (nI 1) → (K14 s0 x39 σ)
set_option maxHeartbeats 4000000 in
set_option maxRecDepth 100000 in
theorem k_X7_markSure_38 {Q : Sg → Prop} (C : Cx p s m args meth c D cy ad b0 yX7_markSure cX7_markSure 4 none) (v1 : Int32) (v3 : Int32) (s0 : Int32) (K14 : Int32 → Int32 → Sg → Prop) (hK14 : ∀ (z2 : Int32) (z3 : Int32) (σ : Sg), K14 z2 z3 σ → gV p l e rm_X7_markSure s m args below meth c D cy ad b0 Q 4 14 σ [some (.ref (ad 6)), some (.int v1), some (.int z2), some (.int z3)] []) (σ : Sg) (h : wp_X7_markSure_38 v1 v3 s0 K14 Q σ) : gV p l e rm_X7_markSure s m args below meth c D cy ad b0 Q 4 38 σ [some (.ref (ad 6)), some (.int v1), none, some (.int v3)] [.int s0] := by
  refine g_istore_n C [some (.ref (ad 6)), some (.int v1), some (.int s0), some (.int v3)] dX7_markSure_38 (by decide) rfl ?_
  obtain ⟨x39, e_x39⟩ : ∃ v : Int32, v = v3 + (nI 1) := ⟨_, rfl⟩
  have h := h x39 e_x39
  refine g_iinc C [some (.ref (ad 6)), some (.int v1), some (.int s0), some (.int x39)] dX7_markSure_39 rfl e_x39.symm (by decide) rfl ?_
  refine g_goto C 14 dX7_markSure_42 (by decide) ?_
  exact hK14 s0 x39 σ h
def wp_X7_markSure_37 (v1 : Int32) (v3 : Int32) (K14 : Int32 → Int32 → Sg → Prop) (Q : Sg → Prop) (σ : Sg) : Prop :=
  wp_X7_markSure_38 v1 v3 (nI 0) K14 Q σ
set_option maxHeartbeats 4000000 in
set_option maxRecDepth 100000 in
theorem k_X7_markSure_37 {Q : Sg → Prop} (C : Cx p s m args meth c D cy ad b0 yX7_markSure cX7_markSure 4 none) (v1 : Int32) (v3 : Int32) (K14 : Int32 → Int32 → Sg → Prop) (hK14 : ∀ (z2 : Int32) (z3 : Int32) (σ : Sg), K14 z2 z3 σ → gV p l e rm_X7_markSure s m args below meth c D cy ad b0 Q 4 14 σ [some (.ref (ad 6)), some (.int v1), some (.int z2), some (.int z3)] []) (σ : Sg) (h : wp_X7_markSure_37 v1 v3 K14 Q σ) : gV p l e rm_X7_markSure s m args below meth c D cy ad b0 Q 4 37 σ [some (.ref (ad 6)), some (.int v1), none, some (.int v3)] [] := by
  refine g_iconst C dX7_markSure_37 kc_0 ?_
  exact k_X7_markSure_38 C v1 v3 (nI 0) K14 hK14 σ h
def wb_X7_markSure_14 (v1 : Int32) (v2 : Int32) (v3 : Int32) (K14 : Int32 → Int32 → Sg → Prop) (K45 : Int32 → Sg → Prop) (Q : Sg → Prop) (σ : Sg) : Prop :=
  (((nI 4) ≤ v3 → K45 v2 σ) ∧ (¬ (nI 4) ≤ v3 → ((v2 = (nI 0) → wp_X7_markSure_37 v1 v3 K14 Q σ) ∧ (¬ v2 = (nI 0) → wp_X7_next v1 v3 σ (fun r1 σ2 => ((¬ r1 = v1 → wp_X7_markSure_37 v1 v3 K14 Q σ2) ∧ (r1 = v1 → wp_X7_markSure_38 v1 v3 (nI 1) K14 Q σ2)))))))
set_option maxHeartbeats 4000000 in
set_option maxRecDepth 100000 in
theorem kb_X7_markSure_14 {Q : Sg → Prop} (C : Cx p s m args meth c D cy ad b0 yX7_markSure cX7_markSure 4 none) (v1 : Int32) (v2 : Int32) (v3 : Int32) (K14 : Int32 → Int32 → Sg → Prop) (K45 : Int32 → Sg → Prop) (hK14 : ∀ (z2 : Int32) (z3 : Int32) (σ : Sg), K14 z2 z3 σ → gV p l e rm_X7_markSure s m args below meth c D cy ad b0 Q 4 14 σ [some (.ref (ad 6)), some (.int v1), some (.int z2), some (.int z3)] []) (hK45 : ∀ (z2 : Int32) (σ : Sg), K45 z2 σ → gV p l e rm_X7_markSure s m args below meth c D cy ad b0 Q 4 45 σ [some (.ref (ad 6)), some (.int v1), some (.int z2), none] []) (σ : Sg) (h : wb_X7_markSure_14 v1 v2 v3 K14 K45 Q σ) : gV p l e rm_X7_markSure s m args below meth c D cy ad b0 Q 4 14 σ [some (.ref (ad 6)), some (.int v1), some (.int v2), some (.int v3)] [] := by
  refine g_iload_n C dX7_markSure_14 rfl ?_
  refine g_iconst C dX7_markSure_15 kc_4 ?_
  refine g_icmp_ge C 45 dX7_markSure_16 (by decide) (fun c16 => ?_) (fun c16 => ?_)
  · have h := h.1 c16
    refine g_mask [true, true, true, false] rfl ?_
    exact hK45 v2 σ h
  · have h := h.2 c16
    refine g_iload_n C dX7_markSure_19 rfl ?_
    refine g_if_eq C 37 dX7_markSure_20 (by decide) (fun c20 => ?_) (fun c20 => ?_)
    · have h := h.1 c20
      refine g_mask [true, true, false, true] rfl ?_
      exact k_X7_markSure_37 C v1 v3 K14 hK14 σ h
    · have h := h.2 c20
      refine g_aload_n C dX7_markSure_23 rfl ?_
      refine g_iload_n C dX7_markSure_24 rfl ?_
      refine g_iload_n C dX7_markSure_25 rfl ?_
      refine g_callVi C 6 [.int v1, .int v3] (c_X7_next l D cy ad b0 C.A v1 v3) cal_X7_next mw_488 (by decide) rfl rfl ⟨Nat.le_of_ble_eq_true rfl, Nat.le_of_ble_eq_true rfl⟩ ⟨rfl, rfl⟩ ⟨Nat.zero_le _, Nat.zero_le _⟩ (Nat.le_of_ble_eq_true rfl) rfl dX7_markSure_26 h (fun r1 σ2 h => ?_)
      refine g_iload_n C dX7_markSure_29 rfl ?_
      refine g_icmp_ne C 37 dX7_markSure_30 (by decide) (fun c30 => ?_) (fun c30 => ?_)
      · have h := h.1 c30
        refine g_mask [true, true, false, true] rfl ?_
        exact k_X7_markSure_37 C v1 v3 K14 hK14 σ2 h
      · have h := h.2 c30
        refine g_iconst C dX7_markSure_33 kc_1 ?_
        refine g_goto C 38 dX7_markSure_34 (by decide) ?_
        refine g_mask [true, true, false, true] rfl ?_
        exact k_X7_markSure_38 C v1 v3 (nI 1) K14 hK14 σ2 h
def wl_X7_markSure_14 (v1 : Int32) (K45 : Int32 → Sg → Prop) (Q : Sg → Prop) : Nat → Int32 → Int32 → Sg → Prop
  | 0, _, _, _ => False
  | n + 1, v2, v3, σ => wb_X7_markSure_14 v1 v2 v3 (wl_X7_markSure_14 v1 K45 Q n) K45 Q σ
set_option maxHeartbeats 4000000 in
set_option maxRecDepth 100000 in
theorem kl_X7_markSure_14 {Q : Sg → Prop} (C : Cx p s m args meth c D cy ad b0 yX7_markSure cX7_markSure 4 none) (v1 : Int32) (K45 : Int32 → Sg → Prop) (hK45 : ∀ (z2 : Int32) (σ : Sg), K45 z2 σ → gV p l e rm_X7_markSure s m args below meth c D cy ad b0 Q 4 45 σ [some (.ref (ad 6)), some (.int v1), some (.int z2), none] []) : ∀ (n : Nat) (v2 : Int32) (v3 : Int32) (σ : Sg), wl_X7_markSure_14 v1 K45 Q n v2 v3 σ → gV p l e rm_X7_markSure s m args below meth c D cy ad b0 Q 4 14 σ [some (.ref (ad 6)), some (.int v1), some (.int v2), some (.int v3)] [] := by
  intro n
  induction n with
  | zero => intro v2 v3 σ h; exact False.elim h
  | succ n ih =>
    intro v2 v3 σ h
    exact kb_X7_markSure_14 C v1 v2 v3 (wl_X7_markSure_14 v1 K45 Q n) K45 (fun z2 z3 σ h => ih z2 z3 σ h) hK45 σ h
def wb_X7_markSure_2 (v1 : Int32) (K2 : Int32 → Sg → Prop) (Q : Sg → Prop) (σ : Sg) : Prop :=
  (((gF σ 6 4) ≤ v1 → Q σ) ∧ (¬ (gF σ 6 4) ≤ v1 → ∃ n, wl_X7_markSure_14 v1 (fun z2 σ9 => wp_X7_markSure_45 v1 z2 K2 Q σ9) Q n (nI 1) (nI 0) σ))
set_option maxHeartbeats 4000000 in
set_option maxRecDepth 100000 in
theorem kb_X7_markSure_2 {Q : Sg → Prop} (C : Cx p s m args meth c D cy ad b0 yX7_markSure cX7_markSure 4 none) (v1 : Int32) (K2 : Int32 → Sg → Prop) (hK2 : ∀ (z1 : Int32) (σ : Sg), K2 z1 σ → gV p l e rm_X7_markSure s m args below meth c D cy ad b0 Q 4 2 σ [some (.ref (ad 6)), some (.int z1), none, none] []) (σ : Sg) (h : wb_X7_markSure_2 v1 K2 Q σ) : gV p l e rm_X7_markSure s m args below meth c D cy ad b0 Q 4 2 σ [some (.ref (ad 6)), some (.int v1), none, none] [] := by
  refine g_iload_n C dX7_markSure_2 rfl ?_
  refine g_aload_n C dX7_markSure_3 rfl ?_
  refine fget_6_4_X7_25 C rfl dX7_markSure_4 ?_
  refine g_icmp_ge C 70 dX7_markSure_7 (by decide) (fun c7 => ?_) (fun c7 => ?_)
  · have h := h.1 c7
    exact g_vret C dX7_markSure_70 h
  · have h := h.2 c7
    refine g_iconst C dX7_markSure_10 kc_1 ?_
    refine g_istore_n C [some (.ref (ad 6)), some (.int v1), some (.int (nI 1)), none] dX7_markSure_11 (by decide) rfl ?_
    refine g_iconst C dX7_markSure_12 kc_0 ?_
    refine g_istore_n C [some (.ref (ad 6)), some (.int v1), some (.int (nI 1)), some (.int (nI 0))] dX7_markSure_13 (by decide) rfl ?_
    obtain ⟨n, h⟩ := h
    exact kl_X7_markSure_14 C v1 _ (fun z2 σ9 h => by exact k_X7_markSure_45 C v1 z2 K2 hK2 σ9 h) n (nI 1) (nI 0) σ h
def wl_X7_markSure_2 (Q : Sg → Prop) : Nat → Int32 → Sg → Prop
  | 0, _, _ => False
  | n + 1, v1, σ => wb_X7_markSure_2 v1 (wl_X7_markSure_2 Q n) Q σ
set_option maxHeartbeats 4000000 in
set_option maxRecDepth 100000 in
theorem kl_X7_markSure_2 {Q : Sg → Prop} (C : Cx p s m args meth c D cy ad b0 yX7_markSure cX7_markSure 4 none) : ∀ (n : Nat) (v1 : Int32) (σ : Sg), wl_X7_markSure_2 Q n v1 σ → gV p l e rm_X7_markSure s m args below meth c D cy ad b0 Q 4 2 σ [some (.ref (ad 6)), some (.int v1), none, none] [] := by
  intro n
  induction n with
  | zero => intro v1 σ h; exact False.elim h
  | succ n ih =>
    intro v1 σ h
    exact kb_X7_markSure_2 C v1 (wl_X7_markSure_2 Q n) (fun z1 σ h => ih z1 σ h) σ h
def wp_X7_markSure (σ : Sg) (Q : Sg → Prop) : Prop :=
  ∃ n, wl_X7_markSure_2 Q n (nI 0) σ
set_option maxHeartbeats 4000000 in
set_option maxRecDepth 100000 in
theorem c_X7_markSure (l : Launch) (D : va_G) (cy : Nat → ClassId) (ad : Nat → Nat) (b0 : Nat) (hA : AdOk ad b0) : Ctv l D cy ad b0 yX7_markSure cX7_markSure 4 none rm_X7_markSure [.ref (ad 6)] (fun σ Q => wp_X7_markSure σ Q) := by
  intro σ Q h
  refine g_enter hA rfl (Nat.le_of_ble_eq_true rfl) [some (.ref (ad 6)), none, none, none] rfl ?_
  intro p e s m args below meth c C
  refine g_iconst C dX7_markSure_0 kc_0 ?_
  refine g_istore_n C [some (.ref (ad 6)), some (.int (nI 0)), none, none] dX7_markSure_1 (by decide) rfl ?_
  obtain ⟨n, h⟩ := h
  exact kl_X7_markSure_2 C n (nI 0) σ h
def rm_X7_distance : Room := { frames := 1, cells := 0, slots := 0, locals := 21 }
def wp_X7_distance (a0 : Int32) (a1 : Int32) (σ : Sg) (Q : Int32 → Sg → Prop) : Prop :=
  wp_X8_pick 37 ((a0 * (nI 4)) + a1) σ (fun r1 σ2 => Q r1 σ2)
set_option maxHeartbeats 4000000 in
set_option maxRecDepth 100000 in
theorem c_X7_distance (l : Launch) (D : va_G) (cy : Nat → ClassId) (ad : Nat → Nat) (b0 : Nat) (hA : AdOk ad b0) (a0 : Int32) (a1 : Int32) : Cti l D cy ad b0 yX7_distance cX7_distance 3 (some .int) rm_X7_distance [.ref (ad 6), .int a0, .int a1] (fun σ Q => wp_X7_distance a0 a1 σ Q) := by
  intro σ Q h
  refine g_enter hA rfl (Nat.le_of_ble_eq_true rfl) [some (.ref (ad 6)), some (.int a0), some (.int a1)] rfl ?_
  intro p e s m args below meth c C
  refine g_aload_n C dX7_distance_0 rfl ?_
  refine fget_6_2_X7_18 C rfl dX7_distance_1 ?_
  refine g_iload_n C dX7_distance_4 rfl ?_
  refine g_iconst C dX7_distance_5 kc_4 ?_
  refine g_imul C dX7_distance_6 ?_
  refine g_iload_n C dX7_distance_7 rfl ?_
  refine g_iadd C dX7_distance_8 ?_
  refine g_callNi C [.ref (ad 37), .int ((a0 * (nI 4)) + a1)] (c_X8_pick l D cy ad b0 C.A 37 ((a0 * (nI 4)) + a1) (by decide)) cal_X8_pick nw_20 rfl ⟨Nat.le_of_ble_eq_true rfl, Nat.le_of_ble_eq_true rfl⟩ ⟨rfl, rfl⟩ ⟨Nat.zero_le _, Nat.zero_le _⟩ (Nat.le_of_ble_eq_true rfl) rfl dX7_distance_9 h (fun r1 σ2 h => ?_)
  exact g_iret C dX7_distance_12 h
def rm_X7_stepTo : Room := { frames := 2, cells := 0, slots := 0, locals := 43 }
def wb_X7_stepTo_3 (v1 : Int32) (v2 : Int32) (v3 : Int32) (v4 : Int32) (K3 : Int32 → Sg → Prop) (Q : Int32 → Sg → Prop) (σ : Sg) : Prop :=
  (((nI 4) ≤ v4 → Q (-9 : Int32) σ) ∧ (¬ (nI 4) ≤ v4 → wp_X7_next v1 v4 σ (fun r1 σ2 => wp_X7_distance r1 v2 σ2 (fun r3 σ4 => ((¬ r3 = v3 → ∀ x28 : Int32, x28 = v4 + (nI 1) → (K3 x28 σ4)) ∧ (r3 = v3 → Q v4 σ4))))))
set_option maxHeartbeats 4000000 in
set_option maxRecDepth 100000 in
theorem kb_X7_stepTo_3 {Q : Int32 → Sg → Prop} (C : Cx p s m args meth c D cy ad b0 yX7_stepTo cX7_stepTo 5 (some .int)) (v1 : Int32) (v2 : Int32) (v3 : Int32) (v4 : Int32) (K3 : Int32 → Sg → Prop) (hK3 : ∀ (z4 : Int32) (σ : Sg), K3 z4 σ → gI p l e rm_X7_stepTo s m args below meth c D cy ad b0 Q 5 3 σ [some (.ref (ad 6)), some (.int v1), some (.int v2), some (.int v3), some (.int z4)] []) (σ : Sg) (h : wb_X7_stepTo_3 v1 v2 v3 v4 K3 Q σ) : gI p l e rm_X7_stepTo s m args below meth c D cy ad b0 Q 5 3 σ [some (.ref (ad 6)), some (.int v1), some (.int v2), some (.int v3), some (.int v4)] [] := by
  refine g_iload C dX7_stepTo_3 rfl ?_
  refine g_iconst C dX7_stepTo_5 kc_4 ?_
  refine g_icmp_ge C 34 dX7_stepTo_6 (by decide) (fun c6 => ?_) (fun c6 => ?_)
  · have h := h.1 c6
    refine g_bipush C dX7_stepTo_34 kb_m9 ?_
    exact g_iret C dX7_stepTo_36 h
  · have h := h.2 c6
    refine g_aload_n C dX7_stepTo_9 rfl ?_
    refine g_aload_n C dX7_stepTo_10 rfl ?_
    refine g_iload_n C dX7_stepTo_11 rfl ?_
    refine g_iload C dX7_stepTo_12 rfl ?_
    refine g_callVi C 6 [.int v1, .int v4] (c_X7_next l D cy ad b0 C.A v1 v4) cal_X7_next mw_488 (by decide) rfl rfl ⟨Nat.le_of_ble_eq_true rfl, Nat.le_of_ble_eq_true rfl⟩ ⟨rfl, rfl⟩ ⟨Nat.zero_le _, Nat.zero_le _⟩ (Nat.le_of_ble_eq_true rfl) rfl dX7_stepTo_14 h (fun r1 σ2 h => ?_)
    refine g_iload_n C dX7_stepTo_17 rfl ?_
    refine g_callVi C 6 [.int r1, .int v2] (c_X7_distance l D cy ad b0 C.A r1 v2) cal_X7_distance mw_500 (by decide) rfl rfl ⟨Nat.le_of_ble_eq_true rfl, Nat.le_of_ble_eq_true rfl⟩ ⟨rfl, rfl⟩ ⟨Nat.zero_le _, Nat.zero_le _⟩ (Nat.le_of_ble_eq_true rfl) rfl dX7_stepTo_18 h (fun r3 σ4 h => ?_)
    refine g_iload_n C dX7_stepTo_21 rfl ?_
    refine g_icmp_ne C 28 dX7_stepTo_22 (by decide) (fun c22 => ?_) (fun c22 => ?_)
    · have h := h.1 c22
      obtain ⟨x28, e_x28⟩ : ∃ v : Int32, v = v4 + (nI 1) := ⟨_, rfl⟩
      have h := h x28 e_x28
      refine g_iinc C [some (.ref (ad 6)), some (.int v1), some (.int v2), some (.int v3), some (.int x28)] dX7_stepTo_28 rfl e_x28.symm (by decide) rfl ?_
      refine g_goto C 3 dX7_stepTo_31 (by decide) ?_
      exact hK3 x28 σ4 h
    · have h := h.2 c22
      refine g_iload C dX7_stepTo_25 rfl ?_
      exact g_iret C dX7_stepTo_27 h
def wl_X7_stepTo_3 (v1 : Int32) (v2 : Int32) (v3 : Int32) (Q : Int32 → Sg → Prop) : Nat → Int32 → Sg → Prop
  | 0, _, _ => False
  | n + 1, v4, σ => wb_X7_stepTo_3 v1 v2 v3 v4 (wl_X7_stepTo_3 v1 v2 v3 Q n) Q σ
set_option maxHeartbeats 4000000 in
set_option maxRecDepth 100000 in
theorem kl_X7_stepTo_3 {Q : Int32 → Sg → Prop} (C : Cx p s m args meth c D cy ad b0 yX7_stepTo cX7_stepTo 5 (some .int)) (v1 : Int32) (v2 : Int32) (v3 : Int32) : ∀ (n : Nat) (v4 : Int32) (σ : Sg), wl_X7_stepTo_3 v1 v2 v3 Q n v4 σ → gI p l e rm_X7_stepTo s m args below meth c D cy ad b0 Q 5 3 σ [some (.ref (ad 6)), some (.int v1), some (.int v2), some (.int v3), some (.int v4)] [] := by
  intro n
  induction n with
  | zero => intro v4 σ h; exact False.elim h
  | succ n ih =>
    intro v4 σ h
    exact kb_X7_stepTo_3 C v1 v2 v3 v4 (wl_X7_stepTo_3 v1 v2 v3 Q n) (fun z4 σ h => ih z4 σ h) σ h
def wp_X7_stepTo (a0 : Int32) (a1 : Int32) (a2 : Int32) (σ : Sg) (Q : Int32 → Sg → Prop) : Prop :=
  ∃ n, wl_X7_stepTo_3 a0 a1 a2 Q n (nI 0) σ
set_option maxHeartbeats 4000000 in
set_option maxRecDepth 100000 in
theorem c_X7_stepTo (l : Launch) (D : va_G) (cy : Nat → ClassId) (ad : Nat → Nat) (b0 : Nat) (hA : AdOk ad b0) (a0 : Int32) (a1 : Int32) (a2 : Int32) : Cti l D cy ad b0 yX7_stepTo cX7_stepTo 5 (some .int) rm_X7_stepTo [.ref (ad 6), .int a0, .int a1, .int a2] (fun σ Q => wp_X7_stepTo a0 a1 a2 σ Q) := by
  intro σ Q h
  refine g_enter hA rfl (Nat.le_of_ble_eq_true rfl) [some (.ref (ad 6)), some (.int a0), some (.int a1), some (.int a2), none] rfl ?_
  intro p e s m args below meth c C
  refine g_iconst C dX7_stepTo_0 kc_0 ?_
  refine g_istore C [some (.ref (ad 6)), some (.int a0), some (.int a1), some (.int a2), some (.int (nI 0))] dX7_stepTo_1 (by decide) rfl ?_
  obtain ⟨n, h⟩ := h
  exact kl_X7_stepTo_3 C a0 a1 a2 n (nI 0) σ h
def rm_X7_measure : Room := { frames := 3, cells := 0, slots := 0, locals := 67 }
def wp_X7_measure_120 (v1 : Int32) (v2 : Int32) (v3 : Int32) (K47 : Int32 → Int32 → Sg → Prop) (Q : Sg → Prop) (σ : Sg) : Prop :=
  ∀ x120 : Int32, x120 = v3 + (nI 1) → (K47 v2 x120 σ)
set_option maxHeartbeats 4000000 in
set_option maxRecDepth 100000 in
theorem k_X7_measure_120 {Q : Sg → Prop} (C : Cx p s m args meth c D cy ad b0 yX7_measure cX7_measure 5 none) (v1 : Int32) (v2 : Int32) (v3 : Int32) (K47 : Int32 → Int32 → Sg → Prop) (hK47 : ∀ (z2 : Int32) (z3 : Int32) (σ : Sg), K47 z2 z3 σ → gV p l e rm_X7_measure s m args below meth c D cy ad b0 Q 5 47 σ [some (.ref (ad 6)), some (.int v1), some (.int z2), some (.int z3), none] []) (σ : Sg) (h : wp_X7_measure_120 v1 v2 v3 K47 Q σ) : gV p l e rm_X7_measure s m args below meth c D cy ad b0 Q 5 120 σ [some (.ref (ad 6)), some (.int v1), some (.int v2), some (.int v3), none] [] := by
  obtain ⟨x120, e_x120⟩ : ∃ v : Int32, v = v3 + (nI 1) := ⟨_, rfl⟩
  have h := h x120 e_x120
  refine g_iinc C [some (.ref (ad 6)), some (.int v1), some (.int v2), some (.int x120), none] dX7_measure_120 rfl e_x120.symm (by decide) rfl ?_
  refine g_goto C 47 dX7_measure_123 (by decide) ?_
  exact hK47 v2 x120 σ h
def wp_X7_measure_114 (v1 : Int32) (v2 : Int32) (v3 : Int32) (v4 : Int32) (K62 : Int32 → Int32 → Sg → Prop) (Q : Sg → Prop) (σ : Sg) : Prop :=
  ∀ x114 : Int32, x114 = v4 + (nI 1) → (K62 v2 x114 σ)
set_option maxHeartbeats 4000000 in
set_option maxRecDepth 100000 in
theorem k_X7_measure_114 {Q : Sg → Prop} (C : Cx p s m args meth c D cy ad b0 yX7_measure cX7_measure 5 none) (v1 : Int32) (v2 : Int32) (v3 : Int32) (v4 : Int32) (K62 : Int32 → Int32 → Sg → Prop) (hK62 : ∀ (z2 : Int32) (z4 : Int32) (σ : Sg), K62 z2 z4 σ → gV p l e rm_X7_measure s m args below meth c D cy ad b0 Q 5 62 σ [some (.ref (ad 6)), some (.int v1), some (.int z2), some (.int v3), some (.int z4)] []) (σ : Sg) (h : wp_X7_measure_114 v1 v2 v3 v4 K62 Q σ) : gV p l e rm_X7_measure s m args below meth c D cy ad b0 Q 5 114 σ [some (.ref (ad 6)), some (.int v1), some (.int v2), some (.int v3), some (.int v4)] [] := by
  obtain ⟨x114, e_x114⟩ : ∃ v : Int32, v = v4 + (nI 1) := ⟨_, rfl⟩
  have h := h x114 e_x114
  refine g_iinc C [some (.ref (ad 6)), some (.int v1), some (.int v2), some (.int v3), some (.int x114)] dX7_measure_114 rfl e_x114.symm (by decide) rfl ?_
  refine g_goto C 62 dX7_measure_117 (by decide) ?_
  exact hK62 v2 x114 σ h
def wb_X7_measure_62 (v1 : Int32) (v2 : Int32) (v3 : Int32) (v4 : Int32) (K62 : Int32 → Int32 → Sg → Prop) (K120 : Int32 → Sg → Prop) (Q : Sg → Prop) (σ : Sg) : Prop :=
  (((gF σ 6 4) ≤ v4 → K120 v2 σ) ∧ (¬ (gF σ 6 4) ≤ v4 → wp_X7_distance v4 v1 σ (fun r1 σ2 => ((¬ r1 = (-9 : Int32) → wp_X7_measure_114 v1 v2 v3 v4 K62 Q σ2) ∧ (r1 = (-9 : Int32) → wp_X7_stepTo v4 v1 (v3 - (nI 1)) σ2 (fun r3 σ4 => ((r3 = (-9 : Int32) → wp_X7_measure_114 v1 v2 v3 v4 K62 Q σ4) ∧ (¬ r3 = (-9 : Int32) → wp_X8_put 37 ((v4 * (nI 4)) + v1) v3 σ4 (fun σ5 => wp_X7_measure_114 v1 (nI 1) v3 v4 K62 Q σ5)))))))))
set_option maxHeartbeats 4000000 in
set_option maxRecDepth 100000 in
theorem kb_X7_measure_62 {Q : Sg → Prop} (C : Cx p s m args meth c D cy ad b0 yX7_measure cX7_measure 5 none) (v1 : Int32) (v2 : Int32) (v3 : Int32) (v4 : Int32) (K62 : Int32 → Int32 → Sg → Prop) (K120 : Int32 → Sg → Prop) (hK62 : ∀ (z2 : Int32) (z4 : Int32) (σ : Sg), K62 z2 z4 σ → gV p l e rm_X7_measure s m args below meth c D cy ad b0 Q 5 62 σ [some (.ref (ad 6)), some (.int v1), some (.int z2), some (.int v3), some (.int z4)] []) (hK120 : ∀ (z2 : Int32) (σ : Sg), K120 z2 σ → gV p l e rm_X7_measure s m args below meth c D cy ad b0 Q 5 120 σ [some (.ref (ad 6)), some (.int v1), some (.int z2), some (.int v3), none] []) (σ : Sg) (h : wb_X7_measure_62 v1 v2 v3 v4 K62 K120 Q σ) : gV p l e rm_X7_measure s m args below meth c D cy ad b0 Q 5 62 σ [some (.ref (ad 6)), some (.int v1), some (.int v2), some (.int v3), some (.int v4)] [] := by
  refine g_iload C dX7_measure_62 rfl ?_
  refine g_aload_n C dX7_measure_64 rfl ?_
  refine fget_6_4_X7_25 C rfl dX7_measure_65 ?_
  refine g_icmp_ge C 120 dX7_measure_68 (by decide) (fun c68 => ?_) (fun c68 => ?_)
  · have h := h.1 c68
    refine g_mask [true, true, true, true, false] rfl ?_
    exact hK120 v2 σ h
  · have h := h.2 c68
    refine g_aload_n C dX7_measure_71 rfl ?_
    refine g_iload C dX7_measure_72 rfl ?_
    refine g_iload_n C dX7_measure_74 rfl ?_
    refine g_callVi C 6 [.int v4, .int v1] (c_X7_distance l D cy ad b0 C.A v4 v1) cal_X7_distance mw_500 (by decide) rfl rfl ⟨Nat.le_of_ble_eq_true rfl, Nat.le_of_ble_eq_true rfl⟩ ⟨rfl, rfl⟩ ⟨Nat.zero_le _, Nat.zero_le _⟩ (Nat.le_of_ble_eq_true rfl) rfl dX7_measure_75 h (fun r1 σ2 h => ?_)
    refine g_bipush C dX7_measure_78 kb_m9 ?_
    refine g_icmp_ne C 114 dX7_measure_80 (by decide) (fun c80 => ?_) (fun c80 => ?_)
    · have h := h.1 c80
      exact k_X7_measure_114 C v1 v2 v3 v4 K62 hK62 σ2 h
    · have h := h.2 c80
      refine g_aload_n C dX7_measure_83 rfl ?_
      refine g_iload C dX7_measure_84 rfl ?_
      refine g_iload_n C dX7_measure_86 rfl ?_
      refine g_iload_n C dX7_measure_87 rfl ?_
      refine g_iconst C dX7_measure_88 kc_1 ?_
      refine g_isub C dX7_measure_89 ?_
      refine g_callVi C 6 [.int v4, .int v1, .int (v3 - (nI 1))] (c_X7_stepTo l D cy ad b0 C.A v4 v1 (v3 - (nI 1))) cal_X7_stepTo mw_504 (by decide) rfl rfl ⟨Nat.le_of_ble_eq_true rfl, Nat.le_of_ble_eq_true rfl⟩ ⟨rfl, rfl⟩ ⟨Nat.zero_le _, Nat.zero_le _⟩ (Nat.le_of_ble_eq_true rfl) rfl dX7_measure_90 h (fun r3 σ4 h => ?_)
      refine g_bipush C dX7_measure_93 kb_m9 ?_
      refine g_icmp_eq C 114 dX7_measure_95 (by decide) (fun c95 => ?_) (fun c95 => ?_)
      · have h := h.1 c95
        exact k_X7_measure_114 C v1 v2 v3 v4 K62 hK62 σ4 h
      · have h := h.2 c95
        refine g_aload_n C dX7_measure_98 rfl ?_
        refine fget_6_2_X7_18 C rfl dX7_measure_99 ?_
        refine g_iload C dX7_measure_102 rfl ?_
        refine g_iconst C dX7_measure_104 kc_4 ?_
        refine g_imul C dX7_measure_105 ?_
        refine g_iload_n C dX7_measure_106 rfl ?_
        refine g_iadd C dX7_measure_107 ?_
        refine g_iload_n C dX7_measure_108 rfl ?_
        refine g_callNv C [.ref (ad 37), .int ((v4 * (nI 4)) + v1), .int v3] (c_X8_put l D cy ad b0 C.A 37 ((v4 * (nI 4)) + v1) v3 (by decide)) cal_X8_put nw_19 rfl ⟨Nat.le_of_ble_eq_true rfl, Nat.le_of_ble_eq_true rfl⟩ ⟨rfl, rfl⟩ ⟨Nat.zero_le _, Nat.zero_le _⟩ (Nat.le_of_ble_eq_true rfl) rfl dX7_measure_109 h (fun σ5 h => ?_)
        refine g_iconst C dX7_measure_112 kc_1 ?_
        refine g_istore_n C [some (.ref (ad 6)), some (.int v1), some (.int (nI 1)), some (.int v3), some (.int v4)] dX7_measure_113 (by decide) rfl ?_
        exact k_X7_measure_114 C v1 (nI 1) v3 v4 K62 hK62 σ5 h
def wl_X7_measure_62 (v1 : Int32) (v3 : Int32) (K120 : Int32 → Sg → Prop) (Q : Sg → Prop) : Nat → Int32 → Int32 → Sg → Prop
  | 0, _, _, _ => False
  | n + 1, v2, v4, σ => wb_X7_measure_62 v1 v2 v3 v4 (wl_X7_measure_62 v1 v3 K120 Q n) K120 Q σ
set_option maxHeartbeats 4000000 in
set_option maxRecDepth 100000 in
theorem kl_X7_measure_62 {Q : Sg → Prop} (C : Cx p s m args meth c D cy ad b0 yX7_measure cX7_measure 5 none) (v1 : Int32) (v3 : Int32) (K120 : Int32 → Sg → Prop) (hK120 : ∀ (z2 : Int32) (σ : Sg), K120 z2 σ → gV p l e rm_X7_measure s m args below meth c D cy ad b0 Q 5 120 σ [some (.ref (ad 6)), some (.int v1), some (.int z2), some (.int v3), none] []) : ∀ (n : Nat) (v2 : Int32) (v4 : Int32) (σ : Sg), wl_X7_measure_62 v1 v3 K120 Q n v2 v4 σ → gV p l e rm_X7_measure s m args below meth c D cy ad b0 Q 5 62 σ [some (.ref (ad 6)), some (.int v1), some (.int v2), some (.int v3), some (.int v4)] [] := by
  intro n
  induction n with
  | zero => intro v2 v4 σ h; exact False.elim h
  | succ n ih =>
    intro v2 v4 σ h
    exact kb_X7_measure_62 C v1 v2 v3 v4 (wl_X7_measure_62 v1 v3 K120 Q n) K120 (fun z2 z4 σ h => ih z2 z4 σ h) hK120 σ h
def wb_X7_measure_47 (v1 : Int32) (v2 : Int32) (v3 : Int32) (K47 : Int32 → Int32 → Sg → Prop) (Q : Sg → Prop) (σ : Sg) : Prop :=
  (((nI 60) < v3 → Q σ) ∧ (¬ (nI 60) < v3 → ((v2 = (nI 0) → Q σ) ∧ (¬ v2 = (nI 0) → ∃ n, wl_X7_measure_62 v1 v3 (fun z2 σ9 => wp_X7_measure_120 v1 z2 v3 K47 Q σ9) Q n (nI 0) (nI 0) σ))))
set_option maxHeartbeats 4000000 in
set_option maxRecDepth 100000 in
theorem kb_X7_measure_47 {Q : Sg → Prop} (C : Cx p s m args meth c D cy ad b0 yX7_measure cX7_measure 5 none) (v1 : Int32) (v2 : Int32) (v3 : Int32) (K47 : Int32 → Int32 → Sg → Prop) (hK47 : ∀ (z2 : Int32) (z3 : Int32) (σ : Sg), K47 z2 z3 σ → gV p l e rm_X7_measure s m args below meth c D cy ad b0 Q 5 47 σ [some (.ref (ad 6)), some (.int v1), some (.int z2), some (.int z3), none] []) (σ : Sg) (h : wb_X7_measure_47 v1 v2 v3 K47 Q σ) : gV p l e rm_X7_measure s m args below meth c D cy ad b0 Q 5 47 σ [some (.ref (ad 6)), some (.int v1), some (.int v2), some (.int v3), none] [] := by
  refine g_iload_n C dX7_measure_47 rfl ?_
  refine g_bipush C dX7_measure_48 kb_60 ?_
  refine g_icmp_gt C 126 dX7_measure_50 (by decide) (fun c50 => ?_) (fun c50 => ?_)
  · have h := h.1 c50
    exact g_vret C dX7_measure_126 h
  · have h := h.2 c50
    refine g_iload_n C dX7_measure_53 rfl ?_
    refine g_if_eq C 126 dX7_measure_54 (by decide) (fun c54 => ?_) (fun c54 => ?_)
    · have h := h.1 c54
      exact g_vret C dX7_measure_126 h
    · have h := h.2 c54
      refine g_iconst C dX7_measure_57 kc_0 ?_
      refine g_istore_n C [some (.ref (ad 6)), some (.int v1), some (.int (nI 0)), some (.int v3), none] dX7_measure_58 (by decide) rfl ?_
      refine g_iconst C dX7_measure_59 kc_0 ?_
      refine g_istore C [some (.ref (ad 6)), some (.int v1), some (.int (nI 0)), some (.int v3), some (.int (nI 0))] dX7_measure_60 (by decide) rfl ?_
      obtain ⟨n, h⟩ := h
      exact kl_X7_measure_62 C v1 v3 _ (fun z2 σ9 h => by exact k_X7_measure_120 C v1 z2 v3 K47 hK47 σ9 h) n (nI 0) (nI 0) σ h
def wl_X7_measure_47 (v1 : Int32) (Q : Sg → Prop) : Nat → Int32 → Int32 → Sg → Prop
  | 0, _, _, _ => False
  | n + 1, v2, v3, σ => wb_X7_measure_47 v1 v2 v3 (wl_X7_measure_47 v1 Q n) Q σ
set_option maxHeartbeats 4000000 in
set_option maxRecDepth 100000 in
theorem kl_X7_measure_47 {Q : Sg → Prop} (C : Cx p s m args meth c D cy ad b0 yX7_measure cX7_measure 5 none) (v1 : Int32) : ∀ (n : Nat) (v2 : Int32) (v3 : Int32) (σ : Sg), wl_X7_measure_47 v1 Q n v2 v3 σ → gV p l e rm_X7_measure s m args below meth c D cy ad b0 Q 5 47 σ [some (.ref (ad 6)), some (.int v1), some (.int v2), some (.int v3), none] [] := by
  intro n
  induction n with
  | zero => intro v2 v3 σ h; exact False.elim h
  | succ n ih =>
    intro v2 v3 σ h
    exact kb_X7_measure_47 C v1 v2 v3 (wl_X7_measure_47 v1 Q n) (fun z2 z3 σ h => ih z2 z3 σ h) σ h
def wp_X7_measure_43 (v1 : Int32) (Q : Sg → Prop) (σ : Sg) : Prop :=
  ∃ n, wl_X7_measure_47 v1 Q n (nI 1) (nI 1) σ
set_option maxHeartbeats 4000000 in
set_option maxRecDepth 100000 in
theorem k_X7_measure_43 {Q : Sg → Prop} (C : Cx p s m args meth c D cy ad b0 yX7_measure cX7_measure 5 none) (v1 : Int32) (σ : Sg) (h : wp_X7_measure_43 v1 Q σ) : gV p l e rm_X7_measure s m args below meth c D cy ad b0 Q 5 43 σ [some (.ref (ad 6)), some (.int v1), none, none, none] [] := by
  refine g_iconst C dX7_measure_43 kc_1 ?_
  refine g_istore_n C [some (.ref (ad 6)), some (.int v1), some (.int (nI 1)), none, none] dX7_measure_44 (by decide) rfl ?_
  refine g_iconst C dX7_measure_45 kc_1 ?_
  refine g_istore_n C [some (.ref (ad 6)), some (.int v1), some (.int (nI 1)), some (.int (nI 1)), none] dX7_measure_46 (by decide) rfl ?_
  obtain ⟨n, h⟩ := h
  exact kl_X7_measure_47 C v1 n (nI 1) (nI 1) σ h
def wp_X7_measure_34 (v1 : Int32) (v2 : Int32) (s0 : Int32) (s1 : Int32) (K2 : Int32 → Sg → Prop) (Q : Sg → Prop) (σ : Sg) : Prop :=
  wp_X8_put 37 s1 s0 σ (fun σ1 => ∀ x37 : Int32, x37 = v2 + (nI 1) → (K2 x37 σ1))
set_option maxHeartbeats 4000000 in
set_option maxRecDepth 100000 in
theorem k_X7_measure_34 {Q : Sg → Prop} (C : Cx p s m args meth c D cy ad b0 yX7_measure cX7_measure 5 none) (v1 : Int32) (v2 : Int32) (s0 : Int32) (s1 : Int32) (K2 : Int32 → Sg → Prop) (hK2 : ∀ (z2 : Int32) (σ : Sg), K2 z2 σ → gV p l e rm_X7_measure s m args below meth c D cy ad b0 Q 5 2 σ [some (.ref (ad 6)), some (.int v1), some (.int z2), none, none] []) (σ : Sg) (h : wp_X7_measure_34 v1 v2 s0 s1 K2 Q σ) : gV p l e rm_X7_measure s m args below meth c D cy ad b0 Q 5 34 σ [some (.ref (ad 6)), some (.int v1), some (.int v2), none, none] [.int s0, .int s1, .ref (ad 37)] := by
  refine g_callNv C [.ref (ad 37), .int s1, .int s0] (c_X8_put l D cy ad b0 C.A 37 s1 s0 (by decide)) cal_X8_put nw_19 rfl ⟨Nat.le_of_ble_eq_true rfl, Nat.le_of_ble_eq_true rfl⟩ ⟨rfl, rfl⟩ ⟨Nat.zero_le _, Nat.zero_le _⟩ (Nat.le_of_ble_eq_true rfl) rfl dX7_measure_34 h (fun σ1 h => ?_)
  obtain ⟨x37, e_x37⟩ : ∃ v : Int32, v = v2 + (nI 1) := ⟨_, rfl⟩
  have h := h x37 e_x37
  refine g_iinc C [some (.ref (ad 6)), some (.int v1), some (.int x37), none, none] dX7_measure_37 rfl e_x37.symm (by decide) rfl ?_
  refine g_goto C 2 dX7_measure_40 (by decide) ?_
  exact hK2 x37 σ1 h
def wb_X7_measure_2 (v1 : Int32) (v2 : Int32) (K2 : Int32 → Sg → Prop) (K43 : Sg → Prop) (Q : Sg → Prop) (σ : Sg) : Prop :=
  (((gF σ 6 4) ≤ v2 → K43 σ) ∧ (¬ (gF σ 6 4) ≤ v2 → wp_X7_verdictOf v2 σ (fun r1 σ2 => ((¬ r1 = v1 → wp_X7_measure_34 v1 v2 (-9 : Int32) ((v2 * (nI 4)) + v1) K2 Q σ2) ∧ (r1 = v1 → wp_X7_measure_34 v1 v2 (nI 0) ((v2 * (nI 4)) + v1) K2 Q σ2)))))
set_option maxHeartbeats 4000000 in
set_option maxRecDepth 100000 in
theorem kb_X7_measure_2 {Q : Sg → Prop} (C : Cx p s m args meth c D cy ad b0 yX7_measure cX7_measure 5 none) (v1 : Int32) (v2 : Int32) (K2 : Int32 → Sg → Prop) (K43 : Sg → Prop) (hK2 : ∀ (z2 : Int32) (σ : Sg), K2 z2 σ → gV p l e rm_X7_measure s m args below meth c D cy ad b0 Q 5 2 σ [some (.ref (ad 6)), some (.int v1), some (.int z2), none, none] []) (hK43 : ∀  (σ : Sg), K43 σ → gV p l e rm_X7_measure s m args below meth c D cy ad b0 Q 5 43 σ [some (.ref (ad 6)), some (.int v1), none, none, none] []) (σ : Sg) (h : wb_X7_measure_2 v1 v2 K2 K43 Q σ) : gV p l e rm_X7_measure s m args below meth c D cy ad b0 Q 5 2 σ [some (.ref (ad 6)), some (.int v1), some (.int v2), none, none] [] := by
  refine g_iload_n C dX7_measure_2 rfl ?_
  refine g_aload_n C dX7_measure_3 rfl ?_
  refine fget_6_4_X7_25 C rfl dX7_measure_4 ?_
  refine g_icmp_ge C 43 dX7_measure_7 (by decide) (fun c7 => ?_) (fun c7 => ?_)
  · have h := h.1 c7
    refine g_mask [true, true, false, false, false] rfl ?_
    exact hK43 σ h
  · have h := h.2 c7
    refine g_aload_n C dX7_measure_10 rfl ?_
    refine fget_6_2_X7_18 C rfl dX7_measure_11 ?_
    refine g_iload_n C dX7_measure_14 rfl ?_
    refine g_iconst C dX7_measure_15 kc_4 ?_
    refine g_imul C dX7_measure_16 ?_
    refine g_iload_n C dX7_measure_17 rfl ?_
    refine g_iadd C dX7_measure_18 ?_
    refine g_aload_n C dX7_measure_19 rfl ?_
    refine g_iload_n C dX7_measure_20 rfl ?_
    refine g_callVi C 6 [.int v2] (c_X7_verdictOf l D cy ad b0 C.A v2) cal_X7_verdictOf mw_492 (by decide) rfl rfl ⟨Nat.le_of_ble_eq_true rfl, Nat.le_of_ble_eq_true rfl⟩ ⟨rfl, rfl⟩ ⟨Nat.zero_le _, Nat.zero_le _⟩ (Nat.le_of_ble_eq_true rfl) rfl dX7_measure_21 h (fun r1 σ2 h => ?_)
    refine g_iload_n C dX7_measure_24 rfl ?_
    refine g_icmp_ne C 32 dX7_measure_25 (by decide) (fun c25 => ?_) (fun c25 => ?_)
    · have h := h.1 c25
      refine g_bipush C dX7_measure_32 kb_m9 ?_
      exact k_X7_measure_34 C v1 v2 (-9 : Int32) ((v2 * (nI 4)) + v1) K2 hK2 σ2 h
    · have h := h.2 c25
      refine g_iconst C dX7_measure_28 kc_0 ?_
      refine g_goto C 34 dX7_measure_29 (by decide) ?_
      exact k_X7_measure_34 C v1 v2 (nI 0) ((v2 * (nI 4)) + v1) K2 hK2 σ2 h
def wl_X7_measure_2 (v1 : Int32) (K43 : Sg → Prop) (Q : Sg → Prop) : Nat → Int32 → Sg → Prop
  | 0, _, _ => False
  | n + 1, v2, σ => wb_X7_measure_2 v1 v2 (wl_X7_measure_2 v1 K43 Q n) K43 Q σ
set_option maxHeartbeats 4000000 in
set_option maxRecDepth 100000 in
theorem kl_X7_measure_2 {Q : Sg → Prop} (C : Cx p s m args meth c D cy ad b0 yX7_measure cX7_measure 5 none) (v1 : Int32) (K43 : Sg → Prop) (hK43 : ∀  (σ : Sg), K43 σ → gV p l e rm_X7_measure s m args below meth c D cy ad b0 Q 5 43 σ [some (.ref (ad 6)), some (.int v1), none, none, none] []) : ∀ (n : Nat) (v2 : Int32) (σ : Sg), wl_X7_measure_2 v1 K43 Q n v2 σ → gV p l e rm_X7_measure s m args below meth c D cy ad b0 Q 5 2 σ [some (.ref (ad 6)), some (.int v1), some (.int v2), none, none] [] := by
  intro n
  induction n with
  | zero => intro v2 σ h; exact False.elim h
  | succ n ih =>
    intro v2 σ h
    exact kb_X7_measure_2 C v1 v2 (wl_X7_measure_2 v1 K43 Q n) K43 (fun z2 σ h => ih z2 σ h) hK43 σ h
def wp_X7_measure (a0 : Int32) (σ : Sg) (Q : Sg → Prop) : Prop :=
  ∃ n, wl_X7_measure_2 a0 (fun σ9 => wp_X7_measure_43 a0 Q σ9) Q n (nI 0) σ
set_option maxHeartbeats 4000000 in
set_option maxRecDepth 100000 in
theorem c_X7_measure (l : Launch) (D : va_G) (cy : Nat → ClassId) (ad : Nat → Nat) (b0 : Nat) (hA : AdOk ad b0) (a0 : Int32) : Ctv l D cy ad b0 yX7_measure cX7_measure 5 none rm_X7_measure [.ref (ad 6), .int a0] (fun σ Q => wp_X7_measure a0 σ Q) := by
  intro σ Q h
  refine g_enter hA rfl (Nat.le_of_ble_eq_true rfl) [some (.ref (ad 6)), some (.int a0), none, none, none] rfl ?_
  intro p e s m args below meth c C
  refine g_iconst C dX7_measure_0 kc_0 ?_
  refine g_istore_n C [some (.ref (ad 6)), some (.int a0), some (.int (nI 0)), none, none] dX7_measure_1 (by decide) rfl ?_
  obtain ⟨n, h⟩ := h
  exact kl_X7_measure_2 C a0 _ (fun σ9 h => by exact k_X7_measure_43 C a0 σ9 h) n (nI 0) σ h
def rm_X7_firstStep : Room := { frames := 3, cells := 0, slots := 0, locals := 67 }
def wp_X7_firstStep (a0 : Int32) (a1 : Int32) (σ : Sg) (Q : Int32 → Sg → Prop) : Prop :=
  wp_X7_distance a0 a1 σ (fun r1 σ2 => ((r1 ≤ (nI 0) → Q (-9 : Int32) σ2) ∧ (¬ r1 ≤ (nI 0) → wp_X7_stepTo a0 a1 (r1 - (nI 1)) σ2 (fun r3 σ4 => Q r3 σ4))))
set_option maxHeartbeats 4000000 in
set_option maxRecDepth 100000 in
theorem c_X7_firstStep (l : Launch) (D : va_G) (cy : Nat → ClassId) (ad : Nat → Nat) (b0 : Nat) (hA : AdOk ad b0) (a0 : Int32) (a1 : Int32) : Cti l D cy ad b0 yX7_firstStep cX7_firstStep 4 (some .int) rm_X7_firstStep [.ref (ad 6), .int a0, .int a1] (fun σ Q => wp_X7_firstStep a0 a1 σ Q) := by
  intro σ Q h
  refine g_enter hA rfl (Nat.le_of_ble_eq_true rfl) [some (.ref (ad 6)), some (.int a0), some (.int a1), none] rfl ?_
  intro p e s m args below meth c C
  refine g_aload_n C dX7_firstStep_0 rfl ?_
  refine g_iload_n C dX7_firstStep_1 rfl ?_
  refine g_iload_n C dX7_firstStep_2 rfl ?_
  refine g_callVi C 6 [.int a0, .int a1] (c_X7_distance l D cy ad b0 C.A a0 a1) cal_X7_distance mw_500 (by decide) rfl rfl ⟨Nat.le_of_ble_eq_true rfl, Nat.le_of_ble_eq_true rfl⟩ ⟨rfl, rfl⟩ ⟨Nat.zero_le _, Nat.zero_le _⟩ (Nat.le_of_ble_eq_true rfl) rfl dX7_firstStep_3 h (fun r1 σ2 h => ?_)
  refine g_istore_n C [some (.ref (ad 6)), some (.int a0), some (.int a1), some (.int r1)] dX7_firstStep_6 (by decide) rfl ?_
  refine g_iload_n C dX7_firstStep_7 rfl ?_
  refine g_if_le C 23 dX7_firstStep_8 (by decide) (fun c8 => ?_) (fun c8 => ?_)
  · have h := h.1 c8
    refine g_bipush C dX7_firstStep_23 kb_m9 ?_
    exact g_iret C dX7_firstStep_25 h
  · have h := h.2 c8
    refine g_aload_n C dX7_firstStep_11 rfl ?_
    refine g_iload_n C dX7_firstStep_12 rfl ?_
    refine g_iload_n C dX7_firstStep_13 rfl ?_
    refine g_iload_n C dX7_firstStep_14 rfl ?_
    refine g_iconst C dX7_firstStep_15 kc_1 ?_
    refine g_isub C dX7_firstStep_16 ?_
    refine g_callVi C 6 [.int a0, .int a1, .int (r1 - (nI 1))] (c_X7_stepTo l D cy ad b0 C.A a0 a1 (r1 - (nI 1))) cal_X7_stepTo mw_504 (by decide) rfl rfl ⟨Nat.le_of_ble_eq_true rfl, Nat.le_of_ble_eq_true rfl⟩ ⟨rfl, rfl⟩ ⟨Nat.zero_le _, Nat.zero_le _⟩ (Nat.le_of_ble_eq_true rfl) rfl dX7_firstStep_17 h (fun r3 σ4 h => ?_)
    refine g_goto C 25 dX7_firstStep_20 (by decide) ?_
    exact g_iret C dX7_firstStep_25 h
def rm_X7_waysOf : Room := { frames := 1, cells := 0, slots := 0, locals := 21 }
def wp_X7_waysOf (a0 : Int32) (a1 : Int32) (σ : Sg) (Q : Int64 → Sg → Prop) : Prop :=
  wp_X8_pickLong 38 ((a1 * (nI 60)) + a0) σ (fun r1 σ2 => Q r1 σ2)
set_option maxHeartbeats 4000000 in
set_option maxRecDepth 100000 in
theorem c_X7_waysOf (l : Launch) (D : va_G) (cy : Nat → ClassId) (ad : Nat → Nat) (b0 : Nat) (hA : AdOk ad b0) (a0 : Int32) (a1 : Int32) : Ctl l D cy ad b0 yX7_waysOf cX7_waysOf 3 (some .long) rm_X7_waysOf [.ref (ad 6), .int a0, .int a1] (fun σ Q => wp_X7_waysOf a0 a1 σ Q) := by
  intro σ Q h
  refine g_enter hA rfl (Nat.le_of_ble_eq_true rfl) [some (.ref (ad 6)), some (.int a0), some (.int a1)] rfl ?_
  intro p e s m args below meth c C
  refine g_aload_n C dX7_waysOf_0 rfl ?_
  refine fget_6_3_X7_21 C rfl dX7_waysOf_1 ?_
  refine g_iload_n C dX7_waysOf_4 rfl ?_
  refine g_bipush C dX7_waysOf_5 kb_60 ?_
  refine g_imul C dX7_waysOf_7 ?_
  refine g_iload_n C dX7_waysOf_8 rfl ?_
  refine g_iadd C dX7_waysOf_9 ?_
  refine g_callNl C [.ref (ad 38), .int ((a1 * (nI 60)) + a0)] (c_X8_pickLong l D cy ad b0 C.A 38 ((a1 * (nI 60)) + a0) (by decide)) cal_X8_pickLong nw_22 rfl ⟨Nat.le_of_ble_eq_true rfl, Nat.le_of_ble_eq_true rfl⟩ ⟨rfl, rfl⟩ ⟨Nat.zero_le _, Nat.zero_le _⟩ (Nat.le_of_ble_eq_true rfl) rfl dX7_waysOf_10 h (fun r1 σ2 h => ?_)
  exact g_lret C dX7_waysOf_13 h
def rm_X7_countWays : Room := { frames := 3, cells := 0, slots := 0, locals := 63 }
def wp_X7_countWays_109 (v1 : Int32) (K39 : Int32 → Sg → Prop) (Q : Sg → Prop) (σ : Sg) : Prop :=
  ∀ x109 : Int32, x109 = v1 + (nI 1) → (K39 x109 σ)
set_option maxHeartbeats 4000000 in
set_option maxRecDepth 100000 in
theorem k_X7_countWays_109 {Q : Sg → Prop} (C : Cx p s m args meth c D cy ad b0 yX7_countWays cX7_countWays 6 none) (v1 : Int32) (K39 : Int32 → Sg → Prop) (hK39 : ∀ (z1 : Int32) (σ : Sg), K39 z1 σ → gV p l e rm_X7_countWays s m args below meth c D cy ad b0 Q 6 39 σ [some (.ref (ad 6)), some (.int z1), none, none, none, none] []) (σ : Sg) (h : wp_X7_countWays_109 v1 K39 Q σ) : gV p l e rm_X7_countWays s m args below meth c D cy ad b0 Q 6 109 σ [some (.ref (ad 6)), some (.int v1), none, none, none, none] [] := by
  obtain ⟨x109, e_x109⟩ : ∃ v : Int32, v = v1 + (nI 1) := ⟨_, rfl⟩
  have h := h x109 e_x109
  refine g_iinc C [some (.ref (ad 6)), some (.int x109), none, none, none, none] dX7_countWays_109 rfl e_x109.symm (by decide) rfl ?_
  refine g_goto C 39 dX7_countWays_112 (by decide) ?_
  exact hK39 x109 σ h
def wp_X7_countWays_89 (v1 : Int32) (v2 : Int32) (v3 : Int64) (K47 : Int32 → Sg → Prop) (Q : Sg → Prop) (σ : Sg) : Prop :=
  wp_X8_putLong 38 ((v1 * (nI 60)) + v2) v3 σ (fun σ1 => ∀ x103 : Int32, x103 = v2 + (nI 1) → (K47 x103 σ1))
set_option maxHeartbeats 4000000 in
set_option maxRecDepth 100000 in
theorem k_X7_countWays_89 {Q : Sg → Prop} (C : Cx p s m args meth c D cy ad b0 yX7_countWays cX7_countWays 6 none) (v1 : Int32) (v2 : Int32) (v3 : Int64) (K47 : Int32 → Sg → Prop) (hK47 : ∀ (z2 : Int32) (σ : Sg), K47 z2 σ → gV p l e rm_X7_countWays s m args below meth c D cy ad b0 Q 6 47 σ [some (.ref (ad 6)), some (.int v1), some (.int z2), none, none, none] []) (σ : Sg) (h : wp_X7_countWays_89 v1 v2 v3 K47 Q σ) : gV p l e rm_X7_countWays s m args below meth c D cy ad b0 Q 6 89 σ [some (.ref (ad 6)), some (.int v1), some (.int v2), some (.long v3), none, none] [] := by
  refine g_aload_n C dX7_countWays_89 rfl ?_
  refine fget_6_3_X7_21 C rfl dX7_countWays_90 ?_
  refine g_iload_n C dX7_countWays_93 rfl ?_
  refine g_bipush C dX7_countWays_94 kb_60 ?_
  refine g_imul C dX7_countWays_96 ?_
  refine g_iload_n C dX7_countWays_97 rfl ?_
  refine g_iadd C dX7_countWays_98 ?_
  refine g_lload_n C dX7_countWays_99 rfl ?_
  refine g_callNv C [.ref (ad 38), .int ((v1 * (nI 60)) + v2), .long v3] (c_X8_putLong l D cy ad b0 C.A 38 ((v1 * (nI 60)) + v2) v3 (by decide)) cal_X8_putLong nw_21 rfl ⟨Nat.le_of_ble_eq_true rfl, Nat.le_of_ble_eq_true rfl⟩ ⟨rfl, rfl⟩ ⟨Nat.zero_le _, Nat.zero_le _⟩ (Nat.le_of_ble_eq_true rfl) rfl dX7_countWays_100 h (fun σ1 h => ?_)
  obtain ⟨x103, e_x103⟩ : ∃ v : Int32, v = v2 + (nI 1) := ⟨_, rfl⟩
  have h := h x103 e_x103
  refine g_iinc C [some (.ref (ad 6)), some (.int v1), some (.int x103), some (.long v3), none, none] dX7_countWays_103 rfl e_x103.symm (by decide) rfl ?_
  refine g_goto C 47 dX7_countWays_106 (by decide) ?_
  refine g_mask [true, true, true, false, false, false] rfl ?_
  exact hK47 x103 σ1 h
def wb_X7_countWays_60 (v1 : Int32) (v2 : Int32) (v3 : Int64) (v5 : Int32) (K60 : Int64 → Int32 → Sg → Prop) (K89 : Int64 → Sg → Prop) (Q : Sg → Prop) (σ : Sg) : Prop :=
  (((nI 4) ≤ v5 → K89 v3 σ) ∧ (¬ (nI 4) ≤ v5 → wp_X7_next v2 v5 σ (fun r1 σ2 => wp_X7_waysOf r1 (v1 - (nI 1)) σ2 (fun r3 σ4 => ∀ x82 : Int64, x82 = (v3 + r3) → (∀ x83 : Int32, x83 = v5 + (nI 1) → (K60 x82 x83 σ4))))))
set_option maxHeartbeats 4000000 in
set_option maxRecDepth 100000 in
theorem kb_X7_countWays_60 {Q : Sg → Prop} (C : Cx p s m args meth c D cy ad b0 yX7_countWays cX7_countWays 6 none) (v1 : Int32) (v2 : Int32) (v3 : Int64) (v5 : Int32) (K60 : Int64 → Int32 → Sg → Prop) (K89 : Int64 → Sg → Prop) (hK60 : ∀ (z3 : Int64) (z5 : Int32) (σ : Sg), K60 z3 z5 σ → gV p l e rm_X7_countWays s m args below meth c D cy ad b0 Q 6 60 σ [some (.ref (ad 6)), some (.int v1), some (.int v2), some (.long z3), none, some (.int z5)] []) (hK89 : ∀ (z3 : Int64) (σ : Sg), K89 z3 σ → gV p l e rm_X7_countWays s m args below meth c D cy ad b0 Q 6 89 σ [some (.ref (ad 6)), some (.int v1), some (.int v2), some (.long z3), none, none] []) (σ : Sg) (h : wb_X7_countWays_60 v1 v2 v3 v5 K60 K89 Q σ) : gV p l e rm_X7_countWays s m args below meth c D cy ad b0 Q 6 60 σ [some (.ref (ad 6)), some (.int v1), some (.int v2), some (.long v3), none, some (.int v5)] [] := by
  refine g_iload C dX7_countWays_60 rfl ?_
  refine g_iconst C dX7_countWays_62 kc_4 ?_
  refine g_icmp_ge C 89 dX7_countWays_63 (by decide) (fun c63 => ?_) (fun c63 => ?_)
  · have h := h.1 c63
    refine g_mask [true, true, true, true, false, false] rfl ?_
    exact hK89 v3 σ h
  · have h := h.2 c63
    refine g_lload_n C dX7_countWays_66 rfl ?_
    refine g_aload_n C dX7_countWays_67 rfl ?_
    refine g_aload_n C dX7_countWays_68 rfl ?_
    refine g_iload_n C dX7_countWays_69 rfl ?_
    refine g_iload C dX7_countWays_70 rfl ?_
    refine g_callVi C 6 [.int v2, .int v5] (c_X7_next l D cy ad b0 C.A v2 v5) cal_X7_next mw_488 (by decide) rfl rfl ⟨Nat.le_of_ble_eq_true rfl, Nat.le_of_ble_eq_true rfl⟩ ⟨rfl, rfl⟩ ⟨Nat.zero_le _, Nat.zero_le _⟩ (Nat.le_of_ble_eq_true rfl) rfl dX7_countWays_72 h (fun r1 σ2 h => ?_)
    refine g_iload_n C dX7_countWays_75 rfl ?_
    refine g_iconst C dX7_countWays_76 kc_1 ?_
    refine g_isub C dX7_countWays_77 ?_
    refine g_callVl C 6 [.int r1, .int (v1 - (nI 1))] (c_X7_waysOf l D cy ad b0 C.A r1 (v1 - (nI 1))) cal_X7_waysOf mw_516 (by decide) rfl rfl ⟨Nat.le_of_ble_eq_true rfl, Nat.le_of_ble_eq_true rfl⟩ ⟨rfl, rfl⟩ ⟨Nat.zero_le _, Nat.zero_le _⟩ (Nat.le_of_ble_eq_true rfl) rfl dX7_countWays_78 h (fun r3 σ4 h => ?_)
    refine g_ladd C dX7_countWays_81 ?_
    refine g_topl (fun x82 e_x82 => ?_)
    have h := h x82 e_x82
    refine g_lstore_n C [some (.ref (ad 6)), some (.int v1), some (.int v2), some (.long x82), none, some (.int v5)] dX7_countWays_82 (by decide) rfl ?_
    obtain ⟨x83, e_x83⟩ : ∃ v : Int32, v = v5 + (nI 1) := ⟨_, rfl⟩
    have h := h x83 e_x83
    refine g_iinc C [some (.ref (ad 6)), some (.int v1), some (.int v2), some (.long x82), none, some (.int x83)] dX7_countWays_83 rfl e_x83.symm (by decide) rfl ?_
    refine g_goto C 60 dX7_countWays_86 (by decide) ?_
    exact hK60 x82 x83 σ4 h
def wl_X7_countWays_60 (v1 : Int32) (v2 : Int32) (K89 : Int64 → Sg → Prop) (Q : Sg → Prop) : Nat → Int64 → Int32 → Sg → Prop
  | 0, _, _, _ => False
  | n + 1, v3, v5, σ => wb_X7_countWays_60 v1 v2 v3 v5 (wl_X7_countWays_60 v1 v2 K89 Q n) K89 Q σ
set_option maxHeartbeats 4000000 in
set_option maxRecDepth 100000 in
theorem kl_X7_countWays_60 {Q : Sg → Prop} (C : Cx p s m args meth c D cy ad b0 yX7_countWays cX7_countWays 6 none) (v1 : Int32) (v2 : Int32) (K89 : Int64 → Sg → Prop) (hK89 : ∀ (z3 : Int64) (σ : Sg), K89 z3 σ → gV p l e rm_X7_countWays s m args below meth c D cy ad b0 Q 6 89 σ [some (.ref (ad 6)), some (.int v1), some (.int v2), some (.long z3), none, none] []) : ∀ (n : Nat) (v3 : Int64) (v5 : Int32) (σ : Sg), wl_X7_countWays_60 v1 v2 K89 Q n v3 v5 σ → gV p l e rm_X7_countWays s m args below meth c D cy ad b0 Q 6 60 σ [some (.ref (ad 6)), some (.int v1), some (.int v2), some (.long v3), none, some (.int v5)] [] := by
  intro n
  induction n with
  | zero => intro v3 v5 σ h; exact False.elim h
  | succ n ih =>
    intro v3 v5 σ h
    exact kb_X7_countWays_60 C v1 v2 v3 v5 (wl_X7_countWays_60 v1 v2 K89 Q n) K89 (fun z3 z5 σ h => ih z3 z5 σ h) hK89 σ h
def wb_X7_countWays_47 (v1 : Int32) (v2 : Int32) (K47 : Int32 → Sg → Prop) (K109 : Sg → Prop) (Q : Sg → Prop) (σ : Sg) : Prop :=
  (((gF σ 6 4) ≤ v2 → K109 σ) ∧ (¬ (gF σ 6 4) ≤ v2 → ∃ n, wl_X7_countWays_60 v1 v2 (fun z3 σ9 => wp_X7_countWays_89 v1 v2 z3 K47 Q σ9) Q n (lN 0) (nI 0) σ))
set_option maxHeartbeats 4000000 in
set_option maxRecDepth 100000 in
theorem kb_X7_countWays_47 {Q : Sg → Prop} (C : Cx p s m args meth c D cy ad b0 yX7_countWays cX7_countWays 6 none) (v1 : Int32) (v2 : Int32) (K47 : Int32 → Sg → Prop) (K109 : Sg → Prop) (hK47 : ∀ (z2 : Int32) (σ : Sg), K47 z2 σ → gV p l e rm_X7_countWays s m args below meth c D cy ad b0 Q 6 47 σ [some (.ref (ad 6)), some (.int v1), some (.int z2), none, none, none] []) (hK109 : ∀  (σ : Sg), K109 σ → gV p l e rm_X7_countWays s m args below meth c D cy ad b0 Q 6 109 σ [some (.ref (ad 6)), some (.int v1), none, none, none, none] []) (σ : Sg) (h : wb_X7_countWays_47 v1 v2 K47 K109 Q σ) : gV p l e rm_X7_countWays s m args below meth c D cy ad b0 Q 6 47 σ [some (.ref (ad 6)), some (.int v1), some (.int v2), none, none, none] [] := by
  refine g_iload_n C dX7_countWays_47 rfl ?_
  refine g_aload_n C dX7_countWays_48 rfl ?_
  refine fget_6_4_X7_25 C rfl dX7_countWays_49 ?_
  refine g_icmp_ge C 109 dX7_countWays_52 (by decide) (fun c52 => ?_) (fun c52 => ?_)
  · have h := h.1 c52
    refine g_mask [true, true, false, false, false, false] rfl ?_
    exact hK109 σ h
  · have h := h.2 c52
    refine g_lconst C dX7_countWays_55 kl_0 ?_
    refine g_lstore_n C [some (.ref (ad 6)), some (.int v1), some (.int v2), some (.long (lN 0)), none, none] dX7_countWays_56 (by decide) rfl ?_
    refine g_iconst C dX7_countWays_57 kc_0 ?_
    refine g_istore C [some (.ref (ad 6)), some (.int v1), some (.int v2), some (.long (lN 0)), none, some (.int (nI 0))] dX7_countWays_58 (by decide) rfl ?_
    obtain ⟨n, h⟩ := h
    exact kl_X7_countWays_60 C v1 v2 _ (fun z3 σ9 h => by exact k_X7_countWays_89 C v1 v2 z3 K47 hK47 σ9 h) n (lN 0) (nI 0) σ h
def wl_X7_countWays_47 (v1 : Int32) (K109 : Sg → Prop) (Q : Sg → Prop) : Nat → Int32 → Sg → Prop
  | 0, _, _ => False
  | n + 1, v2, σ => wb_X7_countWays_47 v1 v2 (wl_X7_countWays_47 v1 K109 Q n) K109 Q σ
set_option maxHeartbeats 4000000 in
set_option maxRecDepth 100000 in
theorem kl_X7_countWays_47 {Q : Sg → Prop} (C : Cx p s m args meth c D cy ad b0 yX7_countWays cX7_countWays 6 none) (v1 : Int32) (K109 : Sg → Prop) (hK109 : ∀  (σ : Sg), K109 σ → gV p l e rm_X7_countWays s m args below meth c D cy ad b0 Q 6 109 σ [some (.ref (ad 6)), some (.int v1), none, none, none, none] []) : ∀ (n : Nat) (v2 : Int32) (σ : Sg), wl_X7_countWays_47 v1 K109 Q n v2 σ → gV p l e rm_X7_countWays s m args below meth c D cy ad b0 Q 6 47 σ [some (.ref (ad 6)), some (.int v1), some (.int v2), none, none, none] [] := by
  intro n
  induction n with
  | zero => intro v2 σ h; exact False.elim h
  | succ n ih =>
    intro v2 σ h
    exact kb_X7_countWays_47 C v1 v2 (wl_X7_countWays_47 v1 K109 Q n) K109 (fun z2 σ h => ih z2 σ h) hK109 σ h
def wb_X7_countWays_39 (v1 : Int32) (K39 : Int32 → Sg → Prop) (Q : Sg → Prop) (σ : Sg) : Prop :=
  (((nI 25) < v1 → Q σ) ∧ (¬ (nI 25) < v1 → ∃ n, wl_X7_countWays_47 v1 (fun σ9 => wp_X7_countWays_109 v1 K39 Q σ9) Q n (nI 0) σ))
set_option maxHeartbeats 4000000 in
set_option maxRecDepth 100000 in
theorem kb_X7_countWays_39 {Q : Sg → Prop} (C : Cx p s m args meth c D cy ad b0 yX7_countWays cX7_countWays 6 none) (v1 : Int32) (K39 : Int32 → Sg → Prop) (hK39 : ∀ (z1 : Int32) (σ : Sg), K39 z1 σ → gV p l e rm_X7_countWays s m args below meth c D cy ad b0 Q 6 39 σ [some (.ref (ad 6)), some (.int z1), none, none, none, none] []) (σ : Sg) (h : wb_X7_countWays_39 v1 K39 Q σ) : gV p l e rm_X7_countWays s m args below meth c D cy ad b0 Q 6 39 σ [some (.ref (ad 6)), some (.int v1), none, none, none, none] [] := by
  refine g_iload_n C dX7_countWays_39 rfl ?_
  refine g_bipush C dX7_countWays_40 kb_25 ?_
  refine g_icmp_gt C 115 dX7_countWays_42 (by decide) (fun c42 => ?_) (fun c42 => ?_)
  · have h := h.1 c42
    exact g_vret C dX7_countWays_115 h
  · have h := h.2 c42
    refine g_iconst C dX7_countWays_45 kc_0 ?_
    refine g_istore_n C [some (.ref (ad 6)), some (.int v1), some (.int (nI 0)), none, none, none] dX7_countWays_46 (by decide) rfl ?_
    obtain ⟨n, h⟩ := h
    exact kl_X7_countWays_47 C v1 _ (fun σ9 h => by exact k_X7_countWays_109 C v1 K39 hK39 σ9 h) n (nI 0) σ h
def wl_X7_countWays_39 (Q : Sg → Prop) : Nat → Int32 → Sg → Prop
  | 0, _, _ => False
  | n + 1, v1, σ => wb_X7_countWays_39 v1 (wl_X7_countWays_39 Q n) Q σ
set_option maxHeartbeats 4000000 in
set_option maxRecDepth 100000 in
theorem kl_X7_countWays_39 {Q : Sg → Prop} (C : Cx p s m args meth c D cy ad b0 yX7_countWays cX7_countWays 6 none) : ∀ (n : Nat) (v1 : Int32) (σ : Sg), wl_X7_countWays_39 Q n v1 σ → gV p l e rm_X7_countWays s m args below meth c D cy ad b0 Q 6 39 σ [some (.ref (ad 6)), some (.int v1), none, none, none, none] [] := by
  intro n
  induction n with
  | zero => intro v1 σ h; exact False.elim h
  | succ n ih =>
    intro v1 σ h
    exact kb_X7_countWays_39 C v1 (wl_X7_countWays_39 Q n) (fun z1 σ h => ih z1 σ h) σ h
def wp_X7_countWays_37 (Q : Sg → Prop) (σ : Sg) : Prop :=
  ∃ n, wl_X7_countWays_39 Q n (nI 1) σ
set_option maxHeartbeats 4000000 in
set_option maxRecDepth 100000 in
theorem k_X7_countWays_37 {Q : Sg → Prop} (C : Cx p s m args meth c D cy ad b0 yX7_countWays cX7_countWays 6 none) (σ : Sg) (h : wp_X7_countWays_37 Q σ) : gV p l e rm_X7_countWays s m args below meth c D cy ad b0 Q 6 37 σ [some (.ref (ad 6)), none, none, none, none, none] [] := by
  refine g_iconst C dX7_countWays_37 kc_1 ?_
  refine g_istore_n C [some (.ref (ad 6)), some (.int (nI 1)), none, none, none, none] dX7_countWays_38 (by decide) rfl ?_
  obtain ⟨n, h⟩ := h
  exact kl_X7_countWays_39 C n (nI 1) σ h
def wp_X7_countWays_28 (v1 : Int32) (s0 : Int64) (s1 : Int32) (K2 : Int32 → Sg → Prop) (Q : Sg → Prop) (σ : Sg) : Prop :=
  wp_X8_putLong 38 s1 s0 σ (fun σ1 => ∀ x31 : Int32, x31 = v1 + (nI 1) → (K2 x31 σ1))
set_option maxHeartbeats 4000000 in
set_option maxRecDepth 100000 in
theorem k_X7_countWays_28 {Q : Sg → Prop} (C : Cx p s m args meth c D cy ad b0 yX7_countWays cX7_countWays 6 none) (v1 : Int32) (s0 : Int64) (s1 : Int32) (K2 : Int32 → Sg → Prop) (hK2 : ∀ (z1 : Int32) (σ : Sg), K2 z1 σ → gV p l e rm_X7_countWays s m args below meth c D cy ad b0 Q 6 2 σ [some (.ref (ad 6)), some (.int z1), none, none, none, none] []) (σ : Sg) (h : wp_X7_countWays_28 v1 s0 s1 K2 Q σ) : gV p l e rm_X7_countWays s m args below meth c D cy ad b0 Q 6 28 σ [some (.ref (ad 6)), some (.int v1), none, none, none, none] [.long s0, .int s1, .ref (ad 38)] := by
  refine g_callNv C [.ref (ad 38), .int s1, .long s0] (c_X8_putLong l D cy ad b0 C.A 38 s1 s0 (by decide)) cal_X8_putLong nw_21 rfl ⟨Nat.le_of_ble_eq_true rfl, Nat.le_of_ble_eq_true rfl⟩ ⟨rfl, rfl⟩ ⟨Nat.zero_le _, Nat.zero_le _⟩ (Nat.le_of_ble_eq_true rfl) rfl dX7_countWays_28 h (fun σ1 h => ?_)
  obtain ⟨x31, e_x31⟩ : ∃ v : Int32, v = v1 + (nI 1) := ⟨_, rfl⟩
  have h := h x31 e_x31
  refine g_iinc C [some (.ref (ad 6)), some (.int x31), none, none, none, none] dX7_countWays_31 rfl e_x31.symm (by decide) rfl ?_
  refine g_goto C 2 dX7_countWays_34 (by decide) ?_
  exact hK2 x31 σ1 h
def wb_X7_countWays_2 (v1 : Int32) (K2 : Int32 → Sg → Prop) (K37 : Sg → Prop) (Q : Sg → Prop) (σ : Sg) : Prop :=
  (((gF σ 6 4) ≤ v1 → K37 σ) ∧ (¬ (gF σ 6 4) ≤ v1 → wp_X7_keeps v1 σ (fun r1 σ2 => ((r1 = (nI 0) → wp_X7_countWays_28 v1 (lN 0) v1 K2 Q σ2) ∧ (¬ r1 = (nI 0) → wp_X7_countWays_28 v1 (lN 1) v1 K2 Q σ2)))))
set_option maxHeartbeats 4000000 in
set_option maxRecDepth 100000 in
theorem kb_X7_countWays_2 {Q : Sg → Prop} (C : Cx p s m args meth c D cy ad b0 yX7_countWays cX7_countWays 6 none) (v1 : Int32) (K2 : Int32 → Sg → Prop) (K37 : Sg → Prop) (hK2 : ∀ (z1 : Int32) (σ : Sg), K2 z1 σ → gV p l e rm_X7_countWays s m args below meth c D cy ad b0 Q 6 2 σ [some (.ref (ad 6)), some (.int z1), none, none, none, none] []) (hK37 : ∀  (σ : Sg), K37 σ → gV p l e rm_X7_countWays s m args below meth c D cy ad b0 Q 6 37 σ [some (.ref (ad 6)), none, none, none, none, none] []) (σ : Sg) (h : wb_X7_countWays_2 v1 K2 K37 Q σ) : gV p l e rm_X7_countWays s m args below meth c D cy ad b0 Q 6 2 σ [some (.ref (ad 6)), some (.int v1), none, none, none, none] [] := by
  refine g_iload_n C dX7_countWays_2 rfl ?_
  refine g_aload_n C dX7_countWays_3 rfl ?_
  refine fget_6_4_X7_25 C rfl dX7_countWays_4 ?_
  refine g_icmp_ge C 37 dX7_countWays_7 (by decide) (fun c7 => ?_) (fun c7 => ?_)
  · have h := h.1 c7
    refine g_mask [true, false, false, false, false, false] rfl ?_
    exact hK37 σ h
  · have h := h.2 c7
    refine g_aload_n C dX7_countWays_10 rfl ?_
    refine fget_6_3_X7_21 C rfl dX7_countWays_11 ?_
    refine g_iload_n C dX7_countWays_14 rfl ?_
    refine g_aload_n C dX7_countWays_15 rfl ?_
    refine g_iload_n C dX7_countWays_16 rfl ?_
    refine g_callVi C 6 [.int v1] (c_X7_keeps l D cy ad b0 C.A v1) cal_X7_keeps mw_512 (by decide) rfl rfl ⟨Nat.le_of_ble_eq_true rfl, Nat.le_of_ble_eq_true rfl⟩ ⟨rfl, rfl⟩ ⟨Nat.zero_le _, Nat.zero_le _⟩ (Nat.le_of_ble_eq_true rfl) rfl dX7_countWays_17 h (fun r1 σ2 h => ?_)
    refine g_if_eq C 27 dX7_countWays_20 (by decide) (fun c20 => ?_) (fun c20 => ?_)
    · have h := h.1 c20
      refine g_lconst C dX7_countWays_27 kl_0 ?_
      exact k_X7_countWays_28 C v1 (lN 0) v1 K2 hK2 σ2 h
    · have h := h.2 c20
      refine g_lconst C dX7_countWays_23 kl_1 ?_
      refine g_goto C 28 dX7_countWays_24 (by decide) ?_
      exact k_X7_countWays_28 C v1 (lN 1) v1 K2 hK2 σ2 h
def wl_X7_countWays_2 (K37 : Sg → Prop) (Q : Sg → Prop) : Nat → Int32 → Sg → Prop
  | 0, _, _ => False
  | n + 1, v1, σ => wb_X7_countWays_2 v1 (wl_X7_countWays_2 K37 Q n) K37 Q σ
set_option maxHeartbeats 4000000 in
set_option maxRecDepth 100000 in
theorem kl_X7_countWays_2 {Q : Sg → Prop} (C : Cx p s m args meth c D cy ad b0 yX7_countWays cX7_countWays 6 none) (K37 : Sg → Prop) (hK37 : ∀  (σ : Sg), K37 σ → gV p l e rm_X7_countWays s m args below meth c D cy ad b0 Q 6 37 σ [some (.ref (ad 6)), none, none, none, none, none] []) : ∀ (n : Nat) (v1 : Int32) (σ : Sg), wl_X7_countWays_2 K37 Q n v1 σ → gV p l e rm_X7_countWays s m args below meth c D cy ad b0 Q 6 2 σ [some (.ref (ad 6)), some (.int v1), none, none, none, none] [] := by
  intro n
  induction n with
  | zero => intro v1 σ h; exact False.elim h
  | succ n ih =>
    intro v1 σ h
    exact kb_X7_countWays_2 C v1 (wl_X7_countWays_2 K37 Q n) K37 (fun z1 σ h => ih z1 σ h) hK37 σ h
def wp_X7_countWays (σ : Sg) (Q : Sg → Prop) : Prop :=
  ∃ n, wl_X7_countWays_2 (fun σ9 => wp_X7_countWays_37 Q σ9) Q n (nI 0) σ
set_option maxHeartbeats 4000000 in
set_option maxRecDepth 100000 in
theorem c_X7_countWays (l : Launch) (D : va_G) (cy : Nat → ClassId) (ad : Nat → Nat) (b0 : Nat) (hA : AdOk ad b0) : Ctv l D cy ad b0 yX7_countWays cX7_countWays 6 none rm_X7_countWays [.ref (ad 6)] (fun σ Q => wp_X7_countWays σ Q) := by
  intro σ Q h
  refine g_enter hA rfl (Nat.le_of_ble_eq_true rfl) [some (.ref (ad 6)), none, none, none, none, none] rfl ?_
  intro p e s m args below meth c C
  refine g_iconst C dX7_countWays_0 kc_0 ?_
  refine g_istore_n C [some (.ref (ad 6)), some (.int (nI 0)), none, none, none, none] dX7_countWays_1 (by decide) rfl ?_
  obtain ⟨n, h⟩ := h
  exact kl_X7_countWays_2 C _ (fun σ9 h => by exact k_X7_countWays_37 C σ9 h) n (nI 0) σ h
def rm_X7_firstKeptEvent : Room := { frames := 2, cells := 0, slots := 0, locals := 43 }
def wb_X7_firstKeptEvent_2 (v1 : Int32) (v2 : Int32) (v3 : Int32) (K2 : Int32 → Sg → Prop) (Q : Int32 → Sg → Prop) (σ : Sg) : Prop :=
  (((nI 4) ≤ v3 → Q (-9 : Int32) σ) ∧ (¬ (nI 4) ≤ v3 → wp_X7_next v1 v3 σ (fun r1 σ2 => wp_X7_waysOf r1 v2 σ2 (fun r3 σ4 => (((lg_cmp r3 (lN 0)) ≤ (nI 0) → ∀ x25 : Int32, x25 = v3 + (nI 1) → (K2 x25 σ4)) ∧ (¬ (lg_cmp r3 (lN 0)) ≤ (nI 0) → Q v3 σ4))))))
set_option maxHeartbeats 4000000 in
set_option maxRecDepth 100000 in
theorem kb_X7_firstKeptEvent_2 {Q : Int32 → Sg → Prop} (C : Cx p s m args meth c D cy ad b0 yX7_firstKeptEvent cX7_firstKeptEvent 4 (some .int)) (v1 : Int32) (v2 : Int32) (v3 : Int32) (K2 : Int32 → Sg → Prop) (hK2 : ∀ (z3 : Int32) (σ : Sg), K2 z3 σ → gI p l e rm_X7_firstKeptEvent s m args below meth c D cy ad b0 Q 4 2 σ [some (.ref (ad 6)), some (.int v1), some (.int v2), some (.int z3)] []) (σ : Sg) (h : wb_X7_firstKeptEvent_2 v1 v2 v3 K2 Q σ) : gI p l e rm_X7_firstKeptEvent s m args below meth c D cy ad b0 Q 4 2 σ [some (.ref (ad 6)), some (.int v1), some (.int v2), some (.int v3)] [] := by
  refine g_iload_n C dX7_firstKeptEvent_2 rfl ?_
  refine g_iconst C dX7_firstKeptEvent_3 kc_4 ?_
  refine g_icmp_ge C 31 dX7_firstKeptEvent_4 (by decide) (fun c4 => ?_) (fun c4 => ?_)
  · have h := h.1 c4
    refine g_bipush C dX7_firstKeptEvent_31 kb_m9 ?_
    exact g_iret C dX7_firstKeptEvent_33 h
  · have h := h.2 c4
    refine g_aload_n C dX7_firstKeptEvent_7 rfl ?_
    refine g_aload_n C dX7_firstKeptEvent_8 rfl ?_
    refine g_iload_n C dX7_firstKeptEvent_9 rfl ?_
    refine g_iload_n C dX7_firstKeptEvent_10 rfl ?_
    refine g_callVi C 6 [.int v1, .int v3] (c_X7_next l D cy ad b0 C.A v1 v3) cal_X7_next mw_488 (by decide) rfl rfl ⟨Nat.le_of_ble_eq_true rfl, Nat.le_of_ble_eq_true rfl⟩ ⟨rfl, rfl⟩ ⟨Nat.zero_le _, Nat.zero_le _⟩ (Nat.le_of_ble_eq_true rfl) rfl dX7_firstKeptEvent_11 h (fun r1 σ2 h => ?_)
    refine g_iload_n C dX7_firstKeptEvent_14 rfl ?_
    refine g_callVl C 6 [.int r1, .int v2] (c_X7_waysOf l D cy ad b0 C.A r1 v2) cal_X7_waysOf mw_516 (by decide) rfl rfl ⟨Nat.le_of_ble_eq_true rfl, Nat.le_of_ble_eq_true rfl⟩ ⟨rfl, rfl⟩ ⟨Nat.zero_le _, Nat.zero_le _⟩ (Nat.le_of_ble_eq_true rfl) rfl dX7_firstKeptEvent_15 h (fun r3 σ4 h => ?_)
    refine g_lconst C dX7_firstKeptEvent_18 kl_0 ?_
    refine g_lcmp C dX7_firstKeptEvent_19 ?_
    refine g_if_le C 25 dX7_firstKeptEvent_20 (by decide) (fun c20 => ?_) (fun c20 => ?_)
    · have h := h.1 c20
      obtain ⟨x25, e_x25⟩ : ∃ v : Int32, v = v3 + (nI 1) := ⟨_, rfl⟩
      have h := h x25 e_x25
      refine g_iinc C [some (.ref (ad 6)), some (.int v1), some (.int v2), some (.int x25)] dX7_firstKeptEvent_25 rfl e_x25.symm (by decide) rfl ?_
      refine g_goto C 2 dX7_firstKeptEvent_28 (by decide) ?_
      exact hK2 x25 σ4 h
    · have h := h.2 c20
      refine g_iload_n C dX7_firstKeptEvent_23 rfl ?_
      exact g_iret C dX7_firstKeptEvent_24 h
def wl_X7_firstKeptEvent_2 (v1 : Int32) (v2 : Int32) (Q : Int32 → Sg → Prop) : Nat → Int32 → Sg → Prop
  | 0, _, _ => False
  | n + 1, v3, σ => wb_X7_firstKeptEvent_2 v1 v2 v3 (wl_X7_firstKeptEvent_2 v1 v2 Q n) Q σ
set_option maxHeartbeats 4000000 in
set_option maxRecDepth 100000 in
theorem kl_X7_firstKeptEvent_2 {Q : Int32 → Sg → Prop} (C : Cx p s m args meth c D cy ad b0 yX7_firstKeptEvent cX7_firstKeptEvent 4 (some .int)) (v1 : Int32) (v2 : Int32) : ∀ (n : Nat) (v3 : Int32) (σ : Sg), wl_X7_firstKeptEvent_2 v1 v2 Q n v3 σ → gI p l e rm_X7_firstKeptEvent s m args below meth c D cy ad b0 Q 4 2 σ [some (.ref (ad 6)), some (.int v1), some (.int v2), some (.int v3)] [] := by
  intro n
  induction n with
  | zero => intro v3 σ h; exact False.elim h
  | succ n ih =>
    intro v3 σ h
    exact kb_X7_firstKeptEvent_2 C v1 v2 v3 (wl_X7_firstKeptEvent_2 v1 v2 Q n) (fun z3 σ h => ih z3 σ h) σ h
def wp_X7_firstKeptEvent (a0 : Int32) (a1 : Int32) (σ : Sg) (Q : Int32 → Sg → Prop) : Prop :=
  ∃ n, wl_X7_firstKeptEvent_2 a0 a1 Q n (nI 0) σ
set_option maxHeartbeats 4000000 in
set_option maxRecDepth 100000 in
theorem c_X7_firstKeptEvent (l : Launch) (D : va_G) (cy : Nat → ClassId) (ad : Nat → Nat) (b0 : Nat) (hA : AdOk ad b0) (a0 : Int32) (a1 : Int32) : Cti l D cy ad b0 yX7_firstKeptEvent cX7_firstKeptEvent 4 (some .int) rm_X7_firstKeptEvent [.ref (ad 6), .int a0, .int a1] (fun σ Q => wp_X7_firstKeptEvent a0 a1 σ Q) := by
  intro σ Q h
  refine g_enter hA rfl (Nat.le_of_ble_eq_true rfl) [some (.ref (ad 6)), some (.int a0), some (.int a1), none] rfl ?_
  intro p e s m args below meth c C
  refine g_iconst C dX7_firstKeptEvent_0 kc_0 ?_
  refine g_istore_n C [some (.ref (ad 6)), some (.int a0), some (.int a1), some (.int (nI 0))] dX7_firstKeptEvent_1 (by decide) rfl ?_
  obtain ⟨n, h⟩ := h
  exact kl_X7_firstKeptEvent_2 C a0 a1 n (nI 0) σ h
def rm_X7_eventOfFirstRow : Room := { frames := 3, cells := 0, slots := 0, locals := 66 }
def wb_X7_eventOfFirstRow_29 (v2 : Int32) (v3 : Int32) (v4 : Int32) (v5 : Int32) (K29 : Int32 → Int32 → Sg → Prop) (Q : Int32 → Sg → Prop) (σ : Sg) : Prop :=
  ((v2 ≤ v5 → Q (-9 : Int32) σ) ∧ (¬ v2 ≤ v5 → wp_X7_firstKeptEvent v4 ((v2 - v5) - (nI 1)) σ (fun r1 σ2 => ((v5 = v3 → Q r1 σ2) ∧ (¬ v5 = v3 → ((¬ r1 = (-9 : Int32) → wp_X7_next v4 r1 σ2 (fun r3 σ4 => ∀ x75 : Int32, x75 = v5 + (nI 1) → (K29 r3 x75 σ4))) ∧ (r1 = (-9 : Int32) → Q r1 σ2)))))))
set_option maxHeartbeats 4000000 in
set_option maxRecDepth 100000 in
theorem kb_X7_eventOfFirstRow_29 {Q : Int32 → Sg → Prop} (C : Cx p s m args meth c D cy ad b0 yX7_eventOfFirstRow cX7_eventOfFirstRow 7 (some .int)) (v2 : Int32) (v3 : Int32) (v4 : Int32) (v5 : Int32) (K29 : Int32 → Int32 → Sg → Prop) (hK29 : ∀ (z4 : Int32) (z5 : Int32) (σ : Sg), K29 z4 z5 σ → gI p l e rm_X7_eventOfFirstRow s m args below meth c D cy ad b0 Q 7 29 σ [some (.ref (ad 6)), none, some (.int v2), some (.int v3), some (.int z4), some (.int z5), none] []) (σ : Sg) (h : wb_X7_eventOfFirstRow_29 v2 v3 v4 v5 K29 Q σ) : gI p l e rm_X7_eventOfFirstRow s m args below meth c D cy ad b0 Q 7 29 σ [some (.ref (ad 6)), none, some (.int v2), some (.int v3), some (.int v4), some (.int v5), none] [] := by
  refine g_iload C dX7_eventOfFirstRow_29 rfl ?_
  refine g_iload_n C dX7_eventOfFirstRow_31 rfl ?_
  refine g_icmp_ge C 81 dX7_eventOfFirstRow_32 (by decide) (fun c32 => ?_) (fun c32 => ?_)
  · have h := h.1 c32
    refine g_bipush C dX7_eventOfFirstRow_81 kb_m9 ?_
    exact g_iret C dX7_eventOfFirstRow_83 h
  · have h := h.2 c32
    refine g_aload_n C dX7_eventOfFirstRow_35 rfl ?_
    refine g_iload C dX7_eventOfFirstRow_36 rfl ?_
    refine g_iload_n C dX7_eventOfFirstRow_38 rfl ?_
    refine g_iload C dX7_eventOfFirstRow_39 rfl ?_
    refine g_isub C dX7_eventOfFirstRow_41 ?_
    refine g_iconst C dX7_eventOfFirstRow_42 kc_1 ?_
    refine g_isub C dX7_eventOfFirstRow_43 ?_
    refine g_callVi C 6 [.int v4, .int ((v2 - v5) - (nI 1))] (c_X7_firstKeptEvent l D cy ad b0 C.A v4 ((v2 - v5) - (nI 1))) cal_X7_firstKeptEvent mw_753 (by decide) rfl rfl ⟨Nat.le_of_ble_eq_true rfl, Nat.le_of_ble_eq_true rfl⟩ ⟨rfl, rfl⟩ ⟨Nat.zero_le _, Nat.zero_le _⟩ (Nat.le_of_ble_eq_true rfl) rfl dX7_eventOfFirstRow_44 h (fun r1 σ2 h => ?_)
    refine g_istore C [some (.ref (ad 6)), none, some (.int v2), some (.int v3), some (.int v4), some (.int v5), some (.int r1)] dX7_eventOfFirstRow_47 (by decide) rfl ?_
    refine g_iload C dX7_eventOfFirstRow_49 rfl ?_
    refine g_iload_n C dX7_eventOfFirstRow_51 rfl ?_
    refine g_icmp_eq C 62 dX7_eventOfFirstRow_52 (by decide) (fun c52 => ?_) (fun c52 => ?_)
    · have h := h.1 c52
      refine g_iload C dX7_eventOfFirstRow_62 rfl ?_
      exact g_iret C dX7_eventOfFirstRow_64 h
    · have h := h.2 c52
      refine g_iload C dX7_eventOfFirstRow_55 rfl ?_
      refine g_bipush C dX7_eventOfFirstRow_57 kb_m9 ?_
      refine g_icmp_ne C 65 dX7_eventOfFirstRow_59 (by decide) (fun c59 => ?_) (fun c59 => ?_)
      · have h := h.1 c59
        refine g_aload_n C dX7_eventOfFirstRow_65 rfl ?_
        refine g_iload C dX7_eventOfFirstRow_66 rfl ?_
        refine g_iload C dX7_eventOfFirstRow_68 rfl ?_
        refine g_callVi C 6 [.int v4, .int r1] (c_X7_next l D cy ad b0 C.A v4 r1) cal_X7_next mw_488 (by decide) rfl rfl ⟨Nat.le_of_ble_eq_true rfl, Nat.le_of_ble_eq_true rfl⟩ ⟨rfl, rfl⟩ ⟨Nat.zero_le _, Nat.zero_le _⟩ (Nat.le_of_ble_eq_true rfl) rfl dX7_eventOfFirstRow_70 h (fun r3 σ4 h => ?_)
        refine g_istore C [some (.ref (ad 6)), none, some (.int v2), some (.int v3), some (.int r3), some (.int v5), some (.int r1)] dX7_eventOfFirstRow_73 (by decide) rfl ?_
        obtain ⟨x75, e_x75⟩ : ∃ v : Int32, v = v5 + (nI 1) := ⟨_, rfl⟩
        have h := h x75 e_x75
        refine g_iinc C [some (.ref (ad 6)), none, some (.int v2), some (.int v3), some (.int r3), some (.int x75), some (.int r1)] dX7_eventOfFirstRow_75 rfl e_x75.symm (by decide) rfl ?_
        refine g_goto C 29 dX7_eventOfFirstRow_78 (by decide) ?_
        refine g_mask [true, false, true, true, true, true, false] rfl ?_
        exact hK29 r3 x75 σ4 h
      · have h := h.2 c59
        refine g_iload C dX7_eventOfFirstRow_62 rfl ?_
        exact g_iret C dX7_eventOfFirstRow_64 h
def wl_X7_eventOfFirstRow_29 (v2 : Int32) (v3 : Int32) (Q : Int32 → Sg → Prop) : Nat → Int32 → Int32 → Sg → Prop
  | 0, _, _, _ => False
  | n + 1, v4, v5, σ => wb_X7_eventOfFirstRow_29 v2 v3 v4 v5 (wl_X7_eventOfFirstRow_29 v2 v3 Q n) Q σ
set_option maxHeartbeats 4000000 in
set_option maxRecDepth 100000 in
theorem kl_X7_eventOfFirstRow_29 {Q : Int32 → Sg → Prop} (C : Cx p s m args meth c D cy ad b0 yX7_eventOfFirstRow cX7_eventOfFirstRow 7 (some .int)) (v2 : Int32) (v3 : Int32) : ∀ (n : Nat) (v4 : Int32) (v5 : Int32) (σ : Sg), wl_X7_eventOfFirstRow_29 v2 v3 Q n v4 v5 σ → gI p l e rm_X7_eventOfFirstRow s m args below meth c D cy ad b0 Q 7 29 σ [some (.ref (ad 6)), none, some (.int v2), some (.int v3), some (.int v4), some (.int v5), none] [] := by
  intro n
  induction n with
  | zero => intro v4 v5 σ h; exact False.elim h
  | succ n ih =>
    intro v4 v5 σ h
    exact kb_X7_eventOfFirstRow_29 C v2 v3 v4 v5 (wl_X7_eventOfFirstRow_29 v2 v3 Q n) (fun z4 z5 σ h => ih z4 z5 σ h) σ h
def wp_X7_eventOfFirstRow (a0 : Int32) (a1 : Int32) (a2 : Int32) (σ : Sg) (Q : Int32 → Sg → Prop) : Prop :=
  ((a2 < (nI 0) → Q (-9 : Int32) σ) ∧ (¬ a2 < (nI 0) → ((a1 ≤ a2 → Q (-9 : Int32) σ) ∧ (¬ a1 ≤ a2 → wp_X7_waysOf a0 a1 σ (fun r1 σ2 => ((¬ (lg_cmp r1 (lN 0)) = (nI 0) → ∃ n, wl_X7_eventOfFirstRow_29 a1 a2 Q n a0 (nI 0) σ2) ∧ ((lg_cmp r1 (lN 0)) = (nI 0) → Q (-9 : Int32) σ2)))))))
set_option maxHeartbeats 4000000 in
set_option maxRecDepth 100000 in
theorem c_X7_eventOfFirstRow (l : Launch) (D : va_G) (cy : Nat → ClassId) (ad : Nat → Nat) (b0 : Nat) (hA : AdOk ad b0) (a0 : Int32) (a1 : Int32) (a2 : Int32) : Cti l D cy ad b0 yX7_eventOfFirstRow cX7_eventOfFirstRow 7 (some .int) rm_X7_eventOfFirstRow [.ref (ad 6), .int a0, .int a1, .int a2] (fun σ Q => wp_X7_eventOfFirstRow a0 a1 a2 σ Q) := by
  intro σ Q h
  refine g_enter hA rfl (Nat.le_of_ble_eq_true rfl) [some (.ref (ad 6)), some (.int a0), some (.int a1), some (.int a2), none, none, none] rfl ?_
  intro p e s m args below meth c C
  refine g_iload_n C dX7_eventOfFirstRow_0 rfl ?_
  refine g_if_lt C 20 dX7_eventOfFirstRow_1 (by decide) (fun c1 => ?_) (fun c1 => ?_)
  · have h := h.1 c1
    refine g_bipush C dX7_eventOfFirstRow_20 kb_m9 ?_
    exact g_iret C dX7_eventOfFirstRow_22 h
  · have h := h.2 c1
    refine g_iload_n C dX7_eventOfFirstRow_4 rfl ?_
    refine g_iload_n C dX7_eventOfFirstRow_5 rfl ?_
    refine g_icmp_ge C 20 dX7_eventOfFirstRow_6 (by decide) (fun c6 => ?_) (fun c6 => ?_)
    · have h := h.1 c6
      refine g_bipush C dX7_eventOfFirstRow_20 kb_m9 ?_
      exact g_iret C dX7_eventOfFirstRow_22 h
    · have h := h.2 c6
      refine g_aload_n C dX7_eventOfFirstRow_9 rfl ?_
      refine g_iload_n C dX7_eventOfFirstRow_10 rfl ?_
      refine g_iload_n C dX7_eventOfFirstRow_11 rfl ?_
      refine g_callVl C 6 [.int a0, .int a1] (c_X7_waysOf l D cy ad b0 C.A a0 a1) cal_X7_waysOf mw_516 (by decide) rfl rfl ⟨Nat.le_of_ble_eq_true rfl, Nat.le_of_ble_eq_true rfl⟩ ⟨rfl, rfl⟩ ⟨Nat.zero_le _, Nat.zero_le _⟩ (Nat.le_of_ble_eq_true rfl) rfl dX7_eventOfFirstRow_12 h (fun r1 σ2 h => ?_)
      refine g_lconst C dX7_eventOfFirstRow_15 kl_0 ?_
      refine g_lcmp C dX7_eventOfFirstRow_16 ?_
      refine g_if_ne C 23 dX7_eventOfFirstRow_17 (by decide) (fun c17 => ?_) (fun c17 => ?_)
      · have h := h.1 c17
        refine g_iload_n C dX7_eventOfFirstRow_23 rfl ?_
        refine g_istore C [some (.ref (ad 6)), some (.int a0), some (.int a1), some (.int a2), some (.int a0), none, none] dX7_eventOfFirstRow_24 (by decide) rfl ?_
        refine g_iconst C dX7_eventOfFirstRow_26 kc_0 ?_
        refine g_istore C [some (.ref (ad 6)), some (.int a0), some (.int a1), some (.int a2), some (.int a0), some (.int (nI 0)), none] dX7_eventOfFirstRow_27 (by decide) rfl ?_
        refine g_mask [true, false, true, true, true, true, false] rfl ?_
        obtain ⟨n, h⟩ := h
        exact kl_X7_eventOfFirstRow_29 C a1 a2 n a0 (nI 0) σ2 h
      · have h := h.2 c17
        refine g_bipush C dX7_eventOfFirstRow_20 kb_m9 ?_
        exact g_iret C dX7_eventOfFirstRow_22 h
def rm_X7_finish : Room := { frames := 4, cells := 0, slots := 0, locals := 91 }
def wp_X7_finish_22 (Q : Sg → Prop) (σ : Sg) : Prop :=
  wp_X7_countWays σ (fun σ1 => Q σ1)
set_option maxHeartbeats 4000000 in
set_option maxRecDepth 100000 in
theorem k_X7_finish_22 {Q : Sg → Prop} (C : Cx p s m args meth c D cy ad b0 yX7_finish cX7_finish 2 none) (σ : Sg) (h : wp_X7_finish_22 Q σ) : gV p l e rm_X7_finish s m args below meth c D cy ad b0 Q 2 22 σ [some (.ref (ad 6)), none] [] := by
  refine g_aload_n C dX7_finish_22 rfl ?_
  refine g_callVv C 6 [] (c_X7_countWays l D cy ad b0 C.A) cal_X7_countWays mw_508 (by decide) rfl rfl ⟨Nat.le_of_ble_eq_true rfl, Nat.le_of_ble_eq_true rfl⟩ ⟨rfl, rfl⟩ ⟨Nat.zero_le _, Nat.zero_le _⟩ (Nat.le_of_ble_eq_true rfl) rfl dX7_finish_23 h (fun σ1 h => ?_)
  exact g_vret C dX7_finish_26 h
def wb_X7_finish_6 (v1 : Int32) (K6 : Int32 → Sg → Prop) (K22 : Sg → Prop) (Q : Sg → Prop) (σ : Sg) : Prop :=
  (((nI 4) ≤ v1 → K22 σ) ∧ (¬ (nI 4) ≤ v1 → wp_X7_measure v1 σ (fun σ1 => ∀ x16 : Int32, x16 = v1 + (nI 1) → (K6 x16 σ1))))
set_option maxHeartbeats 4000000 in
set_option maxRecDepth 100000 in
theorem kb_X7_finish_6 {Q : Sg → Prop} (C : Cx p s m args meth c D cy ad b0 yX7_finish cX7_finish 2 none) (v1 : Int32) (K6 : Int32 → Sg → Prop) (K22 : Sg → Prop) (hK6 : ∀ (z1 : Int32) (σ : Sg), K6 z1 σ → gV p l e rm_X7_finish s m args below meth c D cy ad b0 Q 2 6 σ [some (.ref (ad 6)), some (.int z1)] []) (hK22 : ∀  (σ : Sg), K22 σ → gV p l e rm_X7_finish s m args below meth c D cy ad b0 Q 2 22 σ [some (.ref (ad 6)), none] []) (σ : Sg) (h : wb_X7_finish_6 v1 K6 K22 Q σ) : gV p l e rm_X7_finish s m args below meth c D cy ad b0 Q 2 6 σ [some (.ref (ad 6)), some (.int v1)] [] := by
  refine g_iload_n C dX7_finish_6 rfl ?_
  refine g_iconst C dX7_finish_7 kc_4 ?_
  refine g_icmp_ge C 22 dX7_finish_8 (by decide) (fun c8 => ?_) (fun c8 => ?_)
  · have h := h.1 c8
    refine g_mask [true, false] rfl ?_
    exact hK22 σ h
  · have h := h.2 c8
    refine g_aload_n C dX7_finish_11 rfl ?_
    refine g_iload_n C dX7_finish_12 rfl ?_
    refine g_callVv C 6 [.int v1] (c_X7_measure l D cy ad b0 C.A v1) cal_X7_measure mw_496 (by decide) rfl rfl ⟨Nat.le_of_ble_eq_true rfl, Nat.le_of_ble_eq_true rfl⟩ ⟨rfl, rfl⟩ ⟨Nat.zero_le _, Nat.zero_le _⟩ (Nat.le_of_ble_eq_true rfl) rfl dX7_finish_13 h (fun σ1 h => ?_)
    obtain ⟨x16, e_x16⟩ : ∃ v : Int32, v = v1 + (nI 1) := ⟨_, rfl⟩
    have h := h x16 e_x16
    refine g_iinc C [some (.ref (ad 6)), some (.int x16)] dX7_finish_16 rfl e_x16.symm (by decide) rfl ?_
    refine g_goto C 6 dX7_finish_19 (by decide) ?_
    exact hK6 x16 σ1 h
def wl_X7_finish_6 (K22 : Sg → Prop) (Q : Sg → Prop) : Nat → Int32 → Sg → Prop
  | 0, _, _ => False
  | n + 1, v1, σ => wb_X7_finish_6 v1 (wl_X7_finish_6 K22 Q n) K22 Q σ
set_option maxHeartbeats 4000000 in
set_option maxRecDepth 100000 in
theorem kl_X7_finish_6 {Q : Sg → Prop} (C : Cx p s m args meth c D cy ad b0 yX7_finish cX7_finish 2 none) (K22 : Sg → Prop) (hK22 : ∀  (σ : Sg), K22 σ → gV p l e rm_X7_finish s m args below meth c D cy ad b0 Q 2 22 σ [some (.ref (ad 6)), none] []) : ∀ (n : Nat) (v1 : Int32) (σ : Sg), wl_X7_finish_6 K22 Q n v1 σ → gV p l e rm_X7_finish s m args below meth c D cy ad b0 Q 2 6 σ [some (.ref (ad 6)), some (.int v1)] [] := by
  intro n
  induction n with
  | zero => intro v1 σ h; exact False.elim h
  | succ n ih =>
    intro v1 σ h
    exact kb_X7_finish_6 C v1 (wl_X7_finish_6 K22 Q n) K22 (fun z1 σ h => ih z1 σ h) hK22 σ h
def wp_X7_finish (σ : Sg) (Q : Sg → Prop) : Prop :=
  wp_X7_markSure σ (fun σ1 => ∃ n, wl_X7_finish_6 (fun σ9 => wp_X7_finish_22 Q σ9) Q n (nI 0) σ1)
set_option maxHeartbeats 4000000 in
set_option maxRecDepth 100000 in
theorem c_X7_finish (l : Launch) (D : va_G) (cy : Nat → ClassId) (ad : Nat → Nat) (b0 : Nat) (hA : AdOk ad b0) : Ctv l D cy ad b0 yX7_finish cX7_finish 2 none rm_X7_finish [.ref (ad 6)] (fun σ Q => wp_X7_finish σ Q) := by
  intro σ Q h
  refine g_enter hA rfl (Nat.le_of_ble_eq_true rfl) [some (.ref (ad 6)), none] rfl ?_
  intro p e s m args below meth c C
  refine g_aload_n C dX7_finish_0 rfl ?_
  refine g_callVv C 6 [] (c_X7_markSure l D cy ad b0 C.A) cal_X7_markSure mw_484 (by decide) rfl rfl ⟨Nat.le_of_ble_eq_true rfl, Nat.le_of_ble_eq_true rfl⟩ ⟨rfl, rfl⟩ ⟨Nat.zero_le _, Nat.zero_le _⟩ (Nat.le_of_ble_eq_true rfl) rfl dX7_finish_1 h (fun σ1 h => ?_)
  refine g_iconst C dX7_finish_4 kc_0 ?_
  refine g_istore_n C [some (.ref (ad 6)), some (.int (nI 0))] dX7_finish_5 (by decide) rfl ?_
  obtain ⟨n, h⟩ := h
  exact kl_X7_finish_6 C _ (fun σ9 h => by exact k_X7_finish_22 C σ9 h) n (nI 0) σ1 h
def rm_X7_copyFromk : Room := { frames := 1, cells := 0, slots := 0, locals := 60 }
def wp_X7_copyFromk (σ : Sg) (Q : Sg → Prop) : Prop :=
  ∀ σ1 : Sg, σ1 = stF σ 7 4 (gF σ 6 4) → (∀ σ2 : Sg, σ2 = stC σ1 35 39 (nI 0) (nI 0) (nI (aN 39)) → (∀ σ3 : Sg, σ3 = stC σ2 36 40 (nI 0) (nI 0) (nI (aN 40)) → (Q σ3)))
set_option maxHeartbeats 4000000 in
set_option maxRecDepth 100000 in
theorem c_X7_copyFromk (l : Launch) (D : va_G) (cy : Nat → ClassId) (ad : Nat → Nat) (b0 : Nat) (hA : AdOk ad b0) : Ctv l D cy ad b0 yX7_copyFrom cX7_copyFrom 2 none rm_X7_copyFromk [.ref (ad 7), .ref (ad 6)] (fun σ Q => wp_X7_copyFromk σ Q) := by
  intro σ Q h
  refine g_enter hA rfl (Nat.le_of_ble_eq_true rfl) [some (.ref (ad 7)), some (.ref (ad 6))] rfl ?_
  intro p e s m args below meth c C
  refine g_aload_n C dX7_copyFrom_0 rfl ?_
  refine g_aload_n C dX7_copyFrom_1 rfl ?_
  refine fget_6_4_X7_25 C rfl dX7_copyFrom_2 ?_
  refine fput_7_4_X7_25 C rfl dX7_copyFrom_5 (fun σ1 e_σ1 => ?_)
  have h := h σ1 e_σ1
  refine g_aload_n C dX7_copyFrom_8 rfl ?_
  refine fget_6_0_X7_9 C rfl dX7_copyFrom_9 ?_
  refine g_iconst C dX7_copyFrom_12 kc_0 ?_
  refine g_aload_n C dX7_copyFrom_13 rfl ?_
  refine fget_7_0_X7_9 C rfl dX7_copyFrom_14 ?_
  refine g_iconst C dX7_copyFrom_17 kc_0 ?_
  refine g_aload_n C dX7_copyFrom_18 rfl ?_
  refine fget_7_0_X7_9 C rfl dX7_copyFrom_19 ?_
  refine g_alen C (by decide) dX7_copyFrom_22 ?_
  refine g_acopy C mw_894 mw_895 mw_896 mw_897 (by decide) (by decide) (by decide) (by decide) (by decide) (by decide) (by decide) ⟨Nat.le_of_ble_eq_true rfl, Nat.le_of_ble_eq_true rfl⟩ dX7_copyFrom_23 (fun σ2 e_σ2 => ?_)
  have h := h σ2 e_σ2
  refine g_aload_n C dX7_copyFrom_26 rfl ?_
  refine fget_6_1_X7_15 C rfl dX7_copyFrom_27 ?_
  refine g_iconst C dX7_copyFrom_30 kc_0 ?_
  refine g_aload_n C dX7_copyFrom_31 rfl ?_
  refine fget_7_1_X7_15 C rfl dX7_copyFrom_32 ?_
  refine g_iconst C dX7_copyFrom_35 kc_0 ?_
  refine g_aload_n C dX7_copyFrom_36 rfl ?_
  refine fget_7_1_X7_15 C rfl dX7_copyFrom_37 ?_
  refine g_alen C (by decide) dX7_copyFrom_40 ?_
  refine g_acopy C mw_894 mw_895 mw_896 mw_897 (by decide) (by decide) (by decide) (by decide) (by decide) (by decide) (by decide) ⟨Nat.le_of_ble_eq_true rfl, Nat.le_of_ble_eq_true rfl⟩ dX7_copyFrom_41 (fun σ3 e_σ3 => ?_)
  have h := h σ3 e_σ3
  exact g_vret C dX7_copyFrom_44 h
end
