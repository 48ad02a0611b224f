section
variable {p : Program} {l : Launch} {e : Env} {s : State} {m : MethodId} {args : Array Value} {below : List Frame} {meth : Method} {c : Code} {D : va_G} {cy : Nat → ClassId} {ad : Nat → Nat} {b0 : Nat}
def rm_X6_looksBehind : Room := { frames := 0, cells := 0, slots := 0, locals := 0 }
def wp_X6_looksBehind_30 (Q : Int32 → Sg → Prop) (σ : Sg) : Prop :=
  Q (nI 1) σ
set_option maxHeartbeats 4000000 in
set_option maxRecDepth 100000 in
theorem k_X6_looksBehind_30 {Q : Int32 → Sg → Prop} (C : Cx p s m args meth c D cy ad b0 yX6_looksBehind cX6_looksBehind 1 (some .boolean)) (σ : Sg) (h : wp_X6_looksBehind_30 Q σ) : gI p l e rm_X6_looksBehind s m args below meth c D cy ad b0 Q 1 30 σ [none] [] := by
  refine g_iconst C dX6_looksBehind_30 kc_1 ?_
  refine g_goto C 35 dX6_looksBehind_31 (by decide) ?_
  exact g_zret C (narrow_bl bl_1) dX6_looksBehind_35 h
def wp_X6_looksBehind (a0 : Int32) (σ : Sg) (Q : Int32 → Sg → Prop) : Prop :=
  ((a0 = (nI 78) → wp_X6_looksBehind_30 Q σ) ∧ (¬ a0 = (nI 78) → ((a0 = (nI 87) → wp_X6_looksBehind_30 Q σ) ∧ (¬ a0 = (nI 87) → ((a0 = (nI 71) → wp_X6_looksBehind_30 Q σ) ∧ (¬ a0 = (nI 71) → ((a0 = (nI 70) → wp_X6_looksBehind_30 Q σ) ∧ (¬ a0 = (nI 70) → ((¬ a0 = (nI 85) → Q (nI 0) σ) ∧ (a0 = (nI 85) → wp_X6_looksBehind_30 Q σ))))))))))
set_option maxHeartbeats 4000000 in
set_option maxRecDepth 100000 in
theorem c_X6_looksBehind (l : Launch) (D : va_G) (cy : Nat → ClassId) (ad : Nat → Nat) (b0 : Nat) (hA : AdOk ad b0) (a0 : Int32) : Cti l D cy ad b0 yX6_looksBehind cX6_looksBehind 1 (some .boolean) rm_X6_looksBehind [.int a0] (fun σ Q => wp_X6_looksBehind a0 σ Q) := by
  intro σ Q h
  refine g_enter hA rfl (Nat.le_of_ble_eq_true rfl) [some (.int a0)] rfl ?_
  intro p e s m args below meth c C
  refine g_iload_n C dX6_looksBehind_0 rfl ?_
  refine g_bipush C dX6_looksBehind_1 kb_78 ?_
  refine g_icmp_eq C 30 dX6_looksBehind_3 (by decide) (fun c3 => ?_) (fun c3 => ?_)
  · have h := h.1 c3
    refine g_mask [false] rfl ?_
    exact k_X6_looksBehind_30 C σ h
  · have h := h.2 c3
    refine g_iload_n C dX6_looksBehind_6 rfl ?_
    refine g_bipush C dX6_looksBehind_7 kb_87 ?_
    refine g_icmp_eq C 30 dX6_looksBehind_9 (by decide) (fun c9 => ?_) (fun c9 => ?_)
    · have h := h.1 c9
      refine g_mask [false] rfl ?_
      exact k_X6_looksBehind_30 C σ h
    · have h := h.2 c9
      refine g_iload_n C dX6_looksBehind_12 rfl ?_
      refine g_bipush C dX6_looksBehind_13 kb_71 ?_
      refine g_icmp_eq C 30 dX6_looksBehind_15 (by decide) (fun c15 => ?_) (fun c15 => ?_)
      · have h := h.1 c15
        refine g_mask [false] rfl ?_
        exact k_X6_looksBehind_30 C σ h
      · have h := h.2 c15
        refine g_iload_n C dX6_looksBehind_18 rfl ?_
        refine g_bipush C dX6_looksBehind_19 kb_70 ?_
        refine g_icmp_eq C 30 dX6_looksBehind_21 (by decide) (fun c21 => ?_) (fun c21 => ?_)
        · have h := h.1 c21
          refine g_mask [false] rfl ?_
          exact k_X6_looksBehind_30 C σ h
        · have h := h.2 c21
          refine g_iload_n C dX6_looksBehind_24 rfl ?_
          refine g_bipush C dX6_looksBehind_25 kb_85 ?_
          refine g_icmp_ne C 34 dX6_looksBehind_27 (by decide) (fun c27 => ?_) (fun c27 => ?_)
          · have h := h.1 c27
            refine g_iconst C dX6_looksBehind_34 kc_0 ?_
            exact g_zret C (narrow_bl bl_0) dX6_looksBehind_35 h
          · have h := h.2 c27
            refine g_mask [false] rfl ?_
            exact k_X6_looksBehind_30 C σ h
def rm_X6_looksAhead : Room := { frames := 0, cells := 0, slots := 0, locals := 0 }
def wp_X6_looksAhead_24 (Q : Int32 → Sg → Prop) (σ : Sg) : Prop :=
  Q (nI 1) σ
set_option maxHeartbeats 4000000 in
set_option maxRecDepth 100000 in
theorem k_X6_looksAhead_24 {Q : Int32 → Sg → Prop} (C : Cx p s m args meth c D cy ad b0 yX6_looksAhead cX6_looksAhead 1 (some .boolean)) (σ : Sg) (h : wp_X6_looksAhead_24 Q σ) : gI p l e rm_X6_looksAhead s m args below meth c D cy ad b0 Q 1 24 σ [none] [] := by
  refine g_iconst C dX6_looksAhead_24 kc_1 ?_
  refine g_goto C 29 dX6_looksAhead_25 (by decide) ?_
  exact g_zret C (narrow_bl bl_1) dX6_looksAhead_29 h
def wp_X6_looksAhead (a0 : Int32) (σ : Sg) (Q : Int32 → Sg → Prop) : Prop :=
  ((a0 = (nI 89) → wp_X6_looksAhead_24 Q σ) ∧ (¬ a0 = (nI 89) → ((a0 = (nI 72) → wp_X6_looksAhead_24 Q σ) ∧ (¬ a0 = (nI 72) → ((a0 = (nI 79) → wp_X6_looksAhead_24 Q σ) ∧ (¬ a0 = (nI 79) → ((¬ a0 = (nI 83) → Q (nI 0) σ) ∧ (a0 = (nI 83) → wp_X6_looksAhead_24 Q σ))))))))
set_option maxHeartbeats 4000000 in
set_option maxRecDepth 100000 in
theorem c_X6_looksAhead (l : Launch) (D : va_G) (cy : Nat → ClassId) (ad : Nat → Nat) (b0 : Nat) (hA : AdOk ad b0) (a0 : Int32) : Cti l D cy ad b0 yX6_looksAhead cX6_looksAhead 1 (some .boolean) rm_X6_looksAhead [.int a0] (fun σ Q => wp_X6_looksAhead a0 σ Q) := by
  intro σ Q h
  refine g_enter hA rfl (Nat.le_of_ble_eq_true rfl) [some (.int a0)] rfl ?_
  intro p e s m args below meth c C
  refine g_iload_n C dX6_looksAhead_0 rfl ?_
  refine g_bipush C dX6_looksAhead_1 kb_89 ?_
  refine g_icmp_eq C 24 dX6_looksAhead_3 (by decide) (fun c3 => ?_) (fun c3 => ?_)
  · have h := h.1 c3
    refine g_mask [false] rfl ?_
    exact k_X6_looksAhead_24 C σ h
  · have h := h.2 c3
    refine g_iload_n C dX6_looksAhead_6 rfl ?_
    refine g_bipush C dX6_looksAhead_7 kb_72 ?_
    refine g_icmp_eq C 24 dX6_looksAhead_9 (by decide) (fun c9 => ?_) (fun c9 => ?_)
    · have h := h.1 c9
      refine g_mask [false] rfl ?_
      exact k_X6_looksAhead_24 C σ h
    · have h := h.2 c9
      refine g_iload_n C dX6_looksAhead_12 rfl ?_
      refine g_bipush C dX6_looksAhead_13 kb_79 ?_
      refine g_icmp_eq C 24 dX6_looksAhead_15 (by decide) (fun c15 => ?_) (fun c15 => ?_)
      · have h := h.1 c15
        refine g_mask [false] rfl ?_
        exact k_X6_looksAhead_24 C σ h
      · have h := h.2 c15
        refine g_iload_n C dX6_looksAhead_18 rfl ?_
        refine g_bipush C dX6_looksAhead_19 kb_83 ?_
        refine g_icmp_ne C 28 dX6_looksAhead_21 (by decide) (fun c21 => ?_) (fun c21 => ?_)
        · have h := h.1 c21
          refine g_iconst C dX6_looksAhead_28 kc_0 ?_
          exact g_zret C (narrow_bl bl_0) dX6_looksAhead_29 h
        · have h := h.2 c21
          refine g_mask [false] rfl ?_
          exact k_X6_looksAhead_24 C σ h
def rm_X6_clear : Room := { frames := 0, cells := 0, slots := 0, locals := 0 }
def wp_X6_clear (σ : Sg) (Q : Sg → Prop) : Prop :=
  ∀ σ1 : Sg, σ1 = stF σ 2 6 (nI 0) → (Q σ1)
set_option maxHeartbeats 4000000 in
set_option maxRecDepth 100000 in
theorem c_X6_clear (l : Launch) (D : va_G) (cy : Nat → ClassId) (ad : Nat → Nat) (b0 : Nat) (hA : AdOk ad b0) : Ctv l D cy ad b0 yX6_clear cX6_clear 1 none rm_X6_clear [.ref (ad 2)] (fun σ Q => wp_X6_clear σ Q) := by
  intro σ Q h
  refine g_enter hA rfl (Nat.le_of_ble_eq_true rfl) [some (.ref (ad 2))] rfl ?_
  intro p e s m args below meth c C
  refine g_aload_n C dX6_clear_0 rfl ?_
  refine g_iconst C dX6_clear_1 kc_0 ?_
  refine fput_2_6_X6_31 C rfl dX6_clear_2 (fun σ1 e_σ1 => ?_)
  have h := h σ1 e_σ1
  exact g_vret C dX6_clear_5 h
def rm_X6_add : Room := { frames := 1, cells := 0, slots := 0, locals := 22 }
def wp_X6_add (a0 : Int32) (a1 : Int32) (a2 : Int32) (a3 : Int32) (σ : Sg) (Q : Int32 → Sg → Prop) : Prop :=
  (((gF σ 2 6) < (nI 9) → wp_X8_put 13 (gF σ 2 6) a0 σ (fun σ1 => wp_X8_put 14 (gF σ1 2 6) a1 σ1 (fun σ2 => wp_X8_put 15 (gF σ2 2 6) a2 σ2 (fun σ3 => wp_X8_put 16 (gF σ3 2 6) a3 σ3 (fun σ4 => ∀ σ5 : Sg, σ5 = stF σ4 2 6 ((gF σ4 2 6) + (nI 1)) → (Q ((gF σ5 2 6) - (nI 1)) σ5)))))) ∧ (¬ (gF σ 2 6) < (nI 9) → Q (-9 : Int32) σ))
set_option maxHeartbeats 4000000 in
set_option maxRecDepth 100000 in
theorem c_X6_add (l : Launch) (D : va_G) (cy : Nat → ClassId) (ad : Nat → Nat) (b0 : Nat) (hA : AdOk ad b0) (a0 : Int32) (a1 : Int32) (a2 : Int32) (a3 : Int32) : Cti l D cy ad b0 yX6_add cX6_add 5 (some .int) rm_X6_add [.ref (ad 2), .int a0, .int a1, .int a2, .int a3] (fun σ Q => wp_X6_add a0 a1 a2 a3 σ Q) := by
  intro σ Q h
  refine g_enter hA rfl (Nat.le_of_ble_eq_true rfl) [some (.ref (ad 2)), some (.int a0), some (.int a1), some (.int a2), some (.int a3)] rfl ?_
  intro p e s m args below meth c C
  refine g_aload_n C dX6_add_0 rfl ?_
  refine fget_2_6_X6_31 C rfl dX6_add_1 ?_
  refine g_bipush C dX6_add_4 kb_9 ?_
  refine g_icmp_lt C 12 dX6_add_6 (by decide) (fun c6 => ?_) (fun c6 => ?_)
  · have h := h.1 c6
    refine g_aload_n C dX6_add_12 rfl ?_
    refine fget_2_0_X6_9 C rfl dX6_add_13 ?_
    refine g_aload_n C dX6_add_16 rfl ?_
    refine fget_2_6_X6_31 C rfl dX6_add_17 ?_
    refine g_iload_n C dX6_add_20 rfl ?_
    refine g_callNv C [.ref (ad 13), .int (gF σ 2 6), .int a0] (c_X8_put l D cy ad b0 C.A 13 (gF σ 2 6) a0 (by decide)) cal_X8_put nw_1 rfl ⟨Nat.le_of_ble_eq_true rfl, Nat.le_of_ble_eq_true rfl⟩ ⟨rfl, rfl⟩ ⟨Nat.zero_le _, Nat.zero_le _⟩ (Nat.le_of_ble_eq_true rfl) rfl dX6_add_21 h (fun σ1 h => ?_)
    refine g_aload_n C dX6_add_24 rfl ?_
    refine fget_2_1_X6_15 C rfl dX6_add_25 ?_
    refine g_aload_n C dX6_add_28 rfl ?_
    refine fget_2_6_X6_31 C rfl dX6_add_29 ?_
    refine g_iload_n C dX6_add_32 rfl ?_
    refine g_callNv C [.ref (ad 14), .int (gF σ1 2 6), .int a1] (c_X8_put l D cy ad b0 C.A 14 (gF σ1 2 6) a1 (by decide)) cal_X8_put nw_1 rfl ⟨Nat.le_of_ble_eq_true rfl, Nat.le_of_ble_eq_true rfl⟩ ⟨rfl, rfl⟩ ⟨Nat.zero_le _, Nat.zero_le _⟩ (Nat.le_of_ble_eq_true rfl) rfl dX6_add_33 h (fun σ2 h => ?_)
    refine g_aload_n C dX6_add_36 rfl ?_
    refine fget_2_2_X6_18 C rfl dX6_add_37 ?_
    refine g_aload_n C dX6_add_40 rfl ?_
    refine fget_2_6_X6_31 C rfl dX6_add_41 ?_
    refine g_iload_n C dX6_add_44 rfl ?_
    refine g_callNv C [.ref (ad 15), .int (gF σ2 2 6), .int a2] (c_X8_put l D cy ad b0 C.A 15 (gF σ2 2 6) a2 (by decide)) cal_X8_put nw_1 rfl ⟨Nat.le_of_ble_eq_true rfl, Nat.le_of_ble_eq_true rfl⟩ ⟨rfl, rfl⟩ ⟨Nat.zero_le _, Nat.zero_le _⟩ (Nat.le_of_ble_eq_true rfl) rfl dX6_add_45 h (fun σ3 h => ?_)
    refine g_aload_n C dX6_add_48 rfl ?_
    refine fget_2_3_X6_21 C rfl dX6_add_49 ?_
    refine g_aload_n C dX6_add_52 rfl ?_
    refine fget_2_6_X6_31 C rfl dX6_add_53 ?_
    refine g_iload C dX6_add_56 rfl ?_
    refine g_callNv C [.ref (ad 16), .int (gF σ3 2 6), .int a3] (c_X8_put l D cy ad b0 C.A 16 (gF σ3 2 6) a3 (by decide)) cal_X8_put nw_1 rfl ⟨Nat.le_of_ble_eq_true rfl, Nat.le_of_ble_eq_true rfl⟩ ⟨rfl, rfl⟩ ⟨Nat.zero_le _, Nat.zero_le _⟩ (Nat.le_of_ble_eq_true rfl) rfl dX6_add_58 h (fun σ4 h => ?_)
    refine g_aload_n C dX6_add_61 rfl ?_
    refine g_dup C dX6_add_62 rfl ?_
    refine fget_2_6_X6_31 C rfl dX6_add_63 ?_
    refine g_iconst C dX6_add_66 kc_1 ?_
    refine g_iadd C dX6_add_67 ?_
    refine fput_2_6_X6_31 C rfl dX6_add_68 (fun σ5 e_σ5 => ?_)
    have h := h σ5 e_σ5
    refine g_aload_n C dX6_add_71 rfl ?_
    refine fget_2_6_X6_31 C rfl dX6_add_72 ?_
    refine g_iconst C dX6_add_75 kc_1 ?_
    refine g_isub C dX6_add_76 ?_
    exact g_iret C dX6_add_77 h
  · have h := h.2 c6
    refine g_bipush C dX6_add_9 kb_m9 ?_
    exact g_iret C dX6_add_11 h
def rm_X6_firstPastFault : Room := { frames := 1, cells := 0, slots := 0, locals := 22 }
def wp_X6_firstPastFault_141 (v1 : Int32) (v2 : Int32) (K35 : Int32 → Int32 → Sg → Prop) (Q : Int32 → Sg → Prop) (σ : Sg) : Prop :=
  ∀ x141 : Int32, x141 = v2 + (-1 : Int32) → (K35 v1 x141 σ)
set_option maxHeartbeats 4000000 in
set_option maxRecDepth 100000 in
theorem k_X6_firstPastFault_141 {Q : Int32 → Sg → Prop} (C : Cx p s m args meth c D cy ad b0 yX6_firstPastFault cX6_firstPastFault 5 (some .int)) (v1 : Int32) (v2 : Int32) (K35 : Int32 → Int32 → Sg → Prop) (hK35 : ∀ (z1 : Int32) (z2 : Int32) (σ : Sg), K35 z1 z2 σ → gI p l e rm_X6_firstPastFault s m args below meth c D cy ad b0 Q 5 35 σ [some (.ref (ad 2)), some (.int z1), some (.int z2), none, none] []) (σ : Sg) (h : wp_X6_firstPastFault_141 v1 v2 K35 Q σ) : gI p l e rm_X6_firstPastFault s m args below meth c D cy ad b0 Q 5 141 σ [some (.ref (ad 2)), some (.int v1), some (.int v2), none, none] [] := by
  obtain ⟨x141, e_x141⟩ : ∃ v : Int32, v = v2 + (-1 : Int32) := ⟨_, rfl⟩
  have h := h x141 e_x141
  refine g_iinc C [some (.ref (ad 2)), some (.int v1), some (.int x141), none, none] dX6_firstPastFault_141 rfl e_x141.symm (by decide) rfl ?_
  refine g_goto C 35 dX6_firstPastFault_144 (by decide) ?_
  exact hK35 v1 x141 σ h
def wp_X6_firstPastFault_138 (v2 : Int32) (v4 : Int32) (K35 : Int32 → Int32 → Sg → Prop) (Q : Int32 → Sg → Prop) (σ : Sg) : Prop :=
  wp_X6_firstPastFault_141 v4 v2 K35 Q σ
set_option maxHeartbeats 4000000 in
set_option maxRecDepth 100000 in
theorem k_X6_firstPastFault_138 {Q : Int32 → Sg → Prop} (C : Cx p s m args meth c D cy ad b0 yX6_firstPastFault cX6_firstPastFault 5 (some .int)) (v2 : Int32) (v4 : Int32) (K35 : Int32 → Int32 → Sg → Prop) (hK35 : ∀ (z1 : Int32) (z2 : Int32) (σ : Sg), K35 z1 z2 σ → gI p l e rm_X6_firstPastFault s m args below meth c D cy ad b0 Q 5 35 σ [some (.ref (ad 2)), some (.int z1), some (.int z2), none, none] []) (σ : Sg) (h : wp_X6_firstPastFault_138 v2 v4 K35 Q σ) : gI p l e rm_X6_firstPastFault s m args below meth c D cy ad b0 Q 5 138 σ [some (.ref (ad 2)), none, some (.int v2), none, some (.int v4)] [] := by
  refine g_iload C dX6_firstPastFault_138 rfl ?_
  refine g_istore_n C [some (.ref (ad 2)), some (.int v4), some (.int v2), none, some (.int v4)] dX6_firstPastFault_140 (by decide) rfl ?_
  refine g_mask [true, true, true, false, false] rfl ?_
  exact k_X6_firstPastFault_141 C v4 v2 K35 hK35 σ h
def wp_X6_firstPastFault_98 (v1 : Int32) (v2 : Int32) (v3 : Int32) (K35 : Int32 → Int32 → Sg → Prop) (Q : Int32 → Sg → Prop) (σ : Sg) : Prop :=
  wp_X8_pick 16 v2 σ (fun r1 σ2 => wp_X8_isSet 18 v2 σ2 (fun r3 σ4 => ((r3 = (nI 0) → wp_X6_firstPastFault_141 v1 v2 K35 Q σ4) ∧ (¬ r3 = (nI 0) → wp_X6_looksBehind v3 σ4 (fun r5 σ6 => ((r5 = (nI 0) → wp_X6_firstPastFault_141 v1 v2 K35 Q σ6) ∧ (¬ r5 = (nI 0) → ((v1 = (-9 : Int32) → wp_X6_firstPastFault_138 v2 r1 K35 Q σ6) ∧ (¬ v1 = (-9 : Int32) → ((v1 ≤ r1 → wp_X6_firstPastFault_141 v1 v2 K35 Q σ6) ∧ (¬ v1 ≤ r1 → wp_X6_firstPastFault_138 v2 r1 K35 Q σ6)))))))))))
set_option maxHeartbeats 4000000 in
set_option maxRecDepth 100000 in
theorem k_X6_firstPastFault_98 {Q : Int32 → Sg → Prop} (C : Cx p s m args meth c D cy ad b0 yX6_firstPastFault cX6_firstPastFault 5 (some .int)) (v1 : Int32) (v2 : Int32) (v3 : Int32) (K35 : Int32 → Int32 → Sg → Prop) (hK35 : ∀ (z1 : Int32) (z2 : Int32) (σ : Sg), K35 z1 z2 σ → gI p l e rm_X6_firstPastFault s m args below meth c D cy ad b0 Q 5 35 σ [some (.ref (ad 2)), some (.int z1), some (.int z2), none, none] []) (σ : Sg) (h : wp_X6_firstPastFault_98 v1 v2 v3 K35 Q σ) : gI p l e rm_X6_firstPastFault s m args below meth c D cy ad b0 Q 5 98 σ [some (.ref (ad 2)), some (.int v1), some (.int v2), some (.int v3), none] [] := by
  refine g_aload_n C dX6_firstPastFault_98 rfl ?_
  refine fget_2_3_X6_21 C rfl dX6_firstPastFault_99 ?_
  refine g_iload_n C dX6_firstPastFault_102 rfl ?_
  refine g_callNi C [.ref (ad 16), .int v2] (c_X8_pick l D cy ad b0 C.A 16 v2 (by decide)) cal_X8_pick nw_3 rfl ⟨Nat.le_of_ble_eq_true rfl, Nat.le_of_ble_eq_true rfl⟩ ⟨rfl, rfl⟩ ⟨Nat.zero_le _, Nat.zero_le _⟩ (Nat.le_of_ble_eq_true rfl) rfl dX6_firstPastFault_103 h (fun r1 σ2 h => ?_)
  refine g_istore C [some (.ref (ad 2)), some (.int v1), some (.int v2), some (.int v3), some (.int r1)] dX6_firstPastFault_106 (by decide) rfl ?_
  refine g_aload_n C dX6_firstPastFault_108 rfl ?_
  refine fget_2_5_X6_27 C rfl dX6_firstPastFault_109 ?_
  refine g_iload_n C dX6_firstPastFault_112 rfl ?_
  refine g_callNi C [.ref (ad 18), .int v2] (c_X8_isSet l D cy ad b0 C.A 18 v2 (by decide)) cal_X8_isSet nw_4 rfl ⟨Nat.le_of_ble_eq_true rfl, Nat.le_of_ble_eq_true rfl⟩ ⟨rfl, rfl⟩ ⟨Nat.zero_le _, Nat.zero_le _⟩ (Nat.le_of_ble_eq_true rfl) rfl dX6_firstPastFault_113 h (fun r3 σ4 h => ?_)
  refine g_if_eq C 141 dX6_firstPastFault_116 (by decide) (fun c116 => ?_) (fun c116 => ?_)
  · have h := h.1 c116
    refine g_mask [true, true, true, false, false] rfl ?_
    exact k_X6_firstPastFault_141 C v1 v2 K35 hK35 σ4 h
  · have h := h.2 c116
    refine g_iload_n C dX6_firstPastFault_119 rfl ?_
    refine g_callSi C [.int v3] (c_X6_looksBehind l D cy ad b0 C.A v3) cal_X6_looksBehind mw_287 rfl ⟨Nat.le_of_ble_eq_true rfl, Nat.le_of_ble_eq_true rfl⟩ ⟨rfl, rfl⟩ ⟨Nat.zero_le _, Nat.zero_le _⟩ (Nat.le_of_ble_eq_true rfl) rfl dX6_firstPastFault_120 h (fun r5 σ6 h => ?_)
    refine g_if_eq C 141 dX6_firstPastFault_123 (by decide) (fun c123 => ?_) (fun c123 => ?_)
    · have h := h.1 c123
      refine g_mask [true, true, true, false, false] rfl ?_
      exact k_X6_firstPastFault_141 C v1 v2 K35 hK35 σ6 h
    · have h := h.2 c123
      refine g_iload_n C dX6_firstPastFault_126 rfl ?_
      refine g_bipush C dX6_firstPastFault_127 kb_m9 ?_
      refine g_icmp_eq C 138 dX6_firstPastFault_129 (by decide) (fun c129 => ?_) (fun c129 => ?_)
      · have h := h.1 c129
        refine g_mask [true, false, true, false, true] rfl ?_
        exact k_X6_firstPastFault_138 C v2 r1 K35 hK35 σ6 h
      · have h := h.2 c129
        refine g_iload C dX6_firstPastFault_132 rfl ?_
        refine g_iload_n C dX6_firstPastFault_134 rfl ?_
        refine g_icmp_ge C 141 dX6_firstPastFault_135 (by decide) (fun c135 => ?_) (fun c135 => ?_)
        · have h := h.1 c135
          refine g_mask [true, true, true, false, false] rfl ?_
          exact k_X6_firstPastFault_141 C v1 v2 K35 hK35 σ6 h
        · have h := h.2 c135
          refine g_mask [true, false, true, false, true] rfl ?_
          exact k_X6_firstPastFault_138 C v2 r1 K35 hK35 σ6 h
def wp_X6_firstPastFault_66 (v1 : Int32) (v2 : Int32) (v3 : Int32) (K35 : Int32 → Int32 → Sg → Prop) (Q : Int32 → Sg → Prop) (σ : Sg) : Prop :=
  wp_X8_pick 14 v2 σ (fun r1 σ2 => wp_X8_set 18 r1 (nI 1) σ2 (fun σ3 => wp_X8_pick 15 v2 σ3 (fun r4 σ5 => wp_X8_set 18 r4 (nI 1) σ5 (fun σ6 => wp_X6_firstPastFault_98 v1 v2 v3 K35 Q σ6))))
set_option maxHeartbeats 4000000 in
set_option maxRecDepth 100000 in
theorem k_X6_firstPastFault_66 {Q : Int32 → Sg → Prop} (C : Cx p s m args meth c D cy ad b0 yX6_firstPastFault cX6_firstPastFault 5 (some .int)) (v1 : Int32) (v2 : Int32) (v3 : Int32) (K35 : Int32 → Int32 → Sg → Prop) (hK35 : ∀ (z1 : Int32) (z2 : Int32) (σ : Sg), K35 z1 z2 σ → gI p l e rm_X6_firstPastFault s m args below meth c D cy ad b0 Q 5 35 σ [some (.ref (ad 2)), some (.int z1), some (.int z2), none, none] []) (σ : Sg) (h : wp_X6_firstPastFault_66 v1 v2 v3 K35 Q σ) : gI p l e rm_X6_firstPastFault s m args below meth c D cy ad b0 Q 5 66 σ [some (.ref (ad 2)), some (.int v1), some (.int v2), some (.int v3), none] [] := by
  refine g_aload_n C dX6_firstPastFault_66 rfl ?_
  refine fget_2_5_X6_27 C rfl dX6_firstPastFault_67 ?_
  refine g_aload_n C dX6_firstPastFault_70 rfl ?_
  refine fget_2_1_X6_15 C rfl dX6_firstPastFault_71 ?_
  refine g_iload_n C dX6_firstPastFault_74 rfl ?_
  refine g_callNi C [.ref (ad 14), .int v2] (c_X8_pick l D cy ad b0 C.A 14 v2 (by decide)) cal_X8_pick nw_3 rfl ⟨Nat.le_of_ble_eq_true rfl, Nat.le_of_ble_eq_true rfl⟩ ⟨rfl, rfl⟩ ⟨Nat.zero_le _, Nat.zero_le _⟩ (Nat.le_of_ble_eq_true rfl) rfl dX6_firstPastFault_75 h (fun r1 σ2 h => ?_)
  refine g_iconst C dX6_firstPastFault_78 kc_1 ?_
  refine g_callNv C [.ref (ad 18), .int r1, .int (nI 1)] (c_X8_set l D cy ad b0 C.A 18 r1 (nI 1) (by decide)) cal_X8_set nw_2 rfl ⟨Nat.le_of_ble_eq_true rfl, Nat.le_of_ble_eq_true rfl⟩ ⟨rfl, rfl⟩ ⟨Nat.zero_le _, Nat.zero_le _⟩ (Nat.le_of_ble_eq_true rfl) rfl dX6_firstPastFault_79 h (fun σ3 h => ?_)
  refine g_aload_n C dX6_firstPastFault_82 rfl ?_
  refine fget_2_5_X6_27 C rfl dX6_firstPastFault_83 ?_
  refine g_aload_n C dX6_firstPastFault_86 rfl ?_
  refine fget_2_2_X6_18 C rfl dX6_firstPastFault_87 ?_
  refine g_iload_n C dX6_firstPastFault_90 rfl ?_
  refine g_callNi C [.ref (ad 15), .int v2] (c_X8_pick l D cy ad b0 C.A 15 v2 (by decide)) cal_X8_pick nw_3 rfl ⟨Nat.le_of_ble_eq_true rfl, Nat.le_of_ble_eq_true rfl⟩ ⟨rfl, rfl⟩ ⟨Nat.zero_le _, Nat.zero_le _⟩ (Nat.le_of_ble_eq_true rfl) rfl dX6_firstPastFault_91 h (fun r4 σ5 h => ?_)
  refine g_iconst C dX6_firstPastFault_94 kc_1 ?_
  refine g_callNv C [.ref (ad 18), .int r4, .int (nI 1)] (c_X8_set l D cy ad b0 C.A 18 r4 (nI 1) (by decide)) cal_X8_set nw_2 rfl ⟨Nat.le_of_ble_eq_true rfl, Nat.le_of_ble_eq_true rfl⟩ ⟨rfl, rfl⟩ ⟨Nat.zero_le _, Nat.zero_le _⟩ (Nat.le_of_ble_eq_true rfl) rfl dX6_firstPastFault_95 h (fun σ6 h => ?_)
  exact k_X6_firstPastFault_98 C v1 v2 v3 K35 hK35 σ6 h
def wb_X6_firstPastFault_35 (v1 : Int32) (v2 : Int32) (K35 : Int32 → Int32 → Sg → Prop) (Q : Int32 → Sg → Prop) (σ : Sg) : Prop :=
  ((v2 < (nI 0) → Q v1 σ) ∧ (¬ v2 < (nI 0) → wp_X8_pick 13 v2 σ (fun r1 σ2 => wp_X8_isSet 18 v2 σ2 (fun r3 σ4 => ((¬ r3 = (nI 0) → wp_X6_firstPastFault_66 v1 v2 r1 K35 Q σ4) ∧ (r3 = (nI 0) → wp_X6_looksAhead r1 σ4 (fun r5 σ6 => ((r5 = (nI 0) → wp_X6_firstPastFault_98 v1 v2 r1 K35 Q σ6) ∧ (¬ r5 = (nI 0) → wp_X6_firstPastFault_66 v1 v2 r1 K35 Q σ6)))))))))
set_option maxHeartbeats 4000000 in
set_option maxRecDepth 100000 in
theorem kb_X6_firstPastFault_35 {Q : Int32 → Sg → Prop} (C : Cx p s m args meth c D cy ad b0 yX6_firstPastFault cX6_firstPastFault 5 (some .int)) (v1 : Int32) (v2 : Int32) (K35 : Int32 → Int32 → Sg → Prop) (hK35 : ∀ (z1 : Int32) (z2 : Int32) (σ : Sg), K35 z1 z2 σ → gI p l e rm_X6_firstPastFault s m args below meth c D cy ad b0 Q 5 35 σ [some (.ref (ad 2)), some (.int z1), some (.int z2), none, none] []) (σ : Sg) (h : wb_X6_firstPastFault_35 v1 v2 K35 Q σ) : gI p l e rm_X6_firstPastFault s m args below meth c D cy ad b0 Q 5 35 σ [some (.ref (ad 2)), some (.int v1), some (.int v2), none, none] [] := by
  refine g_iload_n C dX6_firstPastFault_35 rfl ?_
  refine g_if_lt C 147 dX6_firstPastFault_36 (by decide) (fun c36 => ?_) (fun c36 => ?_)
  · have h := h.1 c36
    refine g_iload_n C dX6_firstPastFault_147 rfl ?_
    exact g_iret C dX6_firstPastFault_148 h
  · have h := h.2 c36
    refine g_aload_n C dX6_firstPastFault_39 rfl ?_
    refine fget_2_0_X6_9 C rfl dX6_firstPastFault_40 ?_
    refine g_iload_n C dX6_firstPastFault_43 rfl ?_
    refine g_callNi C [.ref (ad 13), .int v2] (c_X8_pick l D cy ad b0 C.A 13 v2 (by decide)) cal_X8_pick nw_3 rfl ⟨Nat.le_of_ble_eq_true rfl, Nat.le_of_ble_eq_true rfl⟩ ⟨rfl, rfl⟩ ⟨Nat.zero_le _, Nat.zero_le _⟩ (Nat.le_of_ble_eq_true rfl) rfl dX6_firstPastFault_44 h (fun r1 σ2 h => ?_)
    refine g_istore_n C [some (.ref (ad 2)), some (.int v1), some (.int v2), some (.int r1), none] dX6_firstPastFault_47 (by decide) rfl ?_
    refine g_aload_n C dX6_firstPastFault_48 rfl ?_
    refine fget_2_5_X6_27 C rfl dX6_firstPastFault_49 ?_
    refine g_iload_n C dX6_firstPastFault_52 rfl ?_
    refine g_callNi C [.ref (ad 18), .int v2] (c_X8_isSet l D cy ad b0 C.A 18 v2 (by decide)) cal_X8_isSet nw_4 rfl ⟨Nat.le_of_ble_eq_true rfl, Nat.le_of_ble_eq_true rfl⟩ ⟨rfl, rfl⟩ ⟨Nat.zero_le _, Nat.zero_le _⟩ (Nat.le_of_ble_eq_true rfl) rfl dX6_firstPastFault_53 h (fun r3 σ4 h => ?_)
    refine g_if_ne C 66 dX6_firstPastFault_56 (by decide) (fun c56 => ?_) (fun c56 => ?_)
    · have h := h.1 c56
      exact k_X6_firstPastFault_66 C v1 v2 r1 K35 hK35 σ4 h
    · have h := h.2 c56
      refine g_iload_n C dX6_firstPastFault_59 rfl ?_
      refine g_callSi C [.int r1] (c_X6_looksAhead l D cy ad b0 C.A r1) cal_X6_looksAhead mw_286 rfl ⟨Nat.le_of_ble_eq_true rfl, Nat.le_of_ble_eq_true rfl⟩ ⟨rfl, rfl⟩ ⟨Nat.zero_le _, Nat.zero_le _⟩ (Nat.le_of_ble_eq_true rfl) rfl dX6_firstPastFault_60 h (fun r5 σ6 h => ?_)
      refine g_if_eq C 98 dX6_firstPastFault_63 (by decide) (fun c63 => ?_) (fun c63 => ?_)
      · have h := h.1 c63
        exact k_X6_firstPastFault_98 C v1 v2 r1 K35 hK35 σ6 h
      · have h := h.2 c63
        exact k_X6_firstPastFault_66 C v1 v2 r1 K35 hK35 σ6 h
def wl_X6_firstPastFault_35 (Q : Int32 → Sg → Prop) : Nat → Int32 → Int32 → Sg → Prop
  | 0, _, _, _ => False
  | n + 1, v1, v2, σ => wb_X6_firstPastFault_35 v1 v2 (wl_X6_firstPastFault_35 Q n) Q σ
set_option maxHeartbeats 4000000 in
set_option maxRecDepth 100000 in
theorem kl_X6_firstPastFault_35 {Q : Int32 → Sg → Prop} (C : Cx p s m args meth c D cy ad b0 yX6_firstPastFault cX6_firstPastFault 5 (some .int)) : ∀ (n : Nat) (v1 : Int32) (v2 : Int32) (σ : Sg), wl_X6_firstPastFault_35 Q n v1 v2 σ → gI p l e rm_X6_firstPastFault s m args below meth c D cy ad b0 Q 5 35 σ [some (.ref (ad 2)), some (.int v1), some (.int v2), none, none] [] := by
  intro n
  induction n with
  | zero => intro v1 v2 σ h; exact False.elim h
  | succ n ih =>
    intro v1 v2 σ h
    exact kb_X6_firstPastFault_35 C v1 v2 (wl_X6_firstPastFault_35 Q n) (fun z1 z2 σ h => ih z1 z2 σ h) σ h
def wp_X6_firstPastFault_28 (v1 : Int32) (Q : Int32 → Sg → Prop) (σ : Sg) : Prop :=
  ∀ x34 : Int32, x34 = ((gF σ 2 6) - (nI 1)) → (∃ n, wl_X6_firstPastFault_35 Q n v1 x34 σ)
set_option maxHeartbeats 4000000 in
set_option maxRecDepth 100000 in
theorem k_X6_firstPastFault_28 {Q : Int32 → Sg → Prop} (C : Cx p s m args meth c D cy ad b0 yX6_firstPastFault cX6_firstPastFault 5 (some .int)) (v1 : Int32) (σ : Sg) (h : wp_X6_firstPastFault_28 v1 Q σ) : gI p l e rm_X6_firstPastFault s m args below meth c D cy ad b0 Q 5 28 σ [some (.ref (ad 2)), some (.int v1), none, none, none] [] := by
  refine g_aload_n C dX6_firstPastFault_28 rfl ?_
  refine fget_2_6_X6_31 C rfl dX6_firstPastFault_29 ?_
  refine g_iconst C dX6_firstPastFault_32 kc_1 ?_
  refine g_isub C dX6_firstPastFault_33 ?_
  refine g_topi (fun x34 e_x34 => ?_)
  have h := h x34 e_x34
  refine g_istore_n C [some (.ref (ad 2)), some (.int v1), some (.int x34), none, none] dX6_firstPastFault_34 (by decide) rfl ?_
  obtain ⟨n, h⟩ := h
  exact kl_X6_firstPastFault_35 C n v1 x34 σ h
def wb_X6_firstPastFault_5 (v1 : Int32) (v2 : Int32) (K5 : Int32 → Sg → Prop) (K28 : Sg → Prop) (Q : Int32 → Sg → Prop) (σ : Sg) : Prop :=
  (((gF σ 2 6) ≤ v2 → K28 σ) ∧ (¬ (gF σ 2 6) ≤ v2 → wp_X8_set 18 v2 (nI 0) σ (fun σ1 => ∀ x22 : Int32, x22 = v2 + (nI 1) → (K5 x22 σ1))))
set_option maxHeartbeats 4000000 in
set_option maxRecDepth 100000 in
theorem kb_X6_firstPastFault_5 {Q : Int32 → Sg → Prop} (C : Cx p s m args meth c D cy ad b0 yX6_firstPastFault cX6_firstPastFault 5 (some .int)) (v1 : Int32) (v2 : Int32) (K5 : Int32 → Sg → Prop) (K28 : Sg → Prop) (hK5 : ∀ (z2 : Int32) (σ : Sg), K5 z2 σ → gI p l e rm_X6_firstPastFault s m args below meth c D cy ad b0 Q 5 5 σ [some (.ref (ad 2)), some (.int v1), some (.int z2), none, none] []) (hK28 : ∀  (σ : Sg), K28 σ → gI p l e rm_X6_firstPastFault s m args below meth c D cy ad b0 Q 5 28 σ [some (.ref (ad 2)), some (.int v1), none, none, none] []) (σ : Sg) (h : wb_X6_firstPastFault_5 v1 v2 K5 K28 Q σ) : gI p l e rm_X6_firstPastFault s m args below meth c D cy ad b0 Q 5 5 σ [some (.ref (ad 2)), some (.int v1), some (.int v2), none, none] [] := by
  refine g_iload_n C dX6_firstPastFault_5 rfl ?_
  refine g_aload_n C dX6_firstPastFault_6 rfl ?_
  refine fget_2_6_X6_31 C rfl dX6_firstPastFault_7 ?_
  refine g_icmp_ge C 28 dX6_firstPastFault_10 (by decide) (fun c10 => ?_) (fun c10 => ?_)
  · have h := h.1 c10
    refine g_mask [true, true, false, false, false] rfl ?_
    exact hK28 σ h
  · have h := h.2 c10
    refine g_aload_n C dX6_firstPastFault_13 rfl ?_
    refine fget_2_5_X6_27 C rfl dX6_firstPastFault_14 ?_
    refine g_iload_n C dX6_firstPastFault_17 rfl ?_
    refine g_iconst C dX6_firstPastFault_18 kc_0 ?_
    refine g_callNv C [.ref (ad 18), .int v2, .int (nI 0)] (c_X8_set l D cy ad b0 C.A 18 v2 (nI 0) (by decide)) cal_X8_set nw_2 rfl ⟨Nat.le_of_ble_eq_true rfl, Nat.le_of_ble_eq_true rfl⟩ ⟨rfl, rfl⟩ ⟨Nat.zero_le _, Nat.zero_le _⟩ (Nat.le_of_ble_eq_true rfl) rfl dX6_firstPastFault_19 h (fun σ1 h => ?_)
    obtain ⟨x22, e_x22⟩ : ∃ v : Int32, v = v2 + (nI 1) := ⟨_, rfl⟩
    have h := h x22 e_x22
    refine g_iinc C [some (.ref (ad 2)), some (.int v1), some (.int x22), none, none] dX6_firstPastFault_22 rfl e_x22.symm (by decide) rfl ?_
    refine g_goto C 5 dX6_firstPastFault_25 (by decide) ?_
    exact hK5 x22 σ1 h
def wl_X6_firstPastFault_5 (v1 : Int32) (K28 : Sg → Prop) (Q : Int32 → Sg → Prop) : Nat → Int32 → Sg → Prop
  | 0, _, _ => False
  | n + 1, v2, σ => wb_X6_firstPastFault_5 v1 v2 (wl_X6_firstPastFault_5 v1 K28 Q n) K28 Q σ
set_option maxHeartbeats 4000000 in
set_option maxRecDepth 100000 in
theorem kl_X6_firstPastFault_5 {Q : Int32 → Sg → Prop} (C : Cx p s m args meth c D cy ad b0 yX6_firstPastFault cX6_firstPastFault 5 (some .int)) (v1 : Int32) (K28 : Sg → Prop) (hK28 : ∀  (σ : Sg), K28 σ → gI p l e rm_X6_firstPastFault s m args below meth c D cy ad b0 Q 5 28 σ [some (.ref (ad 2)), some (.int v1), none, none, none] []) : ∀ (n : Nat) (v2 : Int32) (σ : Sg), wl_X6_firstPastFault_5 v1 K28 Q n v2 σ → gI p l e rm_X6_firstPastFault s m args below meth c D cy ad b0 Q 5 5 σ [some (.ref (ad 2)), some (.int v1), some (.int v2), none, none] [] := by
  intro n
  induction n with
  | zero => intro v2 σ h; exact False.elim h
  | succ n ih =>
    intro v2 σ h
    exact kb_X6_firstPastFault_5 C v1 v2 (wl_X6_firstPastFault_5 v1 K28 Q n) K28 (fun z2 σ h => ih z2 σ h) hK28 σ h
def wp_X6_firstPastFault (σ : Sg) (Q : Int32 → Sg → Prop) : Prop :=
  ∃ n, wl_X6_firstPastFault_5 (-9 : Int32) (fun σ9 => wp_X6_firstPastFault_28 (-9 : Int32) Q σ9) Q n (nI 0) σ
set_option maxHeartbeats 4000000 in
set_option maxRecDepth 100000 in
theorem c_X6_firstPastFault (l : Launch) (D : va_G) (cy : Nat → ClassId) (ad : Nat → Nat) (b0 : Nat) (hA : AdOk ad b0) : Cti l D cy ad b0 yX6_firstPastFault cX6_firstPastFault 5 (some .int) rm_X6_firstPastFault [.ref (ad 2)] (fun σ Q => wp_X6_firstPastFault σ Q) := by
  intro σ Q h
  refine g_enter hA rfl (Nat.le_of_ble_eq_true rfl) [some (.ref (ad 2)), none, none, none, none] rfl ?_
  intro p e s m args below meth c C
  refine g_bipush C dX6_firstPastFault_0 kb_m9 ?_
  refine g_istore_n C [some (.ref (ad 2)), some (.int (-9 : Int32)), none, none, none] dX6_firstPastFault_2 (by decide) rfl ?_
  refine g_iconst C dX6_firstPastFault_3 kc_0 ?_
  refine g_istore_n C [some (.ref (ad 2)), some (.int (-9 : Int32)), some (.int (nI 0)), none, none] dX6_firstPastFault_4 (by decide) rfl ?_
  obtain ⟨n, h⟩ := h
  exact kl_X6_firstPastFault_5 C (-9 : Int32) _ (fun σ9 h => by exact k_X6_firstPastFault_28 C (-9 : Int32) σ9 h) n (nI 0) σ h
def rm_X6_giveBits : Room := { frames := 1, cells := 0, slots := 0, locals := 22 }
def wp_X6_giveBits_123 (v1 : Int32) (K74 : Int32 → Sg → Prop) (Q : Sg → Prop) (σ : Sg) : Prop :=
  ∀ x123 : Int32, x123 = v1 + (nI 1) → (K74 x123 σ)
set_option maxHeartbeats 4000000 in
set_option maxRecDepth 100000 in
theorem k_X6_giveBits_123 {Q : Sg → Prop} (C : Cx p s m args meth c D cy ad b0 yX6_giveBits cX6_giveBits 2 none) (v1 : Int32) (K74 : Int32 → Sg → Prop) (hK74 : ∀ (z1 : Int32) (σ : Sg), K74 z1 σ → gV p l e rm_X6_giveBits s m args below meth c D cy ad b0 Q 2 74 σ [some (.ref (ad 2)), some (.int z1)] []) (σ : Sg) (h : wp_X6_giveBits_123 v1 K74 Q σ) : gV p l e rm_X6_giveBits s m args below meth c D cy ad b0 Q 2 123 σ [some (.ref (ad 2)), some (.int v1)] [] := by
  obtain ⟨x123, e_x123⟩ : ∃ v : Int32, v = v1 + (nI 1) := ⟨_, rfl⟩
  have h := h x123 e_x123
  refine g_iinc C [some (.ref (ad 2)), some (.int x123)] dX6_giveBits_123 rfl e_x123.symm (by decide) rfl ?_
  refine g_goto C 74 dX6_giveBits_126 (by decide) ?_
  exact hK74 x123 σ h
def wb_X6_giveBits_74 (v1 : Int32) (K74 : Int32 → Sg → Prop) (Q : Sg → Prop) (σ : Sg) : Prop :=
  (((gF σ 2 6) ≤ v1 → Q σ) ∧ (¬ (gF σ 2 6) ≤ v1 → wp_X8_pick 13 v1 σ (fun r1 σ2 => wp_X6_looksAhead r1 σ2 (fun r3 σ4 => ((r3 = (nI 0) → wp_X6_giveBits_123 v1 K74 Q σ4) ∧ (¬ r3 = (nI 0) → wp_X8_put 17 v1 ((gF σ4 2 7) + (gF σ4 2 8)) σ4 (fun σ5 => ∀ σ6 : Sg, σ6 = stF σ5 2 8 ((gF σ5 2 8) + (nI 1)) → (wp_X6_giveBits_123 v1 K74 Q σ6))))))))
set_option maxHeartbeats 4000000 in
set_option maxRecDepth 100000 in
theorem kb_X6_giveBits_74 {Q : Sg → Prop} (C : Cx p s m args meth c D cy ad b0 yX6_giveBits cX6_giveBits 2 none) (v1 : Int32) (K74 : Int32 → Sg → Prop) (hK74 : ∀ (z1 : Int32) (σ : Sg), K74 z1 σ → gV p l e rm_X6_giveBits s m args below meth c D cy ad b0 Q 2 74 σ [some (.ref (ad 2)), some (.int z1)] []) (σ : Sg) (h : wb_X6_giveBits_74 v1 K74 Q σ) : gV p l e rm_X6_giveBits s m args below meth c D cy ad b0 Q 2 74 σ [some (.ref (ad 2)), some (.int v1)] [] := by
  refine g_iload_n C dX6_giveBits_74 rfl ?_
  refine g_aload_n C dX6_giveBits_75 rfl ?_
  refine fget_2_6_X6_31 C rfl dX6_giveBits_76 ?_
  refine g_icmp_ge C 129 dX6_giveBits_79 (by decide) (fun c79 => ?_) (fun c79 => ?_)
  · have h := h.1 c79
    exact g_vret C dX6_giveBits_129 h
  · have h := h.2 c79
    refine g_aload_n C dX6_giveBits_82 rfl ?_
    refine fget_2_0_X6_9 C rfl dX6_giveBits_83 ?_
    refine g_iload_n C dX6_giveBits_86 rfl ?_
    refine g_callNi C [.ref (ad 13), .int v1] (c_X8_pick l D cy ad b0 C.A 13 v1 (by decide)) cal_X8_pick nw_3 rfl ⟨Nat.le_of_ble_eq_true rfl, Nat.le_of_ble_eq_true rfl⟩ ⟨rfl, rfl⟩ ⟨Nat.zero_le _, Nat.zero_le _⟩ (Nat.le_of_ble_eq_true rfl) rfl dX6_giveBits_87 h (fun r1 σ2 h => ?_)
    refine g_callSi C [.int r1] (c_X6_looksAhead l D cy ad b0 C.A r1) cal_X6_looksAhead mw_286 rfl ⟨Nat.le_of_ble_eq_true rfl, Nat.le_of_ble_eq_true rfl⟩ ⟨rfl, rfl⟩ ⟨Nat.zero_le _, Nat.zero_le _⟩ (Nat.le_of_ble_eq_true rfl) rfl dX6_giveBits_90 h (fun r3 σ4 h => ?_)
    refine g_if_eq C 123 dX6_giveBits_93 (by decide) (fun c93 => ?_) (fun c93 => ?_)
    · have h := h.1 c93
      exact k_X6_giveBits_123 C v1 K74 hK74 σ4 h
    · have h := h.2 c93
      refine g_aload_n C dX6_giveBits_96 rfl ?_
      refine fget_2_4_X6_24 C rfl dX6_giveBits_97 ?_
      refine g_iload_n C dX6_giveBits_100 rfl ?_
      refine g_aload_n C dX6_giveBits_101 rfl ?_
      refine fget_2_7_X6_35 C rfl dX6_giveBits_102 ?_
      refine g_aload_n C dX6_giveBits_105 rfl ?_
      refine fget_2_8_X6_38 C rfl dX6_giveBits_106 ?_
      refine g_iadd C dX6_giveBits_109 ?_
      refine g_callNv C [.ref (ad 17), .int v1, .int ((gF σ4 2 7) + (gF σ4 2 8))] (c_X8_put l D cy ad b0 C.A 17 v1 ((gF σ4 2 7) + (gF σ4 2 8)) (by decide)) cal_X8_put nw_1 rfl ⟨Nat.le_of_ble_eq_true rfl, Nat.le_of_ble_eq_true rfl⟩ ⟨rfl, rfl⟩ ⟨Nat.zero_le _, Nat.zero_le _⟩ (Nat.le_of_ble_eq_true rfl) rfl dX6_giveBits_110 h (fun σ5 h => ?_)
      refine g_aload_n C dX6_giveBits_113 rfl ?_
      refine g_dup C dX6_giveBits_114 rfl ?_
      refine fget_2_8_X6_38 C rfl dX6_giveBits_115 ?_
      refine g_iconst C dX6_giveBits_118 kc_1 ?_
      refine g_iadd C dX6_giveBits_119 ?_
      refine fput_2_8_X6_38 C rfl dX6_giveBits_120 (fun σ6 e_σ6 => ?_)
      have h := h σ6 e_σ6
      exact k_X6_giveBits_123 C v1 K74 hK74 σ6 h
def wl_X6_giveBits_74 (Q : Sg → Prop) : Nat → Int32 → Sg → Prop
  | 0, _, _ => False
  | n + 1, v1, σ => wb_X6_giveBits_74 v1 (wl_X6_giveBits_74 Q n) Q σ
set_option maxHeartbeats 4000000 in
set_option maxRecDepth 100000 in
theorem kl_X6_giveBits_74 {Q : Sg → Prop} (C : Cx p s m args meth c D cy ad b0 yX6_giveBits cX6_giveBits 2 none) : ∀ (n : Nat) (v1 : Int32) (σ : Sg), wl_X6_giveBits_74 Q n v1 σ → gV p l e rm_X6_giveBits s m args below meth c D cy ad b0 Q 2 74 σ [some (.ref (ad 2)), some (.int v1)] [] := by
  intro n
  induction n with
  | zero => intro v1 σ h; exact False.elim h
  | succ n ih =>
    intro v1 σ h
    exact kb_X6_giveBits_74 C v1 (wl_X6_giveBits_74 Q n) (fun z1 σ h => ih z1 σ h) σ h
def wp_X6_giveBits_67 (Q : Sg → Prop) (σ : Sg) : Prop :=
  ∀ σ1 : Sg, σ1 = stF σ 2 8 (nI 0) → (∃ n, wl_X6_giveBits_74 Q n (nI 0) σ1)
set_option maxHeartbeats 4000000 in
set_option maxRecDepth 100000 in
theorem k_X6_giveBits_67 {Q : Sg → Prop} (C : Cx p s m args meth c D cy ad b0 yX6_giveBits cX6_giveBits 2 none) (σ : Sg) (h : wp_X6_giveBits_67 Q σ) : gV p l e rm_X6_giveBits s m args below meth c D cy ad b0 Q 2 67 σ [some (.ref (ad 2)), none] [] := by
  refine g_aload_n C dX6_giveBits_67 rfl ?_
  refine g_iconst C dX6_giveBits_68 kc_0 ?_
  refine fput_2_8_X6_38 C rfl dX6_giveBits_69 (fun σ1 e_σ1 => ?_)
  have h := h σ1 e_σ1
  refine g_iconst C dX6_giveBits_72 kc_0 ?_
  refine g_istore_n C [some (.ref (ad 2)), some (.int (nI 0))] dX6_giveBits_73 (by decide) rfl ?_
  obtain ⟨n, h⟩ := h
  exact kl_X6_giveBits_74 C n (nI 0) σ1 h
def wp_X6_giveBits_61 (v1 : Int32) (K7 : Int32 → Sg → Prop) (Q : Sg → Prop) (σ : Sg) : Prop :=
  ∀ x61 : Int32, x61 = v1 + (nI 1) → (K7 x61 σ)
set_option maxHeartbeats 4000000 in
set_option maxRecDepth 100000 in
theorem k_X6_giveBits_61 {Q : Sg → Prop} (C : Cx p s m args meth c D cy ad b0 yX6_giveBits cX6_giveBits 2 none) (v1 : Int32) (K7 : Int32 → Sg → Prop) (hK7 : ∀ (z1 : Int32) (σ : Sg), K7 z1 σ → gV p l e rm_X6_giveBits s m args below meth c D cy ad b0 Q 2 7 σ [some (.ref (ad 2)), some (.int z1)] []) (σ : Sg) (h : wp_X6_giveBits_61 v1 K7 Q σ) : gV p l e rm_X6_giveBits s m args below meth c D cy ad b0 Q 2 61 σ [some (.ref (ad 2)), some (.int v1)] [] := by
  obtain ⟨x61, e_x61⟩ : ∃ v : Int32, v = v1 + (nI 1) := ⟨_, rfl⟩
  have h := h x61 e_x61
  refine g_iinc C [some (.ref (ad 2)), some (.int x61)] dX6_giveBits_61 rfl e_x61.symm (by decide) rfl ?_
  refine g_goto C 7 dX6_giveBits_64 (by decide) ?_
  exact hK7 x61 σ h
def wb_X6_giveBits_7 (v1 : Int32) (K7 : Int32 → Sg → Prop) (K67 : Sg → Prop) (Q : Sg → Prop) (σ : Sg) : Prop :=
  (((gF σ 2 6) ≤ v1 → K67 σ) ∧ (¬ (gF σ 2 6) ≤ v1 → wp_X8_put 17 v1 (nI 31) σ (fun σ1 => wp_X8_pick 13 v1 σ1 (fun r2 σ3 => wp_X6_looksBehind r2 σ3 (fun r4 σ5 => ((r4 = (nI 0) → wp_X6_giveBits_61 v1 K7 Q σ5) ∧ (¬ r4 = (nI 0) → wp_X8_put 17 v1 (gF σ5 2 7) σ5 (fun σ6 => ∀ σ7 : Sg, σ7 = stF σ6 2 7 ((gF σ6 2 7) + (nI 1)) → (wp_X6_giveBits_61 v1 K7 Q σ7)))))))))
set_option maxHeartbeats 4000000 in
set_option maxRecDepth 100000 in
theorem kb_X6_giveBits_7 {Q : Sg → Prop} (C : Cx p s m args meth c D cy ad b0 yX6_giveBits cX6_giveBits 2 none) (v1 : Int32) (K7 : Int32 → Sg → Prop) (K67 : Sg → Prop) (hK7 : ∀ (z1 : Int32) (σ : Sg), K7 z1 σ → gV p l e rm_X6_giveBits s m args below meth c D cy ad b0 Q 2 7 σ [some (.ref (ad 2)), some (.int z1)] []) (hK67 : ∀  (σ : Sg), K67 σ → gV p l e rm_X6_giveBits s m args below meth c D cy ad b0 Q 2 67 σ [some (.ref (ad 2)), none] []) (σ : Sg) (h : wb_X6_giveBits_7 v1 K7 K67 Q σ) : gV p l e rm_X6_giveBits s m args below meth c D cy ad b0 Q 2 7 σ [some (.ref (ad 2)), some (.int v1)] [] := by
  refine g_iload_n C dX6_giveBits_7 rfl ?_
  refine g_aload_n C dX6_giveBits_8 rfl ?_
  refine fget_2_6_X6_31 C rfl dX6_giveBits_9 ?_
  refine g_icmp_ge C 67 dX6_giveBits_12 (by decide) (fun c12 => ?_) (fun c12 => ?_)
  · have h := h.1 c12
    refine g_mask [true, false] rfl ?_
    exact hK67 σ h
  · have h := h.2 c12
    refine g_aload_n C dX6_giveBits_15 rfl ?_
    refine fget_2_4_X6_24 C rfl dX6_giveBits_16 ?_
    refine g_iload_n C dX6_giveBits_19 rfl ?_
    refine g_bipush C dX6_giveBits_20 kb_31 ?_
    refine g_callNv C [.ref (ad 17), .int v1, .int (nI 31)] (c_X8_put l D cy ad b0 C.A 17 v1 (nI 31) (by decide)) cal_X8_put nw_1 rfl ⟨Nat.le_of_ble_eq_true rfl, Nat.le_of_ble_eq_true rfl⟩ ⟨rfl, rfl⟩ ⟨Nat.zero_le _, Nat.zero_le _⟩ (Nat.le_of_ble_eq_true rfl) rfl dX6_giveBits_22 h (fun σ1 h => ?_)
    refine g_aload_n C dX6_giveBits_25 rfl ?_
    refine fget_2_0_X6_9 C rfl dX6_giveBits_26 ?_
    refine g_iload_n C dX6_giveBits_29 rfl ?_
    refine g_callNi C [.ref (ad 13), .int v1] (c_X8_pick l D cy ad b0 C.A 13 v1 (by decide)) cal_X8_pick nw_3 rfl ⟨Nat.le_of_ble_eq_true rfl, Nat.le_of_ble_eq_true rfl⟩ ⟨rfl, rfl⟩ ⟨Nat.zero_le _, Nat.zero_le _⟩ (Nat.le_of_ble_eq_true rfl) rfl dX6_giveBits_30 h (fun r2 σ3 h => ?_)
    refine g_callSi C [.int r2] (c_X6_looksBehind l D cy ad b0 C.A r2) cal_X6_looksBehind mw_287 rfl ⟨Nat.le_of_ble_eq_true rfl, Nat.le_of_ble_eq_true rfl⟩ ⟨rfl, rfl⟩ ⟨Nat.zero_le _, Nat.zero_le _⟩ (Nat.le_of_ble_eq_true rfl) rfl dX6_giveBits_33 h (fun r4 σ5 h => ?_)
    refine g_if_eq C 61 dX6_giveBits_36 (by decide) (fun c36 => ?_) (fun c36 => ?_)
    · have h := h.1 c36
      exact k_X6_giveBits_61 C v1 K7 hK7 σ5 h
    · have h := h.2 c36
      refine g_aload_n C dX6_giveBits_39 rfl ?_
      refine fget_2_4_X6_24 C rfl dX6_giveBits_40 ?_
      refine g_iload_n C dX6_giveBits_43 rfl ?_
      refine g_aload_n C dX6_giveBits_44 rfl ?_
      refine fget_2_7_X6_35 C rfl dX6_giveBits_45 ?_
      refine g_callNv C [.ref (ad 17), .int v1, .int (gF σ5 2 7)] (c_X8_put l D cy ad b0 C.A 17 v1 (gF σ5 2 7) (by decide)) cal_X8_put nw_1 rfl ⟨Nat.le_of_ble_eq_true rfl, Nat.le_of_ble_eq_true rfl⟩ ⟨rfl, rfl⟩ ⟨Nat.zero_le _, Nat.zero_le _⟩ (Nat.le_of_ble_eq_true rfl) rfl dX6_giveBits_48 h (fun σ6 h => ?_)
      refine g_aload_n C dX6_giveBits_51 rfl ?_
      refine g_dup C dX6_giveBits_52 rfl ?_
      refine fget_2_7_X6_35 C rfl dX6_giveBits_53 ?_
      refine g_iconst C dX6_giveBits_56 kc_1 ?_
      refine g_iadd C dX6_giveBits_57 ?_
      refine fput_2_7_X6_35 C rfl dX6_giveBits_58 (fun σ7 e_σ7 => ?_)
      have h := h σ7 e_σ7
      exact k_X6_giveBits_61 C v1 K7 hK7 σ7 h
def wl_X6_giveBits_7 (K67 : Sg → Prop) (Q : Sg → Prop) : Nat → Int32 → Sg → Prop
  | 0, _, _ => False
  | n + 1, v1, σ => wb_X6_giveBits_7 v1 (wl_X6_giveBits_7 K67 Q n) K67 Q σ
set_option maxHeartbeats 4000000 in
set_option maxRecDepth 100000 in
theorem kl_X6_giveBits_7 {Q : Sg → Prop} (C : Cx p s m args meth c D cy ad b0 yX6_giveBits cX6_giveBits 2 none) (K67 : Sg → Prop) (hK67 : ∀  (σ : Sg), K67 σ → gV p l e rm_X6_giveBits s m args below meth c D cy ad b0 Q 2 67 σ [some (.ref (ad 2)), none] []) : ∀ (n : Nat) (v1 : Int32) (σ : Sg), wl_X6_giveBits_7 K67 Q n v1 σ → gV p l e rm_X6_giveBits s m args below meth c D cy ad b0 Q 2 7 σ [some (.ref (ad 2)), some (.int v1)] [] := by
  intro n
  induction n with
  | zero => intro v1 σ h; exact False.elim h
  | succ n ih =>
    intro v1 σ h
    exact kb_X6_giveBits_7 C v1 (wl_X6_giveBits_7 K67 Q n) K67 (fun z1 σ h => ih z1 σ h) hK67 σ h
def wp_X6_giveBits (σ : Sg) (Q : Sg → Prop) : Prop :=
  ∀ σ1 : Sg, σ1 = stF σ 2 7 (nI 0) → (∃ n, wl_X6_giveBits_7 (fun σ9 => wp_X6_giveBits_67 Q σ9) Q n (nI 0) σ1)
set_option maxHeartbeats 4000000 in
set_option maxRecDepth 100000 in
theorem c_X6_giveBits (l : Launch) (D : va_G) (cy : Nat → ClassId) (ad : Nat → Nat) (b0 : Nat) (hA : AdOk ad b0) : Ctv l D cy ad b0 yX6_giveBits cX6_giveBits 2 none rm_X6_giveBits [.ref (ad 2)] (fun σ Q => wp_X6_giveBits σ Q) := by
  intro σ Q h
  refine g_enter hA rfl (Nat.le_of_ble_eq_true rfl) [some (.ref (ad 2)), none] rfl ?_
  intro p e s m args below meth c C
  refine g_aload_n C dX6_giveBits_0 rfl ?_
  refine g_iconst C dX6_giveBits_1 kc_0 ?_
  refine fput_2_7_X6_35 C rfl dX6_giveBits_2 (fun σ1 e_σ1 => ?_)
  have h := h σ1 e_σ1
  refine g_iconst C dX6_giveBits_5 kc_0 ?_
  refine g_istore_n C [some (.ref (ad 2)), some (.int (nI 0))] dX6_giveBits_6 (by decide) rfl ?_
  obtain ⟨n, h⟩ := h
  exact kl_X6_giveBits_7 C _ (fun σ9 h => by exact k_X6_giveBits_67 C σ9 h) n (nI 0) σ1 h
def rm_X6_futureBits : Room := { frames := 0, cells := 0, slots := 0, locals := 0 }
def wp_X6_futureBits (σ : Sg) (Q : Int32 → Sg → Prop) : Prop :=
  Q (gF σ 2 7) σ
set_option maxHeartbeats 4000000 in
set_option maxRecDepth 100000 in
theorem c_X6_futureBits (l : Launch) (D : va_G) (cy : Nat → ClassId) (ad : Nat → Nat) (b0 : Nat) (hA : AdOk ad b0) : Cti l D cy ad b0 yX6_futureBits cX6_futureBits 1 (some .int) rm_X6_futureBits [.ref (ad 2)] (fun σ Q => wp_X6_futureBits σ Q) := by
  intro σ Q h
  refine g_enter hA rfl (Nat.le_of_ble_eq_true rfl) [some (.ref (ad 2))] rfl ?_
  intro p e s m args below meth c C
  refine g_aload_n C dX6_futureBits_0 rfl ?_
  refine fget_2_7_X6_35 C rfl dX6_futureBits_1 ?_
  exact g_iret C dX6_futureBits_4 h
def rm_X6_pastBits : Room := { frames := 0, cells := 0, slots := 0, locals := 0 }
def wp_X6_pastBits (σ : Sg) (Q : Int32 → Sg → Prop) : Prop :=
  Q (gF σ 2 8) σ
set_option maxHeartbeats 4000000 in
set_option maxRecDepth 100000 in
theorem c_X6_pastBits (l : Launch) (D : va_G) (cy : Nat → ClassId) (ad : Nat → Nat) (b0 : Nat) (hA : AdOk ad b0) : Cti l D cy ad b0 yX6_pastBits cX6_pastBits 1 (some .int) rm_X6_pastBits [.ref (ad 2)] (fun σ Q => wp_X6_pastBits σ Q) := by
  intro σ Q h
  refine g_enter hA rfl (Nat.le_of_ble_eq_true rfl) [some (.ref (ad 2))] rfl ?_
  intro p e s m args below meth c C
  refine g_aload_n C dX6_pastBits_0 rfl ?_
  refine fget_2_8_X6_38 C rfl dX6_pastBits_1 ?_
  exact g_iret C dX6_pastBits_4 h
def rm_X6_bitsOfNoPlace : Room := { frames := 1, cells := 0, slots := 0, locals := 21 }
def wp_X6_bitsOfNoPlace_52 (v1 : Int32) (v2 : Int32) (K4 : Int32 → Int32 → Sg → Prop) (Q : Int32 → Sg → Prop) (σ : Sg) : Prop :=
  ∀ x52 : Int32, x52 = v2 + (nI 1) → (K4 v1 x52 σ)
set_option maxHeartbeats 4000000 in
set_option maxRecDepth 100000 in
theorem k_X6_bitsOfNoPlace_52 {Q : Int32 → Sg → Prop} (C : Cx p s m args meth c D cy ad b0 yX6_bitsOfNoPlace cX6_bitsOfNoPlace 4 (some .int)) (v1 : Int32) (v2 : Int32) (K4 : Int32 → Int32 → Sg → Prop) (hK4 : ∀ (z1 : Int32) (z2 : Int32) (σ : Sg), K4 z1 z2 σ → gI p l e rm_X6_bitsOfNoPlace s m args below meth c D cy ad b0 Q 4 4 σ [some (.ref (ad 2)), some (.int z1), some (.int z2), none] []) (σ : Sg) (h : wp_X6_bitsOfNoPlace_52 v1 v2 K4 Q σ) : gI p l e rm_X6_bitsOfNoPlace s m args below meth c D cy ad b0 Q 4 52 σ [some (.ref (ad 2)), some (.int v1), some (.int v2), none] [] := by
  obtain ⟨x52, e_x52⟩ : ∃ v : Int32, v = v2 + (nI 1) := ⟨_, rfl⟩
  have h := h x52 e_x52
  refine g_iinc C [some (.ref (ad 2)), some (.int v1), some (.int x52), none] dX6_bitsOfNoPlace_52 rfl e_x52.symm (by decide) rfl ?_
  refine g_goto C 4 dX6_bitsOfNoPlace_55 (by decide) ?_
  exact hK4 v1 x52 σ h
def wp_X6_bitsOfNoPlace_39 (v1 : Int32) (v2 : Int32) (K4 : Int32 → Int32 → Sg → Prop) (Q : Int32 → Sg → Prop) (σ : Sg) : Prop :=
  wp_X8_pick 17 v2 σ (fun r1 σ2 => ∀ x51 : Int32, x51 = (v1 ||| ((nI 1) <<< (r1 &&& 31))) → (wp_X6_bitsOfNoPlace_52 x51 v2 K4 Q σ2))
set_option maxHeartbeats 4000000 in
set_option maxRecDepth 100000 in
theorem k_X6_bitsOfNoPlace_39 {Q : Int32 → Sg → Prop} (C : Cx p s m args meth c D cy ad b0 yX6_bitsOfNoPlace cX6_bitsOfNoPlace 4 (some .int)) (v1 : Int32) (v2 : Int32) (K4 : Int32 → Int32 → Sg → Prop) (hK4 : ∀ (z1 : Int32) (z2 : Int32) (σ : Sg), K4 z1 z2 σ → gI p l e rm_X6_bitsOfNoPlace s m args below meth c D cy ad b0 Q 4 4 σ [some (.ref (ad 2)), some (.int z1), some (.int z2), none] []) (σ : Sg) (h : wp_X6_bitsOfNoPlace_39 v1 v2 K4 Q σ) : gI p l e rm_X6_bitsOfNoPlace s m args below meth c D cy ad b0 Q 4 39 σ [some (.ref (ad 2)), some (.int v1), some (.int v2), none] [] := by
  refine g_iload_n C dX6_bitsOfNoPlace_39 rfl ?_
  refine g_iconst C dX6_bitsOfNoPlace_40 kc_1 ?_
  refine g_aload_n C dX6_bitsOfNoPlace_41 rfl ?_
  refine fget_2_4_X6_24 C rfl dX6_bitsOfNoPlace_42 ?_
  refine g_iload_n C dX6_bitsOfNoPlace_45 rfl ?_
  refine g_callNi C [.ref (ad 17), .int v2] (c_X8_pick l D cy ad b0 C.A 17 v2 (by decide)) cal_X8_pick nw_3 rfl ⟨Nat.le_of_ble_eq_true rfl, Nat.le_of_ble_eq_true rfl⟩ ⟨rfl, rfl⟩ ⟨Nat.zero_le _, Nat.zero_le _⟩ (Nat.le_of_ble_eq_true rfl) rfl dX6_bitsOfNoPlace_46 h (fun r1 σ2 h => ?_)
  refine g_ishl C dX6_bitsOfNoPlace_49 ?_
  refine g_ior C dX6_bitsOfNoPlace_50 ?_
  refine g_topi (fun x51 e_x51 => ?_)
  have h := h x51 e_x51
  refine g_istore_n C [some (.ref (ad 2)), some (.int x51), some (.int v2), none] dX6_bitsOfNoPlace_51 (by decide) rfl ?_
  exact k_X6_bitsOfNoPlace_52 C x51 v2 K4 hK4 σ2 h
def wb_X6_bitsOfNoPlace_4 (v1 : Int32) (v2 : Int32) (K4 : Int32 → Int32 → Sg → Prop) (Q : Int32 → Sg → Prop) (σ : Sg) : Prop :=
  (((gF σ 2 6) ≤ v2 → Q v1 σ) ∧ (¬ (gF σ 2 6) ≤ v2 → wp_X8_pick 13 v2 σ (fun r1 σ2 => ((r1 = (nI 87) → wp_X6_bitsOfNoPlace_39 v1 v2 K4 Q σ2) ∧ (¬ r1 = (nI 87) → ((r1 = (nI 71) → wp_X6_bitsOfNoPlace_39 v1 v2 K4 Q σ2) ∧ (¬ r1 = (nI 71) → ((¬ r1 = (nI 72) → wp_X6_bitsOfNoPlace_52 v1 v2 K4 Q σ2) ∧ (r1 = (nI 72) → wp_X6_bitsOfNoPlace_39 v1 v2 K4 Q σ2)))))))))
set_option maxHeartbeats 4000000 in
set_option maxRecDepth 100000 in
theorem kb_X6_bitsOfNoPlace_4 {Q : Int32 → Sg → Prop} (C : Cx p s m args meth c D cy ad b0 yX6_bitsOfNoPlace cX6_bitsOfNoPlace 4 (some .int)) (v1 : Int32) (v2 : Int32) (K4 : Int32 → Int32 → Sg → Prop) (hK4 : ∀ (z1 : Int32) (z2 : Int32) (σ : Sg), K4 z1 z2 σ → gI p l e rm_X6_bitsOfNoPlace s m args below meth c D cy ad b0 Q 4 4 σ [some (.ref (ad 2)), some (.int z1), some (.int z2), none] []) (σ : Sg) (h : wb_X6_bitsOfNoPlace_4 v1 v2 K4 Q σ) : gI p l e rm_X6_bitsOfNoPlace s m args below meth c D cy ad b0 Q 4 4 σ [some (.ref (ad 2)), some (.int v1), some (.int v2), none] [] := by
  refine g_iload_n C dX6_bitsOfNoPlace_4 rfl ?_
  refine g_aload_n C dX6_bitsOfNoPlace_5 rfl ?_
  refine fget_2_6_X6_31 C rfl dX6_bitsOfNoPlace_6 ?_
  refine g_icmp_ge C 58 dX6_bitsOfNoPlace_9 (by decide) (fun c9 => ?_) (fun c9 => ?_)
  · have h := h.1 c9
    refine g_iload_n C dX6_bitsOfNoPlace_58 rfl ?_
    exact g_iret C dX6_bitsOfNoPlace_59 h
  · have h := h.2 c9
    refine g_aload_n C dX6_bitsOfNoPlace_12 rfl ?_
    refine fget_2_0_X6_9 C rfl dX6_bitsOfNoPlace_13 ?_
    refine g_iload_n C dX6_bitsOfNoPlace_16 rfl ?_
    refine g_callNi C [.ref (ad 13), .int v2] (c_X8_pick l D cy ad b0 C.A 13 v2 (by decide)) cal_X8_pick nw_3 rfl ⟨Nat.le_of_ble_eq_true rfl, Nat.le_of_ble_eq_true rfl⟩ ⟨rfl, rfl⟩ ⟨Nat.zero_le _, Nat.zero_le _⟩ (Nat.le_of_ble_eq_true rfl) rfl dX6_bitsOfNoPlace_17 h (fun r1 σ2 h => ?_)
    refine g_istore_n C [some (.ref (ad 2)), some (.int v1), some (.int v2), some (.int r1)] dX6_bitsOfNoPlace_20 (by decide) rfl ?_
    refine g_iload_n C dX6_bitsOfNoPlace_21 rfl ?_
    refine g_bipush C dX6_bitsOfNoPlace_22 kb_87 ?_
    refine g_icmp_eq C 39 dX6_bitsOfNoPlace_24 (by decide) (fun c24 => ?_) (fun c24 => ?_)
    · have h := h.1 c24
      refine g_mask [true, true, true, false] rfl ?_
      exact k_X6_bitsOfNoPlace_39 C v1 v2 K4 hK4 σ2 h
    · have h := h.2 c24
      refine g_iload_n C dX6_bitsOfNoPlace_27 rfl ?_
      refine g_bipush C dX6_bitsOfNoPlace_28 kb_71 ?_
      refine g_icmp_eq C 39 dX6_bitsOfNoPlace_30 (by decide) (fun c30 => ?_) (fun c30 => ?_)
      · have h := h.1 c30
        refine g_mask [true, true, true, false] rfl ?_
        exact k_X6_bitsOfNoPlace_39 C v1 v2 K4 hK4 σ2 h
      · have h := h.2 c30
        refine g_iload_n C dX6_bitsOfNoPlace_33 rfl ?_
        refine g_bipush C dX6_bitsOfNoPlace_34 kb_72 ?_
        refine g_icmp_ne C 52 dX6_bitsOfNoPlace_36 (by decide) (fun c36 => ?_) (fun c36 => ?_)
        · have h := h.1 c36
          refine g_mask [true, true, true, false] rfl ?_
          exact k_X6_bitsOfNoPlace_52 C v1 v2 K4 hK4 σ2 h
        · have h := h.2 c36
          refine g_mask [true, true, true, false] rfl ?_
          exact k_X6_bitsOfNoPlace_39 C v1 v2 K4 hK4 σ2 h
def wl_X6_bitsOfNoPlace_4 (Q : Int32 → Sg → Prop) : Nat → Int32 → Int32 → Sg → Prop
  | 0, _, _, _ => False
  | n + 1, v1, v2, σ => wb_X6_bitsOfNoPlace_4 v1 v2 (wl_X6_bitsOfNoPlace_4 Q n) Q σ
set_option maxHeartbeats 4000000 in
set_option maxRecDepth 100000 in
theorem kl_X6_bitsOfNoPlace_4 {Q : Int32 → Sg → Prop} (C : Cx p s m args meth c D cy ad b0 yX6_bitsOfNoPlace cX6_bitsOfNoPlace 4 (some .int)) : ∀ (n : Nat) (v1 : Int32) (v2 : Int32) (σ : Sg), wl_X6_bitsOfNoPlace_4 Q n v1 v2 σ → gI p l e rm_X6_bitsOfNoPlace s m args below meth c D cy ad b0 Q 4 4 σ [some (.ref (ad 2)), some (.int v1), some (.int v2), none] [] := by
  intro n
  induction n with
  | zero => intro v1 v2 σ h; exact False.elim h
  | succ n ih =>
    intro v1 v2 σ h
    exact kb_X6_bitsOfNoPlace_4 C v1 v2 (wl_X6_bitsOfNoPlace_4 Q n) (fun z1 z2 σ h => ih z1 z2 σ h) σ h
def wp_X6_bitsOfNoPlace (σ : Sg) (Q : Int32 → Sg → Prop) : Prop :=
  ∃ n, wl_X6_bitsOfNoPlace_4 Q n (nI 0) (nI 0) σ
set_option maxHeartbeats 4000000 in
set_option maxRecDepth 100000 in
theorem c_X6_bitsOfNoPlace (l : Launch) (D : va_G) (cy : Nat → ClassId) (ad : Nat → Nat) (b0 : Nat) (hA : AdOk ad b0) : Cti l D cy ad b0 yX6_bitsOfNoPlace cX6_bitsOfNoPlace 4 (some .int) rm_X6_bitsOfNoPlace [.ref (ad 2)] (fun σ Q => wp_X6_bitsOfNoPlace σ Q) := by
  intro σ Q h
  refine g_enter hA rfl (Nat.le_of_ble_eq_true rfl) [some (.ref (ad 2)), none, none, none] rfl ?_
  intro p e s m args below meth c C
  refine g_iconst C dX6_bitsOfNoPlace_0 kc_0 ?_
  refine g_istore_n C [some (.ref (ad 2)), some (.int (nI 0)), none, none] dX6_bitsOfNoPlace_1 (by decide) rfl ?_
  refine g_iconst C dX6_bitsOfNoPlace_2 kc_0 ?_
  refine g_istore_n C [some (.ref (ad 2)), some (.int (nI 0)), some (.int (nI 0)), none] dX6_bitsOfNoPlace_3 (by decide) rfl ?_
  obtain ⟨n, h⟩ := h
  exact kl_X6_bitsOfNoPlace_4 C n (nI 0) (nI 0) σ h
def rm_X6_holds : Room := { frames := 1, cells := 0, slots := 0, locals := 22 }
def wp_X6_holds_411 (Q : Int32 → Sg → Prop) (σ : Sg) : Prop :=
  Q (nI 1) σ
set_option maxHeartbeats 4000000 in
set_option maxRecDepth 100000 in
theorem k_X6_holds_411 {Q : Int32 → Sg → Prop} (C : Cx p s m args meth c D cy ad b0 yX6_holds cX6_holds 9 (some .boolean)) (σ : Sg) (h : wp_X6_holds_411 Q σ) : gI p l e rm_X6_holds s m args below meth c D cy ad b0 Q 9 411 σ [none, none, none, none, none, none, none, none, none] [] := by
  refine g_iconst C dX6_holds_411 kc_1 ?_
  refine g_goto C 416 dX6_holds_412 (by decide) ?_
  exact g_zret C (narrow_bl bl_1) dX6_holds_416 h
def wp_X6_holds_390 (Q : Int32 → Sg → Prop) (σ : Sg) : Prop :=
  Q (nI 1) σ
set_option maxHeartbeats 4000000 in
set_option maxRecDepth 100000 in
theorem k_X6_holds_390 {Q : Int32 → Sg → Prop} (C : Cx p s m args meth c D cy ad b0 yX6_holds cX6_holds 9 (some .boolean)) (σ : Sg) (h : wp_X6_holds_390 Q σ) : gI p l e rm_X6_holds s m args below meth c D cy ad b0 Q 9 390 σ [none, none, none, none, none, none, none, none, none] [] := by
  refine g_iconst C dX6_holds_390 kc_1 ?_
  refine g_goto C 395 dX6_holds_391 (by decide) ?_
  exact g_zret C (narrow_bl bl_1) dX6_holds_395 h
def wp_X6_holds_355 (Q : Int32 → Sg → Prop) (σ : Sg) : Prop :=
  Q (nI 1) σ
set_option maxHeartbeats 4000000 in
set_option maxRecDepth 100000 in
theorem k_X6_holds_355 {Q : Int32 → Sg → Prop} (C : Cx p s m args meth c D cy ad b0 yX6_holds cX6_holds 9 (some .boolean)) (σ : Sg) (h : wp_X6_holds_355 Q σ) : gI p l e rm_X6_holds s m args below meth c D cy ad b0 Q 9 355 σ [none, none, none, none, none, none, none, none, none] [] := by
  refine g_iconst C dX6_holds_355 kc_1 ?_
  refine g_goto C 360 dX6_holds_356 (by decide) ?_
  exact g_zret C (narrow_bl bl_1) dX6_holds_360 h
def wp_X6_holds_339 (Q : Int32 → Sg → Prop) (σ : Sg) : Prop :=
  Q (nI 1) σ
set_option maxHeartbeats 4000000 in
set_option maxRecDepth 100000 in
theorem k_X6_holds_339 {Q : Int32 → Sg → Prop} (C : Cx p s m args meth c D cy ad b0 yX6_holds cX6_holds 9 (some .boolean)) (σ : Sg) (h : wp_X6_holds_339 Q σ) : gI p l e rm_X6_holds s m args below meth c D cy ad b0 Q 9 339 σ [none, none, none, none, none, none, none, none, none] [] := by
  refine g_iconst C dX6_holds_339 kc_1 ?_
  refine g_goto C 344 dX6_holds_340 (by decide) ?_
  exact g_zret C (narrow_bl bl_1) dX6_holds_344 h
def wp_X6_holds (a0 : Int32) (a1 : Int32) (a2 : Int32) (a3 : Int32) (σ : Sg) (Q : Int32 → Sg → Prop) : Prop :=
  wp_X8_pick 14 a0 σ (fun r1 σ2 => wp_X8_hasBit (Int32.toInt64 a3) r1 σ2 (fun r3 σ4 => wp_X8_pick 15 a0 σ4 (fun r5 σ6 => wp_X8_hasBit (Int32.toInt64 a3) r5 σ6 (fun r7 σ8 => wp_X8_pick 17 a0 σ8 (fun r9 σ10 => wp_X8_hasBit (Int32.toInt64 a2) r9 σ10 (fun r11 σ12 => wp_X8_pick 13 a0 σ12 (fun r13 σ14 => ((r13 = (nI 33) → ((¬ r3 = (nI 0) → Q (nI 0) σ14) ∧ (r3 = (nI 0) → Q (nI 1) σ14))) ∧ (¬ r13 = (nI 33) → ((r13 = (nI 38) → ((r3 = (nI 0) → Q (nI 0) σ14) ∧ (¬ r3 = (nI 0) → ((r7 = (nI 0) → Q (nI 0) σ14) ∧ (¬ r7 = (nI 0) → Q (nI 1) σ14))))) ∧ (¬ r13 = (nI 38) → ((r13 = (nI 46) → Q (nI 1) σ14) ∧ (¬ r13 = (nI 46) → ((r13 = (nI 47) → ((¬ r3 = (nI 0) → wp_X6_holds_339 Q σ14) ∧ (r3 = (nI 0) → ((r7 = (nI 0) → Q (nI 0) σ14) ∧ (¬ r7 = (nI 0) → wp_X6_holds_339 Q σ14))))) ∧ (¬ r13 = (nI 47) → ((r13 = (nI 62) → ((r3 = (nI 0) → wp_X6_holds_355 Q σ14) ∧ (¬ r3 = (nI 0) → ((r7 = (nI 0) → Q (nI 0) σ14) ∧ (¬ r7 = (nI 0) → wp_X6_holds_355 Q σ14))))) ∧ (¬ r13 = (nI 62) → ((r13 = (nI 70) → ((¬ r3 = (nI 0) → wp_X6_holds_390 Q σ14) ∧ (r3 = (nI 0) → ((r11 = (nI 0) → Q (nI 0) σ14) ∧ (¬ r11 = (nI 0) → wp_X6_holds_390 Q σ14))))) ∧ (¬ r13 = (nI 70) → ((r13 = (nI 71) → ((r3 = (nI 0) → Q (nI 0) σ14) ∧ (¬ r3 = (nI 0) → ((r11 = (nI 0) → Q (nI 0) σ14) ∧ (¬ r11 = (nI 0) → Q (nI 1) σ14))))) ∧ (¬ r13 = (nI 71) → ((r13 = (nI 72) → ((r3 = (nI 0) → Q (nI 0) σ14) ∧ (¬ r3 = (nI 0) → ((r11 = (nI 0) → Q (nI 0) σ14) ∧ (¬ r11 = (nI 0) → Q (nI 1) σ14))))) ∧ (¬ r13 = (nI 72) → ((r13 = (nI 78) → (bl r11 ∧ Q r11 σ14)) ∧ (¬ r13 = (nI 78) → ((r13 = (nI 79) → ((¬ r3 = (nI 0) → wp_X6_holds_390 Q σ14) ∧ (r3 = (nI 0) → ((r11 = (nI 0) → Q (nI 0) σ14) ∧ (¬ r11 = (nI 0) → wp_X6_holds_390 Q σ14))))) ∧ (¬ r13 = (nI 79) → ((r13 = (nI 83) → ((¬ r7 = (nI 0) → wp_X6_holds_411 Q σ14) ∧ (r7 = (nI 0) → ((r3 = (nI 0) → Q (nI 0) σ14) ∧ (¬ r3 = (nI 0) → ((r11 = (nI 0) → Q (nI 0) σ14) ∧ (¬ r11 = (nI 0) → wp_X6_holds_411 Q σ14))))))) ∧ (¬ r13 = (nI 83) → ((r13 = (nI 85) → ((¬ r7 = (nI 0) → wp_X6_holds_411 Q σ14) ∧ (r7 = (nI 0) → ((r3 = (nI 0) → Q (nI 0) σ14) ∧ (¬ r3 = (nI 0) → ((r11 = (nI 0) → Q (nI 0) σ14) ∧ (¬ r11 = (nI 0) → wp_X6_holds_411 Q σ14))))))) ∧ (¬ r13 = (nI 85) → ((r13 = (nI 87) → (bl r11 ∧ Q r11 σ14)) ∧ (¬ r13 = (nI 87) → ((r13 = (nI 89) → (bl r11 ∧ Q r11 σ14)) ∧ (¬ r13 = (nI 89) → ((¬ r13 = ((nI 97) + a1) → Q (nI 0) σ14) ∧ (r13 = ((nI 97) + a1) → Q (nI 1) σ14)))))))))))))))))))))))))))))))))))))
set_option maxHeartbeats 4000000 in
set_option maxRecDepth 100000 in
theorem c_X6_holds (l : Launch) (D : va_G) (cy : Nat → ClassId) (ad : Nat → Nat) (b0 : Nat) (hA : AdOk ad b0) (a0 : Int32) (a1 : Int32) (a2 : Int32) (a3 : Int32) : Cti l D cy ad b0 yX6_holds cX6_holds 9 (some .boolean) rm_X6_holds [.ref (ad 2), .int a0, .int a1, .int a2, .int a3] (fun σ Q => wp_X6_holds a0 a1 a2 a3 σ Q) := by
  intro σ Q h
  refine g_enter hA rfl (Nat.le_of_ble_eq_true rfl) [some (.ref (ad 2)), some (.int a0), some (.int a1), some (.int a2), some (.int a3), none, none, none, none] rfl ?_
  intro p e s m args below meth c C
  refine g_iload C dX6_holds_0 rfl ?_
  refine g_i2l C dX6_holds_2 ?_
  refine g_aload_n C dX6_holds_3 rfl ?_
  refine fget_2_1_X6_15 C rfl dX6_holds_4 ?_
  refine g_iload_n C dX6_holds_7 rfl ?_
  refine g_callNi C [.ref (ad 14), .int a0] (c_X8_pick l D cy ad b0 C.A 14 a0 (by decide)) cal_X8_pick nw_3 rfl ⟨Nat.le_of_ble_eq_true rfl, Nat.le_of_ble_eq_true rfl⟩ ⟨rfl, rfl⟩ ⟨Nat.zero_le _, Nat.zero_le _⟩ (Nat.le_of_ble_eq_true rfl) rfl dX6_holds_8 h (fun r1 σ2 h => ?_)
  refine g_callNi C [.long (Int32.toInt64 a3), .int r1] (c_X8_hasBit l D cy ad b0 C.A (Int32.toInt64 a3) r1) cal_X8_hasBit nw_5 rfl ⟨Nat.le_of_ble_eq_true rfl, Nat.le_of_ble_eq_true rfl⟩ ⟨rfl, rfl⟩ ⟨Nat.zero_le _, Nat.zero_le _⟩ (Nat.le_of_ble_eq_true rfl) rfl dX6_holds_11 h (fun r3 σ4 h => ?_)
  refine g_istore C [some (.ref (ad 2)), some (.int a0), some (.int a1), some (.int a2), some (.int a3), some (.int r3), none, none, none] dX6_holds_14 (by decide) rfl ?_
  refine g_iload C dX6_holds_16 rfl ?_
  refine g_i2l C dX6_holds_18 ?_
  refine g_aload_n C dX6_holds_19 rfl ?_
  refine fget_2_2_X6_18 C rfl dX6_holds_20 ?_
  refine g_iload_n C dX6_holds_23 rfl ?_
  refine g_callNi C [.ref (ad 15), .int a0] (c_X8_pick l D cy ad b0 C.A 15 a0 (by decide)) cal_X8_pick nw_3 rfl ⟨Nat.le_of_ble_eq_true rfl, Nat.le_of_ble_eq_true rfl⟩ ⟨rfl, rfl⟩ ⟨Nat.zero_le _, Nat.zero_le _⟩ (Nat.le_of_ble_eq_true rfl) rfl dX6_holds_24 h (fun r5 σ6 h => ?_)
  refine g_callNi C [.long (Int32.toInt64 a3), .int r5] (c_X8_hasBit l D cy ad b0 C.A (Int32.toInt64 a3) r5) cal_X8_hasBit nw_5 rfl ⟨Nat.le_of_ble_eq_true rfl, Nat.le_of_ble_eq_true rfl⟩ ⟨rfl, rfl⟩ ⟨Nat.zero_le _, Nat.zero_le _⟩ (Nat.le_of_ble_eq_true rfl) rfl dX6_holds_27 h (fun r7 σ8 h => ?_)
  refine g_istore C [some (.ref (ad 2)), some (.int a0), some (.int a1), some (.int a2), some (.int a3), some (.int r3), some (.int r7), none, none] dX6_holds_30 (by decide) rfl ?_
  refine g_iload_n C dX6_holds_32 rfl ?_
  refine g_i2l C dX6_holds_33 ?_
  refine g_aload_n C dX6_holds_34 rfl ?_
  refine fget_2_4_X6_24 C rfl dX6_holds_35 ?_
  refine g_iload_n C dX6_holds_38 rfl ?_
  refine g_callNi C [.ref (ad 17), .int a0] (c_X8_pick l D cy ad b0 C.A 17 a0 (by decide)) cal_X8_pick nw_3 rfl ⟨Nat.le_of_ble_eq_true rfl, Nat.le_of_ble_eq_true rfl⟩ ⟨rfl, rfl⟩ ⟨Nat.zero_le _, Nat.zero_le _⟩ (Nat.le_of_ble_eq_true rfl) rfl dX6_holds_39 h (fun r9 σ10 h => ?_)
  refine g_callNi C [.long (Int32.toInt64 a2), .int r9] (c_X8_hasBit l D cy ad b0 C.A (Int32.toInt64 a2) r9) cal_X8_hasBit nw_5 rfl ⟨Nat.le_of_ble_eq_true rfl, Nat.le_of_ble_eq_true rfl⟩ ⟨rfl, rfl⟩ ⟨Nat.zero_le _, Nat.zero_le _⟩ (Nat.le_of_ble_eq_true rfl) rfl dX6_holds_42 h (fun r11 σ12 h => ?_)
  refine g_istore C [some (.ref (ad 2)), some (.int a0), some (.int a1), some (.int a2), some (.int a3), some (.int r3), some (.int r7), some (.int r11), none] dX6_holds_45 (by decide) rfl ?_
  refine g_aload_n C dX6_holds_47 rfl ?_
  refine fget_2_0_X6_9 C rfl dX6_holds_48 ?_
  refine g_iload_n C dX6_holds_51 rfl ?_
  refine g_callNi C [.ref (ad 13), .int a0] (c_X8_pick l D cy ad b0 C.A 13 a0 (by decide)) cal_X8_pick nw_3 rfl ⟨Nat.le_of_ble_eq_true rfl, Nat.le_of_ble_eq_true rfl⟩ ⟨rfl, rfl⟩ ⟨Nat.zero_le _, Nat.zero_le _⟩ (Nat.le_of_ble_eq_true rfl) rfl dX6_holds_52 h (fun r13 σ14 h => ?_)
  refine g_istore C [some (.ref (ad 2)), some (.int a0), some (.int a1), some (.int a2), some (.int a3), some (.int r3), some (.int r7), some (.int r11), some (.int r13)] dX6_holds_55 (by decide) rfl ?_
  refine g_iload C dX6_holds_57 rfl ?_
  refine dite_case (r13 = (nI 33)) (fun c59_33 => ?_) (fun c59_33 => ?_)
  · have h := h.1 c59_33
    refine g_tsw C 302 (off := 243) dX6_holds_59 (tsel_at c59_33 (by decide)) (by decide) ?_
    refine g_iload C dX6_holds_302 rfl ?_
    refine g_if_ne C 311 dX6_holds_304 (by decide) (fun c304 => ?_) (fun c304 => ?_)
    · have h := h.1 c304
      refine g_iconst C dX6_holds_311 kc_0 ?_
      exact g_zret C (narrow_bl bl_0) dX6_holds_312 h
    · have h := h.2 c304
      refine g_iconst C dX6_holds_307 kc_1 ?_
      refine g_goto C 312 dX6_holds_308 (by decide) ?_
      exact g_zret C (narrow_bl bl_1) dX6_holds_312 h
  · have h := h.2 c59_33
    refine dite_case (r13 = (nI 38)) (fun c59_38 => ?_) (fun c59_38 => ?_)
    · have h := h.1 c59_38
      refine g_tsw C 313 (off := 254) dX6_holds_59 (tsel_at c59_38 (by decide)) (by decide) ?_
      refine g_iload C dX6_holds_313 rfl ?_
      refine g_if_eq C 327 dX6_holds_315 (by decide) (fun c315 => ?_) (fun c315 => ?_)
      · have h := h.1 c315
        refine g_iconst C dX6_holds_327 kc_0 ?_
        exact g_zret C (narrow_bl bl_0) dX6_holds_328 h
      · have h := h.2 c315
        refine g_iload C dX6_holds_318 rfl ?_
        refine g_if_eq C 327 dX6_holds_320 (by decide) (fun c320 => ?_) (fun c320 => ?_)
        · have h := h.1 c320
          refine g_iconst C dX6_holds_327 kc_0 ?_
          exact g_zret C (narrow_bl bl_0) dX6_holds_328 h
        · have h := h.2 c320
          refine g_iconst C dX6_holds_323 kc_1 ?_
          refine g_goto C 328 dX6_holds_324 (by decide) ?_
          exact g_zret C (narrow_bl bl_1) dX6_holds_328 h
    · have h := h.2 c59_38
      refine dite_case (r13 = (nI 46)) (fun c59_46 => ?_) (fun c59_46 => ?_)
      · have h := h.1 c59_46
        refine g_tsw C 300 (off := 241) dX6_holds_59 (tsel_at c59_46 (by decide)) (by decide) ?_
        refine g_iconst C dX6_holds_300 kc_1 ?_
        exact g_zret C (narrow_bl bl_1) dX6_holds_301 h
      · have h := h.2 c59_46
        refine dite_case (r13 = (nI 47)) (fun c59_47 => ?_) (fun c59_47 => ?_)
        · have h := h.1 c59_47
          refine g_tsw C 329 (off := 270) dX6_holds_59 (tsel_at c59_47 (by decide)) (by decide) ?_
          refine g_iload C dX6_holds_329 rfl ?_
          refine g_if_ne C 339 dX6_holds_331 (by decide) (fun c331 => ?_) (fun c331 => ?_)
          · have h := h.1 c331
            refine g_mask [false, false, false, false, false, false, false, false, false] rfl ?_
            exact k_X6_holds_339 C σ14 h
          · have h := h.2 c331
            refine g_iload C dX6_holds_334 rfl ?_
            refine g_if_eq C 343 dX6_holds_336 (by decide) (fun c336 => ?_) (fun c336 => ?_)
            · have h := h.1 c336
              refine g_iconst C dX6_holds_343 kc_0 ?_
              exact g_zret C (narrow_bl bl_0) dX6_holds_344 h
            · have h := h.2 c336
              refine g_mask [false, false, false, false, false, false, false, false, false] rfl ?_
              exact k_X6_holds_339 C σ14 h
        · have h := h.2 c59_47
          refine dite_case (r13 = (nI 62)) (fun c59_62 => ?_) (fun c59_62 => ?_)
          · have h := h.1 c59_62
            refine g_tsw C 345 (off := 286) dX6_holds_59 (tsel_at c59_62 (by decide)) (by decide) ?_
            refine g_iload C dX6_holds_345 rfl ?_
            refine g_if_eq C 355 dX6_holds_347 (by decide) (fun c347 => ?_) (fun c347 => ?_)
            · have h := h.1 c347
              refine g_mask [false, false, false, false, false, false, false, false, false] rfl ?_
              exact k_X6_holds_355 C σ14 h
            · have h := h.2 c347
              refine g_iload C dX6_holds_350 rfl ?_
              refine g_if_eq C 359 dX6_holds_352 (by decide) (fun c352 => ?_) (fun c352 => ?_)
              · have h := h.1 c352
                refine g_iconst C dX6_holds_359 kc_0 ?_
                exact g_zret C (narrow_bl bl_0) dX6_holds_360 h
              · have h := h.2 c352
                refine g_mask [false, false, false, false, false, false, false, false, false] rfl ?_
                exact k_X6_holds_355 C σ14 h
          · have h := h.2 c59_62
            refine dite_case (r13 = (nI 70)) (fun c59_70 => ?_) (fun c59_70 => ?_)
            · have h := h.1 c59_70
              refine g_tsw C 380 (off := 321) dX6_holds_59 (tsel_at c59_70 (by decide)) (by decide) ?_
              refine g_iload C dX6_holds_380 rfl ?_
              refine g_if_ne C 390 dX6_holds_382 (by decide) (fun c382 => ?_) (fun c382 => ?_)
              · have h := h.1 c382
                refine g_mask [false, false, false, false, false, false, false, false, false] rfl ?_
                exact k_X6_holds_390 C σ14 h
              · have h := h.2 c382
                refine g_iload C dX6_holds_385 rfl ?_
                refine g_if_eq C 394 dX6_holds_387 (by decide) (fun c387 => ?_) (fun c387 => ?_)
                · have h := h.1 c387
                  refine g_iconst C dX6_holds_394 kc_0 ?_
                  exact g_zret C (narrow_bl bl_0) dX6_holds_395 h
                · have h := h.2 c387
                  refine g_mask [false, false, false, false, false, false, false, false, false] rfl ?_
                  exact k_X6_holds_390 C σ14 h
            · have h := h.2 c59_70
              refine dite_case (r13 = (nI 71)) (fun c59_71 => ?_) (fun c59_71 => ?_)
              · have h := h.1 c59_71
                refine g_tsw C 364 (off := 305) dX6_holds_59 (tsel_at c59_71 (by decide)) (by decide) ?_
                refine g_iload C dX6_holds_364 rfl ?_
                refine g_if_eq C 378 dX6_holds_366 (by decide) (fun c366 => ?_) (fun c366 => ?_)
                · have h := h.1 c366
                  refine g_iconst C dX6_holds_378 kc_0 ?_
                  exact g_zret C (narrow_bl bl_0) dX6_holds_379 h
                · have h := h.2 c366
                  refine g_iload C dX6_holds_369 rfl ?_
                  refine g_if_eq C 378 dX6_holds_371 (by decide) (fun c371 => ?_) (fun c371 => ?_)
                  · have h := h.1 c371
                    refine g_iconst C dX6_holds_378 kc_0 ?_
                    exact g_zret C (narrow_bl bl_0) dX6_holds_379 h
                  · have h := h.2 c371
                    refine g_iconst C dX6_holds_374 kc_1 ?_
                    refine g_goto C 379 dX6_holds_375 (by decide) ?_
                    exact g_zret C (narrow_bl bl_1) dX6_holds_379 h
              · have h := h.2 c59_71
                refine dite_case (r13 = (nI 72)) (fun c59_72 => ?_) (fun c59_72 => ?_)
                · have h := h.1 c59_72
                  refine g_tsw C 364 (off := 305) dX6_holds_59 (tsel_at c59_72 (by decide)) (by decide) ?_
                  refine g_iload C dX6_holds_364 rfl ?_
                  refine g_if_eq C 378 dX6_holds_366 (by decide) (fun c366 => ?_) (fun c366 => ?_)
                  · have h := h.1 c366
                    refine g_iconst C dX6_holds_378 kc_0 ?_
                    exact g_zret C (narrow_bl bl_0) dX6_holds_379 h
                  · have h := h.2 c366
                    refine g_iload C dX6_holds_369 rfl ?_
                    refine g_if_eq C 378 dX6_holds_371 (by decide) (fun c371 => ?_) (fun c371 => ?_)
                    · have h := h.1 c371
                      refine g_iconst C dX6_holds_378 kc_0 ?_
                      exact g_zret C (narrow_bl bl_0) dX6_holds_379 h
                    · have h := h.2 c371
                      refine g_iconst C dX6_holds_374 kc_1 ?_
                      refine g_goto C 379 dX6_holds_375 (by decide) ?_
                      exact g_zret C (narrow_bl bl_1) dX6_holds_379 h
                · have h := h.2 c59_72
                  refine dite_case (r13 = (nI 78)) (fun c59_78 => ?_) (fun c59_78 => ?_)
                  · have h := h.1 c59_78
                    refine g_tsw C 361 (off := 302) dX6_holds_59 (tsel_at c59_78 (by decide)) (by decide) ?_
                    refine g_iload C dX6_holds_361 rfl ?_
                    exact g_zret C (narrow_bl h.1) dX6_holds_363 h.2
                  · have h := h.2 c59_78
                    refine dite_case (r13 = (nI 79)) (fun c59_79 => ?_) (fun c59_79 => ?_)
                    · have h := h.1 c59_79
                      refine g_tsw C 380 (off := 321) dX6_holds_59 (tsel_at c59_79 (by decide)) (by decide) ?_
                      refine g_iload C dX6_holds_380 rfl ?_
                      refine g_if_ne C 390 dX6_holds_382 (by decide) (fun c382 => ?_) (fun c382 => ?_)
                      · have h := h.1 c382
                        refine g_mask [false, false, false, false, false, false, false, false, false] rfl ?_
                        exact k_X6_holds_390 C σ14 h
                      · have h := h.2 c382
                        refine g_iload C dX6_holds_385 rfl ?_
                        refine g_if_eq C 394 dX6_holds_387 (by decide) (fun c387 => ?_) (fun c387 => ?_)
                        · have h := h.1 c387
                          refine g_iconst C dX6_holds_394 kc_0 ?_
                          exact g_zret C (narrow_bl bl_0) dX6_holds_395 h
                        · have h := h.2 c387
                          refine g_mask [false, false, false, false, false, false, false, false, false] rfl ?_
                          exact k_X6_holds_390 C σ14 h
                    · have h := h.2 c59_79
                      refine dite_case (r13 = (nI 83)) (fun c59_83 => ?_) (fun c59_83 => ?_)
                      · have h := h.1 c59_83
                        refine g_tsw C 396 (off := 337) dX6_holds_59 (tsel_at c59_83 (by decide)) (by decide) ?_
                        refine g_iload C dX6_holds_396 rfl ?_
                        refine g_if_ne C 411 dX6_holds_398 (by decide) (fun c398 => ?_) (fun c398 => ?_)
                        · have h := h.1 c398
                          refine g_mask [false, false, false, false, false, false, false, false, false] rfl ?_
                          exact k_X6_holds_411 C σ14 h
                        · have h := h.2 c398
                          refine g_iload C dX6_holds_401 rfl ?_
                          refine g_if_eq C 415 dX6_holds_403 (by decide) (fun c403 => ?_) (fun c403 => ?_)
                          · have h := h.1 c403
                            refine g_iconst C dX6_holds_415 kc_0 ?_
                            exact g_zret C (narrow_bl bl_0) dX6_holds_416 h
                          · have h := h.2 c403
                            refine g_iload C dX6_holds_406 rfl ?_
                            refine g_if_eq C 415 dX6_holds_408 (by decide) (fun c408 => ?_) (fun c408 => ?_)
                            · have h := h.1 c408
                              refine g_iconst C dX6_holds_415 kc_0 ?_
                              exact g_zret C (narrow_bl bl_0) dX6_holds_416 h
                            · have h := h.2 c408
                              refine g_mask [false, false, false, false, false, false, false, false, false] rfl ?_
                              exact k_X6_holds_411 C σ14 h
                      · have h := h.2 c59_83
                        refine dite_case (r13 = (nI 85)) (fun c59_85 => ?_) (fun c59_85 => ?_)
                        · have h := h.1 c59_85
                          refine g_tsw C 396 (off := 337) dX6_holds_59 (tsel_at c59_85 (by decide)) (by decide) ?_
                          refine g_iload C dX6_holds_396 rfl ?_
                          refine g_if_ne C 411 dX6_holds_398 (by decide) (fun c398 => ?_) (fun c398 => ?_)
                          · have h := h.1 c398
                            refine g_mask [false, false, false, false, false, false, false, false, false] rfl ?_
                            exact k_X6_holds_411 C σ14 h
                          · have h := h.2 c398
                            refine g_iload C dX6_holds_401 rfl ?_
                            refine g_if_eq C 415 dX6_holds_403 (by decide) (fun c403 => ?_) (fun c403 => ?_)
                            · have h := h.1 c403
                              refine g_iconst C dX6_holds_415 kc_0 ?_
                              exact g_zret C (narrow_bl bl_0) dX6_holds_416 h
                            · have h := h.2 c403
                              refine g_iload C dX6_holds_406 rfl ?_
                              refine g_if_eq C 415 dX6_holds_408 (by decide) (fun c408 => ?_) (fun c408 => ?_)
                              · have h := h.1 c408
                                refine g_iconst C dX6_holds_415 kc_0 ?_
                                exact g_zret C (narrow_bl bl_0) dX6_holds_416 h
                              · have h := h.2 c408
                                refine g_mask [false, false, false, false, false, false, false, false, false] rfl ?_
                                exact k_X6_holds_411 C σ14 h
                        · have h := h.2 c59_85
                          refine dite_case (r13 = (nI 87)) (fun c59_87 => ?_) (fun c59_87 => ?_)
                          · have h := h.1 c59_87
                            refine g_tsw C 361 (off := 302) dX6_holds_59 (tsel_at c59_87 (by decide)) (by decide) ?_
                            refine g_iload C dX6_holds_361 rfl ?_
                            exact g_zret C (narrow_bl h.1) dX6_holds_363 h.2
                          · have h := h.2 c59_87
                            refine dite_case (r13 = (nI 89)) (fun c59_89 => ?_) (fun c59_89 => ?_)
                            · have h := h.1 c59_89
                              refine g_tsw C 361 (off := 302) dX6_holds_59 (tsel_at c59_89 (by decide)) (by decide) ?_
                              refine g_iload C dX6_holds_361 rfl ?_
                              exact g_zret C (narrow_bl h.1) dX6_holds_363 h.2
                            · have h := h.2 c59_89
                              refine g_tsw C 417 (off := 358) dX6_holds_59 (tsel_df [33, 38, 46, 47, 62, 70, 71, 72, 78, 79, 83, 85, 87, 89] (by decide) (by decide) (List.forall_mem_cons.mpr ⟨lv_neT c59_33 (by decide), List.forall_mem_cons.mpr ⟨lv_neT c59_38 (by decide), List.forall_mem_cons.mpr ⟨lv_neT c59_46 (by decide), List.forall_mem_cons.mpr ⟨lv_neT c59_47 (by decide), List.forall_mem_cons.mpr ⟨lv_neT c59_62 (by decide), List.forall_mem_cons.mpr ⟨lv_neT c59_70 (by decide), List.forall_mem_cons.mpr ⟨lv_neT c59_71 (by decide), List.forall_mem_cons.mpr ⟨lv_neT c59_72 (by decide), List.forall_mem_cons.mpr ⟨lv_neT c59_78 (by decide), List.forall_mem_cons.mpr ⟨lv_neT c59_79 (by decide), List.forall_mem_cons.mpr ⟨lv_neT c59_83 (by decide), List.forall_mem_cons.mpr ⟨lv_neT c59_85 (by decide), List.forall_mem_cons.mpr ⟨lv_neT c59_87 (by decide), List.forall_mem_cons.mpr ⟨lv_neT c59_89 (by decide), fun _ h => absurd h List.not_mem_nil⟩⟩⟩⟩⟩⟩⟩⟩⟩⟩⟩⟩⟩⟩)) (by decide) ?_
                              refine g_iload C dX6_holds_417 rfl ?_
                              refine g_bipush C dX6_holds_419 kb_97 ?_
                              refine g_iload_n C dX6_holds_421 rfl ?_
                              refine g_iadd C dX6_holds_422 ?_
                              refine g_icmp_ne C 430 dX6_holds_423 (by decide) (fun c423 => ?_) (fun c423 => ?_)
                              · have h := h.1 c423
                                refine g_iconst C dX6_holds_430 kc_0 ?_
                                exact g_zret C (narrow_bl bl_0) dX6_holds_431 h
                              · have h := h.2 c423
                                refine g_iconst C dX6_holds_426 kc_1 ?_
                                refine g_goto C 431 dX6_holds_427 (by decide) ?_
                                exact g_zret C (narrow_bl bl_1) dX6_holds_431 h
def rm_X6_valuesAt : Room := { frames := 2, cells := 0, slots := 0, locals := 50 }
def wp_X6_valuesAt_33 (v1 : Int32) (v2 : Int32) (v3 : Int32) (v4 : Int32) (K5 : Int32 → Int32 → Sg → Prop) (Q : Int32 → Sg → Prop) (σ : Sg) : Prop :=
  ∀ x33 : Int32, x33 = v4 + (nI 1) → (K5 v3 x33 σ)
set_option maxHeartbeats 4000000 in
set_option maxRecDepth 100000 in
theorem k_X6_valuesAt_33 {Q : Int32 → Sg → Prop} (C : Cx p s m args meth c D cy ad b0 yX6_valuesAt cX6_valuesAt 5 (some .int)) (v1 : Int32) (v2 : Int32) (v3 : Int32) (v4 : Int32) (K5 : Int32 → Int32 → Sg → Prop) (hK5 : ∀ (z3 : Int32) (z4 : Int32) (σ : Sg), K5 z3 z4 σ → gI p l e rm_X6_valuesAt s m args below meth c D cy ad b0 Q 5 5 σ [some (.ref (ad 2)), some (.int v1), some (.int v2), some (.int z3), some (.int z4)] []) (σ : Sg) (h : wp_X6_valuesAt_33 v1 v2 v3 v4 K5 Q σ) : gI p l e rm_X6_valuesAt s m args below meth c D cy ad b0 Q 5 33 σ [some (.ref (ad 2)), some (.int v1), some (.int v2), some (.int v3), some (.int v4)] [] := by
  obtain ⟨x33, e_x33⟩ : ∃ v : Int32, v = v4 + (nI 1) := ⟨_, rfl⟩
  have h := h x33 e_x33
  refine g_iinc C [some (.ref (ad 2)), some (.int v1), some (.int v2), some (.int v3), some (.int x33)] dX6_valuesAt_33 rfl e_x33.symm (by decide) rfl ?_
  refine g_goto C 5 dX6_valuesAt_36 (by decide) ?_
  exact hK5 v3 x33 σ h
def wb_X6_valuesAt_5 (v1 : Int32) (v2 : Int32) (v3 : Int32) (v4 : Int32) (K5 : Int32 → Int32 → Sg → Prop) (Q : Int32 → Sg → Prop) (σ : Sg) : Prop :=
  (((gF σ 2 6) ≤ v4 → Q v3 σ) ∧ (¬ (gF σ 2 6) ≤ v4 → wp_X6_holds v4 v1 v2 v3 σ (fun r1 σ2 => ((r1 = (nI 0) → wp_X6_valuesAt_33 v1 v2 v3 v4 K5 Q σ2) ∧ (¬ r1 = (nI 0) → ∀ x32 : Int32, x32 = (v3 ||| ((nI 1) <<< (v4 &&& 31))) → (wp_X6_valuesAt_33 v1 v2 x32 v4 K5 Q σ2))))))
set_option maxHeartbeats 4000000 in
set_option maxRecDepth 100000 in
theorem kb_X6_valuesAt_5 {Q : Int32 → Sg → Prop} (C : Cx p s m args meth c D cy ad b0 yX6_valuesAt cX6_valuesAt 5 (some .int)) (v1 : Int32) (v2 : Int32) (v3 : Int32) (v4 : Int32) (K5 : Int32 → Int32 → Sg → Prop) (hK5 : ∀ (z3 : Int32) (z4 : Int32) (σ : Sg), K5 z3 z4 σ → gI p l e rm_X6_valuesAt s m args below meth c D cy ad b0 Q 5 5 σ [some (.ref (ad 2)), some (.int v1), some (.int v2), some (.int z3), some (.int z4)] []) (σ : Sg) (h : wb_X6_valuesAt_5 v1 v2 v3 v4 K5 Q σ) : gI p l e rm_X6_valuesAt s m args below meth c D cy ad b0 Q 5 5 σ [some (.ref (ad 2)), some (.int v1), some (.int v2), some (.int v3), some (.int v4)] [] := by
  refine g_iload C dX6_valuesAt_5 rfl ?_
  refine g_aload_n C dX6_valuesAt_7 rfl ?_
  refine fget_2_6_X6_31 C rfl dX6_valuesAt_8 ?_
  refine g_icmp_ge C 39 dX6_valuesAt_11 (by decide) (fun c11 => ?_) (fun c11 => ?_)
  · have h := h.1 c11
    refine g_iload_n C dX6_valuesAt_39 rfl ?_
    exact g_iret C dX6_valuesAt_40 h
  · have h := h.2 c11
    refine g_aload_n C dX6_valuesAt_14 rfl ?_
    refine g_iload C dX6_valuesAt_15 rfl ?_
    refine g_iload_n C dX6_valuesAt_17 rfl ?_
    refine g_iload_n C dX6_valuesAt_18 rfl ?_
    refine g_iload_n C dX6_valuesAt_19 rfl ?_
    refine g_callVi C 2 [.int v4, .int v1, .int v2, .int v3] (c_X6_holds l D cy ad b0 C.A v4 v1 v2 v3) cal_X6_holds mw_331 (by decide) rfl rfl ⟨Nat.le_of_ble_eq_true rfl, Nat.le_of_ble_eq_true rfl⟩ ⟨rfl, rfl⟩ ⟨Nat.zero_le _, Nat.zero_le _⟩ (Nat.le_of_ble_eq_true rfl) rfl dX6_valuesAt_20 h (fun r1 σ2 h => ?_)
    refine g_if_eq C 33 dX6_valuesAt_23 (by decide) (fun c23 => ?_) (fun c23 => ?_)
    · have h := h.1 c23
      exact k_X6_valuesAt_33 C v1 v2 v3 v4 K5 hK5 σ2 h
    · have h := h.2 c23
      refine g_iload_n C dX6_valuesAt_26 rfl ?_
      refine g_iconst C dX6_valuesAt_27 kc_1 ?_
      refine g_iload C dX6_valuesAt_28 rfl ?_
      refine g_ishl C dX6_valuesAt_30 ?_
      refine g_ior C dX6_valuesAt_31 ?_
      refine g_topi (fun x32 e_x32 => ?_)
      have h := h x32 e_x32
      refine g_istore_n C [some (.ref (ad 2)), some (.int v1), some (.int v2), some (.int x32), some (.int v4)] dX6_valuesAt_32 (by decide) rfl ?_
      exact k_X6_valuesAt_33 C v1 v2 x32 v4 K5 hK5 σ2 h
def wl_X6_valuesAt_5 (v1 : Int32) (v2 : Int32) (Q : Int32 → Sg → Prop) : Nat → Int32 → Int32 → Sg → Prop
  | 0, _, _, _ => False
  | n + 1, v3, v4, σ => wb_X6_valuesAt_5 v1 v2 v3 v4 (wl_X6_valuesAt_5 v1 v2 Q n) Q σ
set_option maxHeartbeats 4000000 in
set_option maxRecDepth 100000 in
theorem kl_X6_valuesAt_5 {Q : Int32 → Sg → Prop} (C : Cx p s m args meth c D cy ad b0 yX6_valuesAt cX6_valuesAt 5 (some .int)) (v1 : Int32) (v2 : Int32) : ∀ (n : Nat) (v3 : Int32) (v4 : Int32) (σ : Sg), wl_X6_valuesAt_5 v1 v2 Q n v3 v4 σ → gI p l e rm_X6_valuesAt s m args below meth c D cy ad b0 Q 5 5 σ [some (.ref (ad 2)), some (.int v1), some (.int v2), some (.int v3), some (.int v4)] [] := by
  intro n
  induction n with
  | zero => intro v3 v4 σ h; exact False.elim h
  | succ n ih =>
    intro v3 v4 σ h
    exact kb_X6_valuesAt_5 C v1 v2 v3 v4 (wl_X6_valuesAt_5 v1 v2 Q n) (fun z3 z4 σ h => ih z3 z4 σ h) σ h
def wp_X6_valuesAt (a0 : Int32) (a1 : Int32) (σ : Sg) (Q : Int32 → Sg → Prop) : Prop :=
  ∃ n, wl_X6_valuesAt_5 a0 a1 Q n (nI 0) (nI 0) σ
set_option maxHeartbeats 4000000 in
set_option maxRecDepth 100000 in
theorem c_X6_valuesAt (l : Launch) (D : va_G) (cy : Nat → ClassId) (ad : Nat → Nat) (b0 : Nat) (hA : AdOk ad b0) (a0 : Int32) (a1 : Int32) : Cti l D cy ad b0 yX6_valuesAt cX6_valuesAt 5 (some .int) rm_X6_valuesAt [.ref (ad 2), .int a0, .int a1] (fun σ Q => wp_X6_valuesAt a0 a1 σ Q) := by
  intro σ Q h
  refine g_enter hA rfl (Nat.le_of_ble_eq_true rfl) [some (.ref (ad 2)), some (.int a0), some (.int a1), none, none] rfl ?_
  intro p e s m args below meth c C
  refine g_iconst C dX6_valuesAt_0 kc_0 ?_
  refine g_istore_n C [some (.ref (ad 2)), some (.int a0), some (.int a1), some (.int (nI 0)), none] dX6_valuesAt_1 (by decide) rfl ?_
  refine g_iconst C dX6_valuesAt_2 kc_0 ?_
  refine g_istore C [some (.ref (ad 2)), some (.int a0), some (.int a1), some (.int (nI 0)), some (.int (nI 0))] dX6_valuesAt_3 (by decide) rfl ?_
  obtain ⟨n, h⟩ := h
  exact kl_X6_valuesAt_5 C a0 a1 n (nI 0) (nI 0) σ h
def rm_X6_bitsBeside : Room := { frames := 1, cells := 0, slots := 0, locals := 22 }
def wp_X6_bitsBeside_108 (v1 : Int32) (v2 : Int32) (v3 : Int32) (K4 : Int32 → Int32 → Sg → Prop) (Q : Int32 → Sg → Prop) (σ : Sg) : Prop :=
  ∀ x108 : Int32, x108 = v3 + (nI 1) → (K4 v2 x108 σ)
set_option maxHeartbeats 4000000 in
set_option maxRecDepth 100000 in
theorem k_X6_bitsBeside_108 {Q : Int32 → Sg → Prop} (C : Cx p s m args meth c D cy ad b0 yX6_bitsBeside cX6_bitsBeside 7 (some .int)) (v1 : Int32) (v2 : Int32) (v3 : Int32) (K4 : Int32 → Int32 → Sg → Prop) (hK4 : ∀ (z2 : Int32) (z3 : Int32) (σ : Sg), K4 z2 z3 σ → gI p l e rm_X6_bitsBeside s m args below meth c D cy ad b0 Q 7 4 σ [some (.ref (ad 2)), some (.int v1), some (.int z2), some (.int z3), none, none, none] []) (σ : Sg) (h : wp_X6_bitsBeside_108 v1 v2 v3 K4 Q σ) : gI p l e rm_X6_bitsBeside s m args below meth c D cy ad b0 Q 7 108 σ [some (.ref (ad 2)), some (.int v1), some (.int v2), some (.int v3), none, none, none] [] := by
  obtain ⟨x108, e_x108⟩ : ∃ v : Int32, v = v3 + (nI 1) := ⟨_, rfl⟩
  have h := h x108 e_x108
  refine g_iinc C [some (.ref (ad 2)), some (.int v1), some (.int v2), some (.int x108), none, none, none] dX6_bitsBeside_108 rfl e_x108.symm (by decide) rfl ?_
  refine g_goto C 4 dX6_bitsBeside_111 (by decide) ?_
  exact hK4 v2 x108 σ h
def wp_X6_bitsBeside_95 (v1 : Int32) (v2 : Int32) (v3 : Int32) (K4 : Int32 → Int32 → Sg → Prop) (Q : Int32 → Sg → Prop) (σ : Sg) : Prop :=
  wp_X8_pick 17 v3 σ (fun r1 σ2 => ∀ x107 : Int32, x107 = (v2 ||| ((nI 1) <<< (r1 &&& 31))) → (wp_X6_bitsBeside_108 v1 x107 v3 K4 Q σ2))
set_option maxHeartbeats 4000000 in
set_option maxRecDepth 100000 in
theorem k_X6_bitsBeside_95 {Q : Int32 → Sg → Prop} (C : Cx p s m args meth c D cy ad b0 yX6_bitsBeside cX6_bitsBeside 7 (some .int)) (v1 : Int32) (v2 : Int32) (v3 : Int32) (K4 : Int32 → Int32 → Sg → Prop) (hK4 : ∀ (z2 : Int32) (z3 : Int32) (σ : Sg), K4 z2 z3 σ → gI p l e rm_X6_bitsBeside s m args below meth c D cy ad b0 Q 7 4 σ [some (.ref (ad 2)), some (.int v1), some (.int z2), some (.int z3), none, none, none] []) (σ : Sg) (h : wp_X6_bitsBeside_95 v1 v2 v3 K4 Q σ) : gI p l e rm_X6_bitsBeside s m args below meth c D cy ad b0 Q 7 95 σ [some (.ref (ad 2)), some (.int v1), some (.int v2), some (.int v3), none, none, none] [] := by
  refine g_iload_n C dX6_bitsBeside_95 rfl ?_
  refine g_iconst C dX6_bitsBeside_96 kc_1 ?_
  refine g_aload_n C dX6_bitsBeside_97 rfl ?_
  refine fget_2_4_X6_24 C rfl dX6_bitsBeside_98 ?_
  refine g_iload_n C dX6_bitsBeside_101 rfl ?_
  refine g_callNi C [.ref (ad 17), .int v3] (c_X8_pick l D cy ad b0 C.A 17 v3 (by decide)) cal_X8_pick nw_3 rfl ⟨Nat.le_of_ble_eq_true rfl, Nat.le_of_ble_eq_true rfl⟩ ⟨rfl, rfl⟩ ⟨Nat.zero_le _, Nat.zero_le _⟩ (Nat.le_of_ble_eq_true rfl) rfl dX6_bitsBeside_102 h (fun r1 σ2 h => ?_)
  refine g_ishl C dX6_bitsBeside_105 ?_
  refine g_ior C dX6_bitsBeside_106 ?_
  refine g_topi (fun x107 e_x107 => ?_)
  have h := h x107 e_x107
  refine g_istore_n C [some (.ref (ad 2)), some (.int v1), some (.int x107), some (.int v3), none, none, none] dX6_bitsBeside_107 (by decide) rfl ?_
  exact k_X6_bitsBeside_108 C v1 x107 v3 K4 hK4 σ2 h
def wp_X6_bitsBeside_69 (v1 : Int32) (v2 : Int32) (v3 : Int32) (v4 : Int32) (s0 : Int32) (s1 : Int64) (K4 : Int32 → Int32 → Sg → Prop) (Q : Int32 → Sg → Prop) (σ : Sg) : Prop :=
  wp_X8_hasBit s1 s0 σ (fun r1 σ2 => ((r1 = (nI 0) → wp_X6_bitsBeside_108 v1 v2 v3 K4 Q σ2) ∧ (¬ r1 = (nI 0) → wp_X6_looksBehind v4 σ2 (fun r3 σ4 => ((¬ r3 = (nI 0) → wp_X6_bitsBeside_95 v1 v2 v3 K4 Q σ4) ∧ (r3 = (nI 0) → wp_X6_looksAhead v4 σ4 (fun r5 σ6 => ((r5 = (nI 0) → wp_X6_bitsBeside_108 v1 v2 v3 K4 Q σ6) ∧ (¬ r5 = (nI 0) → wp_X6_bitsBeside_95 v1 v2 v3 K4 Q σ6)))))))))
set_option maxHeartbeats 4000000 in
set_option maxRecDepth 100000 in
theorem k_X6_bitsBeside_69 {Q : Int32 → Sg → Prop} (C : Cx p s m args meth c D cy ad b0 yX6_bitsBeside cX6_bitsBeside 7 (some .int)) (v1 : Int32) (v2 : Int32) (v3 : Int32) (v4 : Int32) (s0 : Int32) (s1 : Int64) (K4 : Int32 → Int32 → Sg → Prop) (hK4 : ∀ (z2 : Int32) (z3 : Int32) (σ : Sg), K4 z2 z3 σ → gI p l e rm_X6_bitsBeside s m args below meth c D cy ad b0 Q 7 4 σ [some (.ref (ad 2)), some (.int v1), some (.int z2), some (.int z3), none, none, none] []) (σ : Sg) (h : wp_X6_bitsBeside_69 v1 v2 v3 v4 s0 s1 K4 Q σ) : gI p l e rm_X6_bitsBeside s m args below meth c D cy ad b0 Q 7 69 σ [some (.ref (ad 2)), some (.int v1), some (.int v2), some (.int v3), some (.int v4), none, none] [.int s0, .long s1] := by
  refine g_callNi C [.long s1, .int s0] (c_X8_hasBit l D cy ad b0 C.A s1 s0) cal_X8_hasBit nw_5 rfl ⟨Nat.le_of_ble_eq_true rfl, Nat.le_of_ble_eq_true rfl⟩ ⟨rfl, rfl⟩ ⟨Nat.zero_le _, Nat.zero_le _⟩ (Nat.le_of_ble_eq_true rfl) rfl dX6_bitsBeside_69 h (fun r1 σ2 h => ?_)
  refine g_istore C [some (.ref (ad 2)), some (.int v1), some (.int v2), some (.int v3), some (.int v4), none, some (.int r1)] dX6_bitsBeside_72 (by decide) rfl ?_
  refine g_iload C dX6_bitsBeside_74 rfl ?_
  refine g_if_eq C 108 dX6_bitsBeside_76 (by decide) (fun c76 => ?_) (fun c76 => ?_)
  · have h := h.1 c76
    refine g_mask [true, true, true, true, false, false, false] rfl ?_
    exact k_X6_bitsBeside_108 C v1 v2 v3 K4 hK4 σ2 h
  · have h := h.2 c76
    refine g_iload C dX6_bitsBeside_79 rfl ?_
    refine g_callSi C [.int v4] (c_X6_looksBehind l D cy ad b0 C.A v4) cal_X6_looksBehind mw_287 rfl ⟨Nat.le_of_ble_eq_true rfl, Nat.le_of_ble_eq_true rfl⟩ ⟨rfl, rfl⟩ ⟨Nat.zero_le _, Nat.zero_le _⟩ (Nat.le_of_ble_eq_true rfl) rfl dX6_bitsBeside_81 h (fun r3 σ4 h => ?_)
    refine g_if_ne C 95 dX6_bitsBeside_84 (by decide) (fun c84 => ?_) (fun c84 => ?_)
    · have h := h.1 c84
      refine g_mask [true, true, true, true, false, false, false] rfl ?_
      exact k_X6_bitsBeside_95 C v1 v2 v3 K4 hK4 σ4 h
    · have h := h.2 c84
      refine g_iload C dX6_bitsBeside_87 rfl ?_
      refine g_callSi C [.int v4] (c_X6_looksAhead l D cy ad b0 C.A v4) cal_X6_looksAhead mw_286 rfl ⟨Nat.le_of_ble_eq_true rfl, Nat.le_of_ble_eq_true rfl⟩ ⟨rfl, rfl⟩ ⟨Nat.zero_le _, Nat.zero_le _⟩ (Nat.le_of_ble_eq_true rfl) rfl dX6_bitsBeside_89 h (fun r5 σ6 h => ?_)
      refine g_if_eq C 108 dX6_bitsBeside_92 (by decide) (fun c92 => ?_) (fun c92 => ?_)
      · have h := h.1 c92
        refine g_mask [true, true, true, true, false, false, false] rfl ?_
        exact k_X6_bitsBeside_108 C v1 v2 v3 K4 hK4 σ6 h
      · have h := h.2 c92
        refine g_mask [true, true, true, true, false, false, false] rfl ?_
        exact k_X6_bitsBeside_95 C v1 v2 v3 K4 hK4 σ6 h
def wp_X6_bitsBeside_48 (v1 : Int32) (v2 : Int32) (v3 : Int32) (v4 : Int32) (s0 : Int32) (K4 : Int32 → Int32 → Sg → Prop) (Q : Int32 → Sg → Prop) (σ : Sg) : Prop :=
  ((s0 = (nI 0) → wp_X6_bitsBeside_69 v1 v2 v3 v4 v3 (Int32.toInt64 v1) K4 Q σ) ∧ (¬ s0 = (nI 0) → wp_X8_pick 14 v3 σ (fun r1 σ2 => wp_X6_bitsBeside_69 v1 v2 v3 v4 r1 (Int32.toInt64 v1) K4 Q σ2)))
set_option maxHeartbeats 4000000 in
set_option maxRecDepth 100000 in
theorem k_X6_bitsBeside_48 {Q : Int32 → Sg → Prop} (C : Cx p s m args meth c D cy ad b0 yX6_bitsBeside cX6_bitsBeside 7 (some .int)) (v1 : Int32) (v2 : Int32) (v3 : Int32) (v4 : Int32) (s0 : Int32) (K4 : Int32 → Int32 → Sg → Prop) (hK4 : ∀ (z2 : Int32) (z3 : Int32) (σ : Sg), K4 z2 z3 σ → gI p l e rm_X6_bitsBeside s m args below meth c D cy ad b0 Q 7 4 σ [some (.ref (ad 2)), some (.int v1), some (.int z2), some (.int z3), none, none, none] []) (σ : Sg) (h : wp_X6_bitsBeside_48 v1 v2 v3 v4 s0 K4 Q σ) : gI p l e rm_X6_bitsBeside s m args below meth c D cy ad b0 Q 7 48 σ [some (.ref (ad 2)), some (.int v1), some (.int v2), some (.int v3), some (.int v4), none, none] [.int s0] := by
  refine g_istore C [some (.ref (ad 2)), some (.int v1), some (.int v2), some (.int v3), some (.int v4), some (.int s0), none] dX6_bitsBeside_48 (by decide) rfl ?_
  refine g_iload_n C dX6_bitsBeside_50 rfl ?_
  refine g_i2l C dX6_bitsBeside_51 ?_
  refine g_iload C dX6_bitsBeside_52 rfl ?_
  refine g_if_eq C 68 dX6_bitsBeside_54 (by decide) (fun c54 => ?_) (fun c54 => ?_)
  · have h := h.1 c54
    refine g_iload_n C dX6_bitsBeside_68 rfl ?_
    refine g_mask [true, true, true, true, true, false, false] rfl ?_
    exact k_X6_bitsBeside_69 C v1 v2 v3 v4 v3 (Int32.toInt64 v1) K4 hK4 σ h
  · have h := h.2 c54
    refine g_aload_n C dX6_bitsBeside_57 rfl ?_
    refine fget_2_1_X6_15 C rfl dX6_bitsBeside_58 ?_
    refine g_iload_n C dX6_bitsBeside_61 rfl ?_
    refine g_callNi C [.ref (ad 14), .int v3] (c_X8_pick l D cy ad b0 C.A 14 v3 (by decide)) cal_X8_pick nw_3 rfl ⟨Nat.le_of_ble_eq_true rfl, Nat.le_of_ble_eq_true rfl⟩ ⟨rfl, rfl⟩ ⟨Nat.zero_le _, Nat.zero_le _⟩ (Nat.le_of_ble_eq_true rfl) rfl dX6_bitsBeside_62 h (fun r1 σ2 h => ?_)
    refine g_goto C 69 dX6_bitsBeside_65 (by decide) ?_
    refine g_mask [true, true, true, true, true, false, false] rfl ?_
    exact k_X6_bitsBeside_69 C v1 v2 v3 v4 r1 (Int32.toInt64 v1) K4 hK4 σ2 h
def wp_X6_bitsBeside_43 (v1 : Int32) (v2 : Int32) (v3 : Int32) (v4 : Int32) (K4 : Int32 → Int32 → Sg → Prop) (Q : Int32 → Sg → Prop) (σ : Sg) : Prop :=
  wp_X6_bitsBeside_48 v1 v2 v3 v4 (nI 1) K4 Q σ
set_option maxHeartbeats 4000000 in
set_option maxRecDepth 100000 in
theorem k_X6_bitsBeside_43 {Q : Int32 → Sg → Prop} (C : Cx p s m args meth c D cy ad b0 yX6_bitsBeside cX6_bitsBeside 7 (some .int)) (v1 : Int32) (v2 : Int32) (v3 : Int32) (v4 : Int32) (K4 : Int32 → Int32 → Sg → Prop) (hK4 : ∀ (z2 : Int32) (z3 : Int32) (σ : Sg), K4 z2 z3 σ → gI p l e rm_X6_bitsBeside s m args below meth c D cy ad b0 Q 7 4 σ [some (.ref (ad 2)), some (.int v1), some (.int z2), some (.int z3), none, none, none] []) (σ : Sg) (h : wp_X6_bitsBeside_43 v1 v2 v3 v4 K4 Q σ) : gI p l e rm_X6_bitsBeside s m args below meth c D cy ad b0 Q 7 43 σ [some (.ref (ad 2)), some (.int v1), some (.int v2), some (.int v3), some (.int v4), none, none] [] := by
  refine g_iconst C dX6_bitsBeside_43 kc_1 ?_
  refine g_goto C 48 dX6_bitsBeside_44 (by decide) ?_
  exact k_X6_bitsBeside_48 C v1 v2 v3 v4 (nI 1) K4 hK4 σ h
def wb_X6_bitsBeside_4 (v1 : Int32) (v2 : Int32) (v3 : Int32) (K4 : Int32 → Int32 → Sg → Prop) (Q : Int32 → Sg → Prop) (σ : Sg) : Prop :=
  (((gF σ 2 6) ≤ v3 → Q v2 σ) ∧ (¬ (gF σ 2 6) ≤ v3 → wp_X8_pick 13 v3 σ (fun r1 σ2 => ((r1 = (nI 78) → wp_X6_bitsBeside_43 v1 v2 v3 r1 K4 Q σ2) ∧ (¬ r1 = (nI 78) → ((r1 = (nI 87) → wp_X6_bitsBeside_43 v1 v2 v3 r1 K4 Q σ2) ∧ (¬ r1 = (nI 87) → ((¬ r1 = (nI 89) → wp_X6_bitsBeside_48 v1 v2 v3 r1 (nI 0) K4 Q σ2) ∧ (r1 = (nI 89) → wp_X6_bitsBeside_43 v1 v2 v3 r1 K4 Q σ2)))))))))
set_option maxHeartbeats 4000000 in
set_option maxRecDepth 100000 in
theorem kb_X6_bitsBeside_4 {Q : Int32 → Sg → Prop} (C : Cx p s m args meth c D cy ad b0 yX6_bitsBeside cX6_bitsBeside 7 (some .int)) (v1 : Int32) (v2 : Int32) (v3 : Int32) (K4 : Int32 → Int32 → Sg → Prop) (hK4 : ∀ (z2 : Int32) (z3 : Int32) (σ : Sg), K4 z2 z3 σ → gI p l e rm_X6_bitsBeside s m args below meth c D cy ad b0 Q 7 4 σ [some (.ref (ad 2)), some (.int v1), some (.int z2), some (.int z3), none, none, none] []) (σ : Sg) (h : wb_X6_bitsBeside_4 v1 v2 v3 K4 Q σ) : gI p l e rm_X6_bitsBeside s m args below meth c D cy ad b0 Q 7 4 σ [some (.ref (ad 2)), some (.int v1), some (.int v2), some (.int v3), none, none, none] [] := by
  refine g_iload_n C dX6_bitsBeside_4 rfl ?_
  refine g_aload_n C dX6_bitsBeside_5 rfl ?_
  refine fget_2_6_X6_31 C rfl dX6_bitsBeside_6 ?_
  refine g_icmp_ge C 114 dX6_bitsBeside_9 (by decide) (fun c9 => ?_) (fun c9 => ?_)
  · have h := h.1 c9
    refine g_iload_n C dX6_bitsBeside_114 rfl ?_
    exact g_iret C dX6_bitsBeside_115 h
  · have h := h.2 c9
    refine g_aload_n C dX6_bitsBeside_12 rfl ?_
    refine fget_2_0_X6_9 C rfl dX6_bitsBeside_13 ?_
    refine g_iload_n C dX6_bitsBeside_16 rfl ?_
    refine g_callNi C [.ref (ad 13), .int v3] (c_X8_pick l D cy ad b0 C.A 13 v3 (by decide)) cal_X8_pick nw_3 rfl ⟨Nat.le_of_ble_eq_true rfl, Nat.le_of_ble_eq_true rfl⟩ ⟨rfl, rfl⟩ ⟨Nat.zero_le _, Nat.zero_le _⟩ (Nat.le_of_ble_eq_true rfl) rfl dX6_bitsBeside_17 h (fun r1 σ2 h => ?_)
    refine g_istore C [some (.ref (ad 2)), some (.int v1), some (.int v2), some (.int v3), some (.int r1), none, none] dX6_bitsBeside_20 (by decide) rfl ?_
    refine g_iload C dX6_bitsBeside_22 rfl ?_
    refine g_bipush C dX6_bitsBeside_24 kb_78 ?_
    refine g_icmp_eq C 43 dX6_bitsBeside_26 (by decide) (fun c26 => ?_) (fun c26 => ?_)
    · have h := h.1 c26
      exact k_X6_bitsBeside_43 C v1 v2 v3 r1 K4 hK4 σ2 h
    · have h := h.2 c26
      refine g_iload C dX6_bitsBeside_29 rfl ?_
      refine g_bipush C dX6_bitsBeside_31 kb_87 ?_
      refine g_icmp_eq C 43 dX6_bitsBeside_33 (by decide) (fun c33 => ?_) (fun c33 => ?_)
      · have h := h.1 c33
        exact k_X6_bitsBeside_43 C v1 v2 v3 r1 K4 hK4 σ2 h
      · have h := h.2 c33
        refine g_iload C dX6_bitsBeside_36 rfl ?_
        refine g_bipush C dX6_bitsBeside_38 kb_89 ?_
        refine g_icmp_ne C 47 dX6_bitsBeside_40 (by decide) (fun c40 => ?_) (fun c40 => ?_)
        · have h := h.1 c40
          refine g_iconst C dX6_bitsBeside_47 kc_0 ?_
          exact k_X6_bitsBeside_48 C v1 v2 v3 r1 (nI 0) K4 hK4 σ2 h
        · have h := h.2 c40
          exact k_X6_bitsBeside_43 C v1 v2 v3 r1 K4 hK4 σ2 h
def wl_X6_bitsBeside_4 (v1 : Int32) (Q : Int32 → Sg → Prop) : Nat → Int32 → Int32 → Sg → Prop
  | 0, _, _, _ => False
  | n + 1, v2, v3, σ => wb_X6_bitsBeside_4 v1 v2 v3 (wl_X6_bitsBeside_4 v1 Q n) Q σ
set_option maxHeartbeats 4000000 in
set_option maxRecDepth 100000 in
theorem kl_X6_bitsBeside_4 {Q : Int32 → Sg → Prop} (C : Cx p s m args meth c D cy ad b0 yX6_bitsBeside cX6_bitsBeside 7 (some .int)) (v1 : Int32) : ∀ (n : Nat) (v2 : Int32) (v3 : Int32) (σ : Sg), wl_X6_bitsBeside_4 v1 Q n v2 v3 σ → gI p l e rm_X6_bitsBeside s m args below meth c D cy ad b0 Q 7 4 σ [some (.ref (ad 2)), some (.int v1), some (.int v2), some (.int v3), none, none, none] [] := by
  intro n
  induction n with
  | zero => intro v2 v3 σ h; exact False.elim h
  | succ n ih =>
    intro v2 v3 σ h
    exact kb_X6_bitsBeside_4 C v1 v2 v3 (wl_X6_bitsBeside_4 v1 Q n) (fun z2 z3 σ h => ih z2 z3 σ h) σ h
def wp_X6_bitsBeside (a0 : Int32) (σ : Sg) (Q : Int32 → Sg → Prop) : Prop :=
  ∃ n, wl_X6_bitsBeside_4 a0 Q n (nI 0) (nI 0) σ
set_option maxHeartbeats 4000000 in
set_option maxRecDepth 100000 in
theorem c_X6_bitsBeside (l : Launch) (D : va_G) (cy : Nat → ClassId) (ad : Nat → Nat) (b0 : Nat) (hA : AdOk ad b0) (a0 : Int32) : Cti l D cy ad b0 yX6_bitsBeside cX6_bitsBeside 7 (some .int) rm_X6_bitsBeside [.ref (ad 2), .int a0] (fun σ Q => wp_X6_bitsBeside a0 σ Q) := by
  intro σ Q h
  refine g_enter hA rfl (Nat.le_of_ble_eq_true rfl) [some (.ref (ad 2)), some (.int a0), none, none, none, none, none] rfl ?_
  intro p e s m args below meth c C
  refine g_iconst C dX6_bitsBeside_0 kc_0 ?_
  refine g_istore_n C [some (.ref (ad 2)), some (.int a0), some (.int (nI 0)), none, none, none, none] dX6_bitsBeside_1 (by decide) rfl ?_
  refine g_iconst C dX6_bitsBeside_2 kc_0 ?_
  refine g_istore_n C [some (.ref (ad 2)), some (.int a0), some (.int (nI 0)), some (.int (nI 0)), none, none, none] dX6_bitsBeside_3 (by decide) rfl ?_
  obtain ⟨n, h⟩ := h
  exact kl_X6_bitsBeside_4 C a0 n (nI 0) (nI 0) σ h
def rm_X6_wholeHolds : Room := { frames := 1, cells := 0, slots := 0, locals := 22 }
def wp_X6_wholeHolds (a0 : Int32) (σ : Sg) (Q : Int32 → Sg → Prop) : Prop :=
  (((gF σ 2 6) ≤ (nI 0) → Q (nI 0) σ) ∧ (¬ (gF σ 2 6) ≤ (nI 0) → wp_X8_hasBit (Int32.toInt64 a0) ((gF σ 2 6) - (nI 1)) σ (fun r1 σ2 => ((r1 = (nI 0) → Q (nI 0) σ2) ∧ (¬ r1 = (nI 0) → Q (nI 1) σ2)))))
set_option maxHeartbeats 4000000 in
set_option maxRecDepth 100000 in
theorem c_X6_wholeHolds (l : Launch) (D : va_G) (cy : Nat → ClassId) (ad : Nat → Nat) (b0 : Nat) (hA : AdOk ad b0) (a0 : Int32) : Cti l D cy ad b0 yX6_wholeHolds cX6_wholeHolds 2 (some .boolean) rm_X6_wholeHolds [.ref (ad 2), .int a0] (fun σ Q => wp_X6_wholeHolds a0 σ Q) := by
  intro σ Q h
  refine g_enter hA rfl (Nat.le_of_ble_eq_true rfl) [some (.ref (ad 2)), some (.int a0)] rfl ?_
  intro p e s m args below meth c C
  refine g_aload_n C dX6_wholeHolds_0 rfl ?_
  refine fget_2_6_X6_31 C rfl dX6_wholeHolds_1 ?_
  refine g_if_le C 25 dX6_wholeHolds_4 (by decide) (fun c4 => ?_) (fun c4 => ?_)
  · have h := h.1 c4
    refine g_iconst C dX6_wholeHolds_25 kc_0 ?_
    exact g_zret C (narrow_bl bl_0) dX6_wholeHolds_26 h
  · have h := h.2 c4
    refine g_iload_n C dX6_wholeHolds_7 rfl ?_
    refine g_i2l C dX6_wholeHolds_8 ?_
    refine g_aload_n C dX6_wholeHolds_9 rfl ?_
    refine fget_2_6_X6_31 C rfl dX6_wholeHolds_10 ?_
    refine g_iconst C dX6_wholeHolds_13 kc_1 ?_
    refine g_isub C dX6_wholeHolds_14 ?_
    refine g_callNi C [.long (Int32.toInt64 a0), .int ((gF σ 2 6) - (nI 1))] (c_X8_hasBit l D cy ad b0 C.A (Int32.toInt64 a0) ((gF σ 2 6) - (nI 1))) cal_X8_hasBit nw_5 rfl ⟨Nat.le_of_ble_eq_true rfl, Nat.le_of_ble_eq_true rfl⟩ ⟨rfl, rfl⟩ ⟨Nat.zero_le _, Nat.zero_le _⟩ (Nat.le_of_ble_eq_true rfl) rfl dX6_wholeHolds_15 h (fun r1 σ2 h => ?_)
    refine g_if_eq C 25 dX6_wholeHolds_18 (by decide) (fun c18 => ?_) (fun c18 => ?_)
    · have h := h.1 c18
      refine g_iconst C dX6_wholeHolds_25 kc_0 ?_
      exact g_zret C (narrow_bl bl_0) dX6_wholeHolds_26 h
    · have h := h.2 c18
      refine g_iconst C dX6_wholeHolds_21 kc_1 ?_
      refine g_goto C 26 dX6_wholeHolds_22 (by decide) ?_
      exact g_zret C (narrow_bl bl_1) dX6_wholeHolds_26 h
end
