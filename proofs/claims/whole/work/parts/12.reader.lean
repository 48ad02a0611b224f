section
variable {p : Program} {l : Launch} {e : Env} {s : State} {m : MethodId} {args : Array Value} {below : List Frame} {meth : Method} {c : Code} {D : va_G} {cy : Nat → ClassId} {ad : Nat → Nat} {b0 : Nat}
def rm_X5_rule : Room := { frames := 0, cells := 0, slots := 0, locals := 0 }
def wp_X5_rule (σ : Sg) (Q : Sg → Prop) : Prop :=
  Q σ
set_option maxHeartbeats 4000000 in
set_option maxRecDepth 100000 in
theorem c_X5_rule (l : Launch) (D : va_G) (cy : Nat → ClassId) (ad : Nat → Nat) (b0 : Nat) (hA : AdOk ad b0) : Ctr l D cy ad b0 yX5_rule cX5_rule 1 (some (.object "RunWatcher$Rule")) rm_X5_rule [.ref (ad 1)] 2 (fun σ Q => wp_X5_rule σ Q) := by
  intro σ Q h
  refine g_enter hA rfl (Nat.le_of_ble_eq_true rfl) [some (.ref (ad 1))] rfl ?_
  intro p e s m args below meth c C
  refine g_aload_n C dX5_rule_0 rfl ?_
  refine fget_1_0_X5_12 C rfl dX5_rule_1 ?_
  exact g_aret C dX5_rule_4 h
def rm_X5_faultKind : Room := { frames := 0, cells := 0, slots := 0, locals := 0 }
def wp_X5_faultKind (σ : Sg) (Q : Int32 → Sg → Prop) : Prop :=
  Q (gF σ 1 7) σ
set_option maxHeartbeats 4000000 in
set_option maxRecDepth 100000 in
theorem c_X5_faultKind (l : Launch) (D : va_G) (cy : Nat → ClassId) (ad : Nat → Nat) (b0 : Nat) (hA : AdOk ad b0) : Cti l D cy ad b0 yX5_faultKind cX5_faultKind 1 (some .int) rm_X5_faultKind [.ref (ad 1)] (fun σ Q => wp_X5_faultKind σ Q) := by
  intro σ Q h
  refine g_enter hA rfl (Nat.le_of_ble_eq_true rfl) [some (.ref (ad 1))] rfl ?_
  intro p e s m args below meth c C
  refine g_aload_n C dX5_faultKind_0 rfl ?_
  refine fget_1_7_X5_38 C rfl dX5_faultKind_1 ?_
  exact g_iret C dX5_faultKind_4 h
def rm_X5_faultByte : Room := { frames := 0, cells := 0, slots := 0, locals := 0 }
def wp_X5_faultByte (σ : Sg) (Q : Int32 → Sg → Prop) : Prop :=
  Q (gF σ 1 8) σ
set_option maxHeartbeats 4000000 in
set_option maxRecDepth 100000 in
theorem c_X5_faultByte (l : Launch) (D : va_G) (cy : Nat → ClassId) (ad : Nat → Nat) (b0 : Nat) (hA : AdOk ad b0) : Cti l D cy ad b0 yX5_faultByte cX5_faultByte 1 (some .int) rm_X5_faultByte [.ref (ad 1)] (fun σ Q => wp_X5_faultByte σ Q) := by
  intro σ Q h
  refine g_enter hA rfl (Nat.le_of_ble_eq_true rfl) [some (.ref (ad 1))] rfl ?_
  intro p e s m args below meth c C
  refine g_aload_n C dX5_faultByte_0 rfl ?_
  refine fget_1_8_X5_41 C rfl dX5_faultByte_1 ?_
  exact g_iret C dX5_faultByte_4 h
def rm_X5_failed : Room := { frames := 0, cells := 0, slots := 0, locals := 0 }
def wp_X5_failed (σ : Sg) (Q : Int32 → Sg → Prop) : Prop :=
  (((gF σ 1 7) = (nI 0) → Q (nI 0) σ) ∧ (¬ (gF σ 1 7) = (nI 0) → Q (nI 1) σ))
set_option maxHeartbeats 4000000 in
set_option maxRecDepth 100000 in
theorem c_X5_failed (l : Launch) (D : va_G) (cy : Nat → ClassId) (ad : Nat → Nat) (b0 : Nat) (hA : AdOk ad b0) : Cti l D cy ad b0 yX5_failed cX5_failed 1 (some .boolean) rm_X5_failed [.ref (ad 1)] (fun σ Q => wp_X5_failed σ Q) := by
  intro σ Q h
  refine g_enter hA rfl (Nat.le_of_ble_eq_true rfl) [some (.ref (ad 1))] rfl ?_
  intro p e s m args below meth c C
  refine g_aload_n C dX5_failed_0 rfl ?_
  refine fget_1_7_X5_38 C rfl dX5_failed_1 ?_
  refine g_if_eq C 11 dX5_failed_4 (by decide) (fun c4 => ?_) (fun c4 => ?_)
  · have h := h.1 c4
    refine g_iconst C dX5_failed_11 kc_0 ?_
    exact g_zret C (narrow_bl bl_0) dX5_failed_12 h
  · have h := h.2 c4
    refine g_iconst C dX5_failed_7 kc_1 ?_
    refine g_goto C 12 dX5_failed_8 (by decide) ?_
    exact g_zret C (narrow_bl bl_1) dX5_failed_12 h
def rm_X5_failHere : Room := { frames := 1, cells := 0, slots := 0, locals := 20 }
def wp_X5_failHere (σ : Sg) (Q : Sg → Prop) : Prop :=
  wp_X5_failed σ (fun r1 σ2 => ((¬ r1 = (nI 0) → Q σ2) ∧ (r1 = (nI 0) → ∀ σ3 : Sg, σ3 = stF σ2 1 7 (nI 1) → (∀ σ4 : Sg, σ4 = stF σ3 1 8 (gF σ3 1 3) → (Q σ4)))))
set_option maxHeartbeats 4000000 in
set_option maxRecDepth 100000 in
theorem c_X5_failHere (l : Launch) (D : va_G) (cy : Nat → ClassId) (ad : Nat → Nat) (b0 : Nat) (hA : AdOk ad b0) : Ctv l D cy ad b0 yX5_failHere cX5_failHere 1 none rm_X5_failHere [.ref (ad 1)] (fun σ Q => wp_X5_failHere σ Q) := by
  intro σ Q h
  refine g_enter hA rfl (Nat.le_of_ble_eq_true rfl) [some (.ref (ad 1))] rfl ?_
  intro p e s m args below meth c C
  refine g_aload_n C dX5_failHere_0 rfl ?_
  refine g_callVi C 1 [] (c_X5_failed l D cy ad b0 C.A) cal_X5_failed mw_226 (by decide) rfl rfl ⟨Nat.le_of_ble_eq_true rfl, Nat.le_of_ble_eq_true rfl⟩ ⟨rfl, rfl⟩ ⟨Nat.zero_le _, Nat.zero_le _⟩ (Nat.le_of_ble_eq_true rfl) rfl dX5_failHere_1 h (fun r1 σ2 h => ?_)
  refine g_if_ne C 20 dX5_failHere_4 (by decide) (fun c4 => ?_) (fun c4 => ?_)
  · have h := h.1 c4
    exact g_vret C dX5_failHere_20 h
  · have h := h.2 c4
    refine g_aload_n C dX5_failHere_7 rfl ?_
    refine g_iconst C dX5_failHere_8 kc_1 ?_
    refine fput_1_7_X5_38 C rfl dX5_failHere_9 (fun σ3 e_σ3 => ?_)
    have h := h σ3 e_σ3
    refine g_aload_n C dX5_failHere_12 rfl ?_
    refine g_aload_n C dX5_failHere_13 rfl ?_
    refine fget_1_3_X5_26 C rfl dX5_failHere_14 ?_
    refine fput_1_8_X5_41 C rfl dX5_failHere_17 (fun σ4 e_σ4 => ?_)
    have h := h σ4 e_σ4
    exact g_vret C dX5_failHere_20 h
def rm_X5_here : Room := { frames := 1, cells := 0, slots := 0, locals := 21 }
def wp_X5_here_51 (Q : Int32 → Sg → Prop) (σ : Sg) : Prop :=
  (((gF σ 1 2) ≤ (gF σ 1 3) → Q (-1 : Int32) σ) ∧ (¬ (gF σ 1 2) ≤ (gF σ 1 3) → isK (gR σ 1 1) 0 ∧ (wp_X8_pick (gR σ 1 1) (gF σ 1 3) σ (fun r1 σ2 => Q r1 σ2))))
set_option maxHeartbeats 4000000 in
set_option maxRecDepth 100000 in
theorem k_X5_here_51 {Q : Int32 → Sg → Prop} (C : Cx p s m args meth c D cy ad b0 yX5_here cX5_here 2 (some .int)) (σ : Sg) (h : wp_X5_here_51 Q σ) : gI p l e rm_X5_here s m args below meth c D cy ad b0 Q 2 51 σ [some (.ref (ad 1)), none] [] := by
  refine g_aload_n C dX5_here_51 rfl ?_
  refine fget_1_3_X5_26 C rfl dX5_here_52 ?_
  refine g_aload_n C dX5_here_55 rfl ?_
  refine fget_1_2_X5_22 C rfl dX5_here_56 ?_
  refine g_icmp_ge C 76 dX5_here_59 (by decide) (fun c59 => ?_) (fun c59 => ?_)
  · have h := h.1 c59
    refine g_iconst C dX5_here_76 kc_m1 ?_
    exact g_iret C dX5_here_77 h
  · have h := h.2 c59
    refine g_aload_n C dX5_here_62 rfl ?_
    refine fget_1_1_X5_18 C rfl dX5_here_63 ?_
    refine g_aload_n C dX5_here_66 rfl ?_
    refine fget_1_3_X5_26 C rfl dX5_here_67 ?_
    refine g_callNi C [.ref (ad (gR σ 1 1)), .int (gF σ 1 3)] (c_X8_pick l D cy ad b0 C.A (gR σ 1 1) (gF σ 1 3) h.1) cal_X8_pick nw_0 rfl ⟨Nat.le_of_ble_eq_true rfl, Nat.le_of_ble_eq_true rfl⟩ ⟨rfl, rfl⟩ ⟨Nat.zero_le _, Nat.zero_le _⟩ (Nat.le_of_ble_eq_true rfl) rfl dX5_here_70 h.2 (fun r1 σ2 h => ?_)
    refine g_goto C 77 dX5_here_73 (by decide) ?_
    exact g_iret C dX5_here_77 h
def wb_X5_here_2 (v1 : Int32) (K2 : Int32 → Sg → Prop) (K51 : Sg → Prop) (Q : Int32 → Sg → Prop) (σ : Sg) : Prop :=
  (((nI 60) ≤ v1 → K51 σ) ∧ (¬ (nI 60) ≤ v1 → (((gF σ 1 2) ≤ (gF σ 1 3) → K51 σ) ∧ (¬ (gF σ 1 2) ≤ (gF σ 1 3) → isK (gR σ 1 1) 0 ∧ (wp_X8_pick (gR σ 1 1) (gF σ 1 3) σ (fun r1 σ2 => ((¬ r1 = (nI 32) → K51 σ2) ∧ (r1 = (nI 32) → ∀ σ3 : Sg, σ3 = stF σ2 1 3 ((gF σ2 1 3) + (nI 1)) → (∀ x45 : Int32, x45 = v1 + (nI 1) → (K2 x45 σ3))))))))))
set_option maxHeartbeats 4000000 in
set_option maxRecDepth 100000 in
theorem kb_X5_here_2 {Q : Int32 → Sg → Prop} (C : Cx p s m args meth c D cy ad b0 yX5_here cX5_here 2 (some .int)) (v1 : Int32) (K2 : Int32 → Sg → Prop) (K51 : Sg → Prop) (hK2 : ∀ (z1 : Int32) (σ : Sg), K2 z1 σ → gI p l e rm_X5_here s m args below meth c D cy ad b0 Q 2 2 σ [some (.ref (ad 1)), some (.int z1)] []) (hK51 : ∀  (σ : Sg), K51 σ → gI p l e rm_X5_here s m args below meth c D cy ad b0 Q 2 51 σ [some (.ref (ad 1)), none] []) (σ : Sg) (h : wb_X5_here_2 v1 K2 K51 Q σ) : gI p l e rm_X5_here s m args below meth c D cy ad b0 Q 2 2 σ [some (.ref (ad 1)), some (.int v1)] [] := by
  refine g_iload_n C dX5_here_2 rfl ?_
  refine g_bipush C dX5_here_3 kb_60 ?_
  refine g_icmp_ge C 51 dX5_here_5 (by decide) (fun c5 => ?_) (fun c5 => ?_)
  · have h := h.1 c5
    refine g_mask [true, false] rfl ?_
    exact hK51 σ h
  · have h := h.2 c5
    refine g_aload_n C dX5_here_8 rfl ?_
    refine fget_1_3_X5_26 C rfl dX5_here_9 ?_
    refine g_aload_n C dX5_here_12 rfl ?_
    refine fget_1_2_X5_22 C rfl dX5_here_13 ?_
    refine g_icmp_ge C 51 dX5_here_16 (by decide) (fun c16 => ?_) (fun c16 => ?_)
    · have h := h.1 c16
      refine g_mask [true, false] rfl ?_
      exact hK51 σ h
    · have h := h.2 c16
      refine g_aload_n C dX5_here_19 rfl ?_
      refine fget_1_1_X5_18 C rfl dX5_here_20 ?_
      refine g_aload_n C dX5_here_23 rfl ?_
      refine fget_1_3_X5_26 C rfl dX5_here_24 ?_
      refine g_callNi C [.ref (ad (gR σ 1 1)), .int (gF σ 1 3)] (c_X8_pick l D cy ad b0 C.A (gR σ 1 1) (gF σ 1 3) h.1) cal_X8_pick nw_0 rfl ⟨Nat.le_of_ble_eq_true rfl, Nat.le_of_ble_eq_true rfl⟩ ⟨rfl, rfl⟩ ⟨Nat.zero_le _, Nat.zero_le _⟩ (Nat.le_of_ble_eq_true rfl) rfl dX5_here_27 h.2 (fun r1 σ2 h => ?_)
      refine g_bipush C dX5_here_30 kb_32 ?_
      refine g_icmp_ne C 51 dX5_here_32 (by decide) (fun c32 => ?_) (fun c32 => ?_)
      · have h := h.1 c32
        refine g_mask [true, false] rfl ?_
        exact hK51 σ2 h
      · have h := h.2 c32
        refine g_aload_n C dX5_here_35 rfl ?_
        refine g_dup C dX5_here_36 rfl ?_
        refine fget_1_3_X5_26 C rfl dX5_here_37 ?_
        refine g_iconst C dX5_here_40 kc_1 ?_
        refine g_iadd C dX5_here_41 ?_
        refine fput_1_3_X5_26 C rfl dX5_here_42 (fun σ3 e_σ3 => ?_)
        have h := h σ3 e_σ3
        obtain ⟨x45, e_x45⟩ : ∃ v : Int32, v = v1 + (nI 1) := ⟨_, rfl⟩
        have h := h x45 e_x45
        refine g_iinc C [some (.ref (ad 1)), some (.int x45)] dX5_here_45 rfl e_x45.symm (by decide) rfl ?_
        refine g_goto C 2 dX5_here_48 (by decide) ?_
        exact hK2 x45 σ3 h
def wl_X5_here_2 (K51 : Sg → Prop) (Q : Int32 → Sg → Prop) : Nat → Int32 → Sg → Prop
  | 0, _, _ => False
  | n + 1, v1, σ => wb_X5_here_2 v1 (wl_X5_here_2 K51 Q n) K51 Q σ
set_option maxHeartbeats 4000000 in
set_option maxRecDepth 100000 in
theorem kl_X5_here_2 {Q : Int32 → Sg → Prop} (C : Cx p s m args meth c D cy ad b0 yX5_here cX5_here 2 (some .int)) (K51 : Sg → Prop) (hK51 : ∀  (σ : Sg), K51 σ → gI p l e rm_X5_here s m args below meth c D cy ad b0 Q 2 51 σ [some (.ref (ad 1)), none] []) : ∀ (n : Nat) (v1 : Int32) (σ : Sg), wl_X5_here_2 K51 Q n v1 σ → gI p l e rm_X5_here s m args below meth c D cy ad b0 Q 2 2 σ [some (.ref (ad 1)), some (.int v1)] [] := by
  intro n
  induction n with
  | zero => intro v1 σ h; exact False.elim h
  | succ n ih =>
    intro v1 σ h
    exact kb_X5_here_2 C v1 (wl_X5_here_2 K51 Q n) K51 (fun z1 σ h => ih z1 σ h) hK51 σ h
def wp_X5_here (σ : Sg) (Q : Int32 → Sg → Prop) : Prop :=
  ∃ n, wl_X5_here_2 (fun σ9 => wp_X5_here_51 Q σ9) Q n (nI 0) σ
set_option maxHeartbeats 4000000 in
set_option maxRecDepth 100000 in
theorem c_X5_here (l : Launch) (D : va_G) (cy : Nat → ClassId) (ad : Nat → Nat) (b0 : Nat) (hA : AdOk ad b0) : Cti l D cy ad b0 yX5_here cX5_here 2 (some .int) rm_X5_here [.ref (ad 1)] (fun σ Q => wp_X5_here σ Q) := by
  intro σ Q h
  refine g_enter hA rfl (Nat.le_of_ble_eq_true rfl) [some (.ref (ad 1)), none] rfl ?_
  intro p e s m args below meth c C
  refine g_iconst C dX5_here_0 kc_0 ?_
  refine g_istore_n C [some (.ref (ad 1)), some (.int (nI 0))] dX5_here_1 (by decide) rfl ?_
  obtain ⟨n, h⟩ := h
  exact kl_X5_here_2 C _ (fun σ9 h => by exact k_X5_here_51 C σ9 h) n (nI 0) σ h
def rm_X5_beginsNode : Room := { frames := 2, cells := 0, slots := 0, locals := 40 }
def wp_X5_beginsNode (σ : Sg) (Q : Int32 → Sg → Prop) : Prop :=
  (((gF σ 1 4) < (nI 9) → ∀ σ1 : Sg, σ1 = stF σ 1 4 ((gF σ 1 4) + (nI 1)) → (∀ σ2 : Sg, σ2 = stF σ1 1 6 (gF σ1 1 3) → (∀ σ3 : Sg, σ3 = stF σ2 1 3 ((gF σ2 1 3) + (nI 1)) → (Q (nI 1) σ3)))) ∧ (¬ (gF σ 1 4) < (nI 9) → wp_X5_failHere σ (fun σ4 => Q (nI 0) σ4)))
set_option maxHeartbeats 4000000 in
set_option maxRecDepth 100000 in
theorem c_X5_beginsNode (l : Launch) (D : va_G) (cy : Nat → ClassId) (ad : Nat → Nat) (b0 : Nat) (hA : AdOk ad b0) : Cti l D cy ad b0 yX5_beginsNode cX5_beginsNode 1 (some .boolean) rm_X5_beginsNode [.ref (ad 1)] (fun σ Q => wp_X5_beginsNode σ Q) := by
  intro σ Q h
  refine g_enter hA rfl (Nat.le_of_ble_eq_true rfl) [some (.ref (ad 1))] rfl ?_
  intro p e s m args below meth c C
  refine g_aload_n C dX5_beginsNode_0 rfl ?_
  refine fget_1_4_X5_29 C rfl dX5_beginsNode_1 ?_
  refine g_bipush C dX5_beginsNode_4 kb_9 ?_
  refine g_icmp_lt C 15 dX5_beginsNode_6 (by decide) (fun c6 => ?_) (fun c6 => ?_)
  · have h := h.1 c6
    refine g_aload_n C dX5_beginsNode_15 rfl ?_
    refine g_dup C dX5_beginsNode_16 rfl ?_
    refine fget_1_4_X5_29 C rfl dX5_beginsNode_17 ?_
    refine g_iconst C dX5_beginsNode_20 kc_1 ?_
    refine g_iadd C dX5_beginsNode_21 ?_
    refine fput_1_4_X5_29 C rfl dX5_beginsNode_22 (fun σ1 e_σ1 => ?_)
    have h := h σ1 e_σ1
    refine g_aload_n C dX5_beginsNode_25 rfl ?_
    refine g_aload_n C dX5_beginsNode_26 rfl ?_
    refine fget_1_3_X5_26 C rfl dX5_beginsNode_27 ?_
    refine fput_1_6_X5_35 C rfl dX5_beginsNode_30 (fun σ2 e_σ2 => ?_)
    have h := h σ2 e_σ2
    refine g_aload_n C dX5_beginsNode_33 rfl ?_
    refine g_dup C dX5_beginsNode_34 rfl ?_
    refine fget_1_3_X5_26 C rfl dX5_beginsNode_35 ?_
    refine g_iconst C dX5_beginsNode_38 kc_1 ?_
    refine g_iadd C dX5_beginsNode_39 ?_
    refine fput_1_3_X5_26 C rfl dX5_beginsNode_40 (fun σ3 e_σ3 => ?_)
    have h := h σ3 e_σ3
    refine g_iconst C dX5_beginsNode_43 kc_1 ?_
    exact g_zret C (narrow_bl bl_1) dX5_beginsNode_44 h
  · have h := h.2 c6
    refine g_aload_n C dX5_beginsNode_9 rfl ?_
    refine g_callVv C 1 [] (c_X5_failHere l D cy ad b0 C.A) cal_X5_failHere mw_240 (by decide) rfl rfl ⟨Nat.le_of_ble_eq_true rfl, Nat.le_of_ble_eq_true rfl⟩ ⟨rfl, rfl⟩ ⟨Nat.zero_le _, Nat.zero_le _⟩ (Nat.le_of_ble_eq_true rfl) rfl dX5_beginsNode_10 h (fun σ4 h => ?_)
    refine g_iconst C dX5_beginsNode_13 kc_0 ?_
    exact g_zret C (narrow_bl bl_0) dX5_beginsNode_14 h
def rm_X5_takes : Room := { frames := 3, cells := 0, slots := 0, locals := 60 }
def wp_X5_takes (a0 : Int32) (σ : Sg) (Q : Int32 → Sg → Prop) : Prop :=
  wp_X5_failed σ (fun r1 σ2 => ((¬ r1 = (nI 0) → Q (nI 0) σ2) ∧ (r1 = (nI 0) → wp_X5_here σ2 (fun r3 σ4 => ((¬ r3 = a0 → Q (nI 0) σ4) ∧ (r3 = a0 → wp_X5_beginsNode σ4 (fun r5 σ6 => ((r5 = (nI 0) → Q (nI 0) σ6) ∧ (¬ r5 = (nI 0) → Q (nI 1) σ6)))))))))
set_option maxHeartbeats 4000000 in
set_option maxRecDepth 100000 in
theorem c_X5_takes (l : Launch) (D : va_G) (cy : Nat → ClassId) (ad : Nat → Nat) (b0 : Nat) (hA : AdOk ad b0) (a0 : Int32) : Cti l D cy ad b0 yX5_takes cX5_takes 2 (some .boolean) rm_X5_takes [.ref (ad 1), .int a0] (fun σ Q => wp_X5_takes a0 σ Q) := by
  intro σ Q h
  refine g_enter hA rfl (Nat.le_of_ble_eq_true rfl) [some (.ref (ad 1)), some (.int a0)] rfl ?_
  intro p e s m args below meth c C
  refine g_aload_n C dX5_takes_0 rfl ?_
  refine g_callVi C 1 [] (c_X5_failed l D cy ad b0 C.A) cal_X5_failed mw_226 (by decide) rfl rfl ⟨Nat.le_of_ble_eq_true rfl, Nat.le_of_ble_eq_true rfl⟩ ⟨rfl, rfl⟩ ⟨Nat.zero_le _, Nat.zero_le _⟩ (Nat.le_of_ble_eq_true rfl) rfl dX5_takes_1 h (fun r1 σ2 h => ?_)
  refine g_if_ne C 26 dX5_takes_4 (by decide) (fun c4 => ?_) (fun c4 => ?_)
  · have h := h.1 c4
    refine g_iconst C dX5_takes_26 kc_0 ?_
    exact g_zret C (narrow_bl bl_0) dX5_takes_27 h
  · have h := h.2 c4
    refine g_aload_n C dX5_takes_7 rfl ?_
    refine g_callVi C 1 [] (c_X5_here l D cy ad b0 C.A) cal_X5_here mw_230 (by decide) rfl rfl ⟨Nat.le_of_ble_eq_true rfl, Nat.le_of_ble_eq_true rfl⟩ ⟨rfl, rfl⟩ ⟨Nat.zero_le _, Nat.zero_le _⟩ (Nat.le_of_ble_eq_true rfl) rfl dX5_takes_8 h (fun r3 σ4 h => ?_)
    refine g_iload_n C dX5_takes_11 rfl ?_
    refine g_icmp_ne C 26 dX5_takes_12 (by decide) (fun c12 => ?_) (fun c12 => ?_)
    · have h := h.1 c12
      refine g_iconst C dX5_takes_26 kc_0 ?_
      exact g_zret C (narrow_bl bl_0) dX5_takes_27 h
    · have h := h.2 c12
      refine g_aload_n C dX5_takes_15 rfl ?_
      refine g_callVi C 1 [] (c_X5_beginsNode l D cy ad b0 C.A) cal_X5_beginsNode mw_236 (by decide) rfl rfl ⟨Nat.le_of_ble_eq_true rfl, Nat.le_of_ble_eq_true rfl⟩ ⟨rfl, rfl⟩ ⟨Nat.zero_le _, Nat.zero_le _⟩ (Nat.le_of_ble_eq_true rfl) rfl dX5_takes_16 h (fun r5 σ6 h => ?_)
      refine g_if_eq C 26 dX5_takes_19 (by decide) (fun c19 => ?_) (fun c19 => ?_)
      · have h := h.1 c19
        refine g_iconst C dX5_takes_26 kc_0 ?_
        exact g_zret C (narrow_bl bl_0) dX5_takes_27 h
      · have h := h.2 c19
        refine g_iconst C dX5_takes_22 kc_1 ?_
        refine g_goto C 27 dX5_takes_23 (by decide) ?_
        exact g_zret C (narrow_bl bl_1) dX5_takes_27 h
def rm_X5_made : Room := { frames := 2, cells := 0, slots := 0, locals := 46 }
def wp_X5_made (a0 : Int32) (a1 : Int32) (a2 : Int32) (a3 : Int32) (σ : Sg) (Q : Int32 → Sg → Prop) : Prop :=
  wp_X5_failed σ (fun r1 σ2 => ((r1 = (nI 0) → wp_X6_add a0 a1 a2 a3 σ2 (fun r3 σ4 => Q r3 σ4)) ∧ (¬ r1 = (nI 0) → Q (-9 : Int32) σ2)))
set_option maxHeartbeats 4000000 in
set_option maxRecDepth 100000 in
theorem c_X5_made (l : Launch) (D : va_G) (cy : Nat → ClassId) (ad : Nat → Nat) (b0 : Nat) (hA : AdOk ad b0) (a0 : Int32) (a1 : Int32) (a2 : Int32) (a3 : Int32) : Cti l D cy ad b0 yX5_made cX5_made 5 (some .int) rm_X5_made [.ref (ad 1), .int a0, .int a1, .int a2, .int a3] (fun σ Q => wp_X5_made a0 a1 a2 a3 σ Q) := by
  intro σ Q h
  refine g_enter hA rfl (Nat.le_of_ble_eq_true rfl) [some (.ref (ad 1)), some (.int a0), some (.int a1), some (.int a2), some (.int a3)] rfl ?_
  intro p e s m args below meth c C
  refine g_aload_n C dX5_made_0 rfl ?_
  refine g_callVi C 1 [] (c_X5_failed l D cy ad b0 C.A) cal_X5_failed mw_226 (by decide) rfl rfl ⟨Nat.le_of_ble_eq_true rfl, Nat.le_of_ble_eq_true rfl⟩ ⟨rfl, rfl⟩ ⟨Nat.zero_le _, Nat.zero_le _⟩ (Nat.le_of_ble_eq_true rfl) rfl dX5_made_1 h (fun r1 σ2 h => ?_)
  refine g_if_eq C 12 dX5_made_4 (by decide) (fun c4 => ?_) (fun c4 => ?_)
  · have h := h.1 c4
    refine g_aload_n C dX5_made_12 rfl ?_
    refine fget_1_0_X5_12 C rfl dX5_made_13 ?_
    refine g_iload_n C dX5_made_16 rfl ?_
    refine g_iload_n C dX5_made_17 rfl ?_
    refine g_iload_n C dX5_made_18 rfl ?_
    refine g_iload C dX5_made_19 rfl ?_
    refine g_callVi C 2 [.int a0, .int a1, .int a2, .int a3] (c_X6_add l D cy ad b0 C.A a0 a1 a2 a3) cal_X6_add mw_248 (by decide) rfl rfl ⟨Nat.le_of_ble_eq_true rfl, Nat.le_of_ble_eq_true rfl⟩ ⟨rfl, rfl⟩ ⟨Nat.zero_le _, Nat.zero_le _⟩ (Nat.le_of_ble_eq_true rfl) rfl dX5_made_21 h (fun r3 σ4 h => ?_)
    exact g_iret C dX5_made_24 h
  · have h := h.2 c4
    refine g_bipush C dX5_made_7 kb_m9 ?_
    refine g_goto C 24 dX5_made_9 (by decide) ?_
    exact g_iret C dX5_made_24 h
def rm_X5_standsAheadOfOne : Room := { frames := 1, cells := 0, slots := 0, locals := 20 }
def wp_X5_standsAheadOfOne_34 (Q : Int32 → Sg → Prop) (σ : Sg) : Prop :=
  Q (nI 1) σ
set_option maxHeartbeats 4000000 in
set_option maxRecDepth 100000 in
theorem k_X5_standsAheadOfOne_34 {Q : Int32 → Sg → Prop} (C : Cx p s m args meth c D cy ad b0 yX5_standsAheadOfOne cX5_standsAheadOfOne 1 (some .boolean)) (σ : Sg) (h : wp_X5_standsAheadOfOne_34 Q σ) : gI p l e rm_X5_standsAheadOfOne s m args below meth c D cy ad b0 Q 1 34 σ [none] [] := by
  refine g_iconst C dX5_standsAheadOfOne_34 kc_1 ?_
  refine g_goto C 39 dX5_standsAheadOfOne_35 (by decide) ?_
  exact g_zret C (narrow_bl bl_1) dX5_standsAheadOfOne_39 h
def wp_X5_standsAheadOfOne (a0 : Int32) (σ : Sg) (Q : Int32 → Sg → Prop) : Prop :=
  ((¬ a0 = (nI 33) → ((a0 = (nI 85) → Q (nI 0) σ) ∧ (¬ a0 = (nI 85) → ((a0 = (nI 83) → Q (nI 0) σ) ∧ (¬ a0 = (nI 83) → wp_X6_looksBehind a0 σ (fun r1 σ2 => ((¬ r1 = (nI 0) → wp_X5_standsAheadOfOne_34 Q σ2) ∧ (r1 = (nI 0) → wp_X6_looksAhead a0 σ2 (fun r3 σ4 => ((r3 = (nI 0) → Q (nI 0) σ4) ∧ (¬ r3 = (nI 0) → wp_X5_standsAheadOfOne_34 Q σ4))))))))))) ∧ (a0 = (nI 33) → Q (nI 1) σ))
set_option maxHeartbeats 4000000 in
set_option maxRecDepth 100000 in
theorem c_X5_standsAheadOfOne (l : Launch) (D : va_G) (cy : Nat → ClassId) (ad : Nat → Nat) (b0 : Nat) (hA : AdOk ad b0) (a0 : Int32) : Cti l D cy ad b0 yX5_standsAheadOfOne cX5_standsAheadOfOne 1 (some .boolean) rm_X5_standsAheadOfOne [.int a0] (fun σ Q => wp_X5_standsAheadOfOne a0 σ Q) := by
  intro σ Q h
  refine g_enter hA rfl (Nat.le_of_ble_eq_true rfl) [some (.int a0)] rfl ?_
  intro p e s m args below meth c C
  refine g_iload_n C dX5_standsAheadOfOne_0 rfl ?_
  refine g_bipush C dX5_standsAheadOfOne_1 kb_33 ?_
  refine g_icmp_ne C 8 dX5_standsAheadOfOne_3 (by decide) (fun c3 => ?_) (fun c3 => ?_)
  · have h := h.1 c3
    refine g_iload_n C dX5_standsAheadOfOne_8 rfl ?_
    refine g_bipush C dX5_standsAheadOfOne_9 kb_85 ?_
    refine g_icmp_eq C 38 dX5_standsAheadOfOne_11 (by decide) (fun c11 => ?_) (fun c11 => ?_)
    · have h := h.1 c11
      refine g_iconst C dX5_standsAheadOfOne_38 kc_0 ?_
      exact g_zret C (narrow_bl bl_0) dX5_standsAheadOfOne_39 h
    · have h := h.2 c11
      refine g_iload_n C dX5_standsAheadOfOne_14 rfl ?_
      refine g_bipush C dX5_standsAheadOfOne_15 kb_83 ?_
      refine g_icmp_eq C 38 dX5_standsAheadOfOne_17 (by decide) (fun c17 => ?_) (fun c17 => ?_)
      · have h := h.1 c17
        refine g_iconst C dX5_standsAheadOfOne_38 kc_0 ?_
        exact g_zret C (narrow_bl bl_0) dX5_standsAheadOfOne_39 h
      · have h := h.2 c17
        refine g_iload_n C dX5_standsAheadOfOne_20 rfl ?_
        refine g_callSi C [.int a0] (c_X6_looksBehind l D cy ad b0 C.A a0) cal_X6_looksBehind mw_268 rfl ⟨Nat.le_of_ble_eq_true rfl, Nat.le_of_ble_eq_true rfl⟩ ⟨rfl, rfl⟩ ⟨Nat.zero_le _, Nat.zero_le _⟩ (Nat.le_of_ble_eq_true rfl) rfl dX5_standsAheadOfOne_21 h (fun r1 σ2 h => ?_)
        refine g_if_ne C 34 dX5_standsAheadOfOne_24 (by decide) (fun c24 => ?_) (fun c24 => ?_)
        · have h := h.1 c24
          refine g_mask [false] rfl ?_
          exact k_X5_standsAheadOfOne_34 C σ2 h
        · have h := h.2 c24
          refine g_iload_n C dX5_standsAheadOfOne_27 rfl ?_
          refine g_callSi C [.int a0] (c_X6_looksAhead l D cy ad b0 C.A a0) cal_X6_looksAhead mw_271 rfl ⟨Nat.le_of_ble_eq_true rfl, Nat.le_of_ble_eq_true rfl⟩ ⟨rfl, rfl⟩ ⟨Nat.zero_le _, Nat.zero_le _⟩ (Nat.le_of_ble_eq_true rfl) rfl dX5_standsAheadOfOne_28 h (fun r3 σ4 h => ?_)
          refine g_if_eq C 38 dX5_standsAheadOfOne_31 (by decide) (fun c31 => ?_) (fun c31 => ?_)
          · have h := h.1 c31
            refine g_iconst C dX5_standsAheadOfOne_38 kc_0 ?_
            exact g_zret C (narrow_bl bl_0) dX5_standsAheadOfOne_39 h
          · have h := h.2 c31
            refine g_mask [false] rfl ?_
            exact k_X5_standsAheadOfOne_34 C σ4 h
  · have h := h.2 c3
    refine g_iconst C dX5_standsAheadOfOne_6 kc_1 ?_
    exact g_zret C (narrow_bl bl_1) dX5_standsAheadOfOne_7 h
def wp_X5_readRule (S : Nat → Sg → (Int32 → Sg → Prop) → Prop) (σ : Sg) (Q : Int32 → Sg → Prop) : Prop :=
  S 1 σ (fun r1 σ2 => wp_X5_takes (nI 62) σ2 (fun r3 σ4 => ((¬ r3 = (nI 0) → ∀ x20 : Int32, x20 = (gF σ4 1 6) → (S 0 σ4 (fun r5 σ6 => wp_X5_made (nI 62) r1 r5 x20 σ6 (fun r7 σ8 => Q r7 σ8)))) ∧ (r3 = (nI 0) → Q r1 σ4))))
set_option maxHeartbeats 4000000 in
set_option maxRecDepth 100000 in
theorem c_X5_readRule (l : Launch) (D : va_G) (cy : Nat → ClassId) (ad : Nat → Nat) (b0 : Nat) (hA : AdOk ad b0) {d : Nat} {S : Nat → Sg → (Int32 → Sg → Prop) → Prop} (hS : hypS l D cy ad b0 d S) : Cti l D cy ad b0 yX5_readRule cX5_readRule 4 (some .int) (rmS (d + 1)) [.ref (ad 1)] (fun σ Q => wp_X5_readRule S σ Q) := by
  intro σ Q h
  refine g_enter hA rfl (Nat.le_of_ble_eq_true rfl) [some (.ref (ad 1)), none, none, none] rfl ?_
  intro p e s m args below meth c C
  refine g_aload_n C dX5_readRule_0 rfl ?_
  refine g_callVi C 1 [] hS.2.1 cal_X5_readEither mw_219 (by decide) rfl rfl ⟨rmS_f, rmS_l (by decide)⟩ ⟨rfl, rfl⟩ ⟨Nat.zero_le _, Nat.zero_le _⟩ (Nat.le_of_ble_eq_true rfl) rfl dX5_readRule_1 h (fun r1 σ2 h => ?_)
  refine g_istore_n C [some (.ref (ad 1)), some (.int r1), none, none] dX5_readRule_4 (by decide) rfl ?_
  refine g_aload_n C dX5_readRule_5 rfl ?_
  refine g_bipush C dX5_readRule_6 kb_62 ?_
  refine g_callVi C 1 [.int (nI 62)] (c_X5_takes l D cy ad b0 C.A (nI 62)) cal_X5_takes mw_222 (by decide) rfl rfl ⟨rmS_of (by decide), rmS_ol (by decide)⟩ ⟨rfl, rfl⟩ ⟨Nat.zero_le _, Nat.zero_le _⟩ (Nat.le_of_ble_eq_true rfl) rfl dX5_readRule_8 h (fun r3 σ4 h => ?_)
  refine g_if_ne C 16 dX5_readRule_11 (by decide) (fun c11 => ?_) (fun c11 => ?_)
  · have h := h.1 c11
    refine g_aload_n C dX5_readRule_16 rfl ?_
    refine fget_1_6_X5_35 C rfl dX5_readRule_17 ?_
    refine g_topi (fun x20 e_x20 => ?_)
    have h := h x20 e_x20
    refine g_istore_n C [some (.ref (ad 1)), some (.int r1), some (.int x20), none] dX5_readRule_20 (by decide) rfl ?_
    refine g_aload_n C dX5_readRule_21 rfl ?_
    refine g_callVi C 1 [] hS.1 cal_X5_readRule mw_215 (by decide) rfl rfl ⟨rmS_f, rmS_l (by decide)⟩ ⟨rfl, rfl⟩ ⟨Nat.zero_le _, Nat.zero_le _⟩ (Nat.le_of_ble_eq_true rfl) rfl dX5_readRule_22 h (fun r5 σ6 h => ?_)
    refine g_istore_n C [some (.ref (ad 1)), some (.int r1), some (.int x20), some (.int r5)] dX5_readRule_25 (by decide) rfl ?_
    refine g_aload_n C dX5_readRule_26 rfl ?_
    refine g_bipush C dX5_readRule_27 kb_62 ?_
    refine g_iload_n C dX5_readRule_29 rfl ?_
    refine g_iload_n C dX5_readRule_30 rfl ?_
    refine g_iload_n C dX5_readRule_31 rfl ?_
    refine g_callVi C 1 [.int (nI 62), .int r1, .int r5, .int x20] (c_X5_made l D cy ad b0 C.A (nI 62) r1 r5 x20) cal_X5_made mw_244 (by decide) rfl rfl ⟨rmS_of (by decide), rmS_ol (by decide)⟩ ⟨rfl, rfl⟩ ⟨Nat.zero_le _, Nat.zero_le _⟩ (Nat.le_of_ble_eq_true rfl) rfl dX5_readRule_32 h (fun r7 σ8 h => ?_)
    exact g_iret C dX5_readRule_35 h
  · have h := h.2 c11
    refine g_iload_n C dX5_readRule_14 rfl ?_
    exact g_iret C dX5_readRule_15 h
def wb_X5_readEither_7 (S : Nat → Sg → (Int32 → Sg → Prop) → Prop) (v1 : Int32) (v2 : Int32) (K7 : Int32 → Int32 → Sg → Prop) (Q : Int32 → Sg → Prop) (σ : Sg) : Prop :=
  (((nI 9) ≤ v2 → Q v1 σ) ∧ (¬ (nI 9) ≤ v2 → wp_X5_takes (nI 47) σ (fun r1 σ2 => ((r1 = (nI 0) → Q v1 σ2) ∧ (¬ r1 = (nI 0) → ∀ x26 : Int32, x26 = (gF σ2 1 6) → (S 2 σ2 (fun r3 σ4 => wp_X5_made (nI 47) v1 r3 x26 σ4 (fun r5 σ6 => ∀ x44 : Int32, x44 = v2 + (nI 1) → (K7 r5 x44 σ6)))))))))
set_option maxHeartbeats 4000000 in
set_option maxRecDepth 100000 in
theorem kb_X5_readEither_7 {Q : Int32 → Sg → Prop} (C : Cx p s m args meth c D cy ad b0 yX5_readEither cX5_readEither 5 (some .int)) {d : Nat} {S : Nat → Sg → (Int32 → Sg → Prop) → Prop} (hS : hypS l D cy ad b0 d S) (v1 : Int32) (v2 : Int32) (K7 : Int32 → Int32 → Sg → Prop) (hK7 : ∀ (z1 : Int32) (z2 : Int32) (σ : Sg), K7 z1 z2 σ → gI p l e (rmS (d + 1)) s m args below meth c D cy ad b0 Q 5 7 σ [some (.ref (ad 1)), some (.int z1), some (.int z2), none, none] []) (σ : Sg) (h : wb_X5_readEither_7 S v1 v2 K7 Q σ) : gI p l e (rmS (d + 1)) s m args below meth c D cy ad b0 Q 5 7 σ [some (.ref (ad 1)), some (.int v1), some (.int v2), none, none] [] := by
  refine g_iload_n C dX5_readEither_7 rfl ?_
  refine g_bipush C dX5_readEither_8 kb_9 ?_
  refine g_icmp_ge C 50 dX5_readEither_10 (by decide) (fun c10 => ?_) (fun c10 => ?_)
  · have h := h.1 c10
    refine g_iload_n C dX5_readEither_50 rfl ?_
    exact g_iret C dX5_readEither_51 h
  · have h := h.2 c10
    refine g_aload_n C dX5_readEither_13 rfl ?_
    refine g_bipush C dX5_readEither_14 kb_47 ?_
    refine g_callVi C 1 [.int (nI 47)] (c_X5_takes l D cy ad b0 C.A (nI 47)) cal_X5_takes mw_222 (by decide) rfl rfl ⟨rmS_of (by decide), rmS_ol (by decide)⟩ ⟨rfl, rfl⟩ ⟨Nat.zero_le _, Nat.zero_le _⟩ (Nat.le_of_ble_eq_true rfl) rfl dX5_readEither_16 h (fun r1 σ2 h => ?_)
    refine g_if_eq C 50 dX5_readEither_19 (by decide) (fun c19 => ?_) (fun c19 => ?_)
    · have h := h.1 c19
      refine g_iload_n C dX5_readEither_50 rfl ?_
      exact g_iret C dX5_readEither_51 h
    · have h := h.2 c19
      refine g_aload_n C dX5_readEither_22 rfl ?_
      refine fget_1_6_X5_35 C rfl dX5_readEither_23 ?_
      refine g_topi (fun x26 e_x26 => ?_)
      have h := h x26 e_x26
      refine g_istore_n C [some (.ref (ad 1)), some (.int v1), some (.int v2), some (.int x26), none] dX5_readEither_26 (by decide) rfl ?_
      refine g_aload_n C dX5_readEither_27 rfl ?_
      refine g_callVi C 1 [] hS.2.2.1 cal_X5_readBoth mw_258 (by decide) rfl rfl ⟨rmS_f, rmS_l (by decide)⟩ ⟨rfl, rfl⟩ ⟨Nat.zero_le _, Nat.zero_le _⟩ (Nat.le_of_ble_eq_true rfl) rfl dX5_readEither_28 h (fun r3 σ4 h => ?_)
      refine g_istore C [some (.ref (ad 1)), some (.int v1), some (.int v2), some (.int x26), some (.int r3)] dX5_readEither_31 (by decide) rfl ?_
      refine g_aload_n C dX5_readEither_33 rfl ?_
      refine g_bipush C dX5_readEither_34 kb_47 ?_
      refine g_iload_n C dX5_readEither_36 rfl ?_
      refine g_iload C dX5_readEither_37 rfl ?_
      refine g_iload_n C dX5_readEither_39 rfl ?_
      refine g_callVi C 1 [.int (nI 47), .int v1, .int r3, .int x26] (c_X5_made l D cy ad b0 C.A (nI 47) v1 r3 x26) cal_X5_made mw_244 (by decide) rfl rfl ⟨rmS_of (by decide), rmS_ol (by decide)⟩ ⟨rfl, rfl⟩ ⟨Nat.zero_le _, Nat.zero_le _⟩ (Nat.le_of_ble_eq_true rfl) rfl dX5_readEither_40 h (fun r5 σ6 h => ?_)
      refine g_istore_n C [some (.ref (ad 1)), some (.int r5), some (.int v2), some (.int x26), some (.int r3)] dX5_readEither_43 (by decide) rfl ?_
      obtain ⟨x44, e_x44⟩ : ∃ v : Int32, v = v2 + (nI 1) := ⟨_, rfl⟩
      have h := h x44 e_x44
      refine g_iinc C [some (.ref (ad 1)), some (.int r5), some (.int x44), some (.int x26), some (.int r3)] dX5_readEither_44 rfl e_x44.symm (by decide) rfl ?_
      refine g_goto C 7 dX5_readEither_47 (by decide) ?_
      refine g_mask [true, true, true, false, false] rfl ?_
      exact hK7 r5 x44 σ6 h
def wl_X5_readEither_7 (S : Nat → Sg → (Int32 → Sg → Prop) → Prop) (Q : Int32 → Sg → Prop) : Nat → Int32 → Int32 → Sg → Prop
  | 0, _, _, _ => False
  | n + 1, v1, v2, σ => wb_X5_readEither_7 S v1 v2 (wl_X5_readEither_7 S Q n) Q σ
set_option maxHeartbeats 4000000 in
set_option maxRecDepth 100000 in
theorem kl_X5_readEither_7 {Q : Int32 → Sg → Prop} (C : Cx p s m args meth c D cy ad b0 yX5_readEither cX5_readEither 5 (some .int)) {d : Nat} {S : Nat → Sg → (Int32 → Sg → Prop) → Prop} (hS : hypS l D cy ad b0 d S) : ∀ (n : Nat) (v1 : Int32) (v2 : Int32) (σ : Sg), wl_X5_readEither_7 S Q n v1 v2 σ → gI p l e (rmS (d + 1)) s m args below meth c D cy ad b0 Q 5 7 σ [some (.ref (ad 1)), some (.int v1), some (.int v2), none, none] [] := by
  intro n
  induction n with
  | zero => intro v1 v2 σ h; exact False.elim h
  | succ n ih =>
    intro v1 v2 σ h
    exact kb_X5_readEither_7 C hS v1 v2 (wl_X5_readEither_7 S Q n) (fun z1 z2 σ h => ih z1 z2 σ h) σ h
def wp_X5_readEither (S : Nat → Sg → (Int32 → Sg → Prop) → Prop) (σ : Sg) (Q : Int32 → Sg → Prop) : Prop :=
  S 2 σ (fun r1 σ2 => ∃ n, wl_X5_readEither_7 S Q n r1 (nI 0) σ2)
set_option maxHeartbeats 4000000 in
set_option maxRecDepth 100000 in
theorem c_X5_readEither (l : Launch) (D : va_G) (cy : Nat → ClassId) (ad : Nat → Nat) (b0 : Nat) (hA : AdOk ad b0) {d : Nat} {S : Nat → Sg → (Int32 → Sg → Prop) → Prop} (hS : hypS l D cy ad b0 d S) : Cti l D cy ad b0 yX5_readEither cX5_readEither 5 (some .int) (rmS (d + 1)) [.ref (ad 1)] (fun σ Q => wp_X5_readEither S σ Q) := by
  intro σ Q h
  refine g_enter hA rfl (Nat.le_of_ble_eq_true rfl) [some (.ref (ad 1)), none, none, none, none] rfl ?_
  intro p e s m args below meth c C
  refine g_aload_n C dX5_readEither_0 rfl ?_
  refine g_callVi C 1 [] hS.2.2.1 cal_X5_readBoth mw_258 (by decide) rfl rfl ⟨rmS_f, rmS_l (by decide)⟩ ⟨rfl, rfl⟩ ⟨Nat.zero_le _, Nat.zero_le _⟩ (Nat.le_of_ble_eq_true rfl) rfl dX5_readEither_1 h (fun r1 σ2 h => ?_)
  refine g_istore_n C [some (.ref (ad 1)), some (.int r1), none, none, none] dX5_readEither_4 (by decide) rfl ?_
  refine g_iconst C dX5_readEither_5 kc_0 ?_
  refine g_istore_n C [some (.ref (ad 1)), some (.int r1), some (.int (nI 0)), none, none] dX5_readEither_6 (by decide) rfl ?_
  obtain ⟨n, h⟩ := h
  exact kl_X5_readEither_7 C hS n r1 (nI 0) σ2 h
def wb_X5_readBoth_7 (S : Nat → Sg → (Int32 → Sg → Prop) → Prop) (v1 : Int32) (v2 : Int32) (K7 : Int32 → Int32 → Sg → Prop) (Q : Int32 → Sg → Prop) (σ : Sg) : Prop :=
  (((nI 9) ≤ v2 → Q v1 σ) ∧ (¬ (nI 9) ≤ v2 → wp_X5_takes (nI 38) σ (fun r1 σ2 => ((r1 = (nI 0) → Q v1 σ2) ∧ (¬ r1 = (nI 0) → ∀ x26 : Int32, x26 = (gF σ2 1 6) → (S 3 σ2 (fun r3 σ4 => wp_X5_made (nI 38) v1 r3 x26 σ4 (fun r5 σ6 => ∀ x44 : Int32, x44 = v2 + (nI 1) → (K7 r5 x44 σ6)))))))))
set_option maxHeartbeats 4000000 in
set_option maxRecDepth 100000 in
theorem kb_X5_readBoth_7 {Q : Int32 → Sg → Prop} (C : Cx p s m args meth c D cy ad b0 yX5_readBoth cX5_readBoth 5 (some .int)) {d : Nat} {S : Nat → Sg → (Int32 → Sg → Prop) → Prop} (hS : hypS l D cy ad b0 d S) (v1 : Int32) (v2 : Int32) (K7 : Int32 → Int32 → Sg → Prop) (hK7 : ∀ (z1 : Int32) (z2 : Int32) (σ : Sg), K7 z1 z2 σ → gI p l e (rmS (d + 1)) s m args below meth c D cy ad b0 Q 5 7 σ [some (.ref (ad 1)), some (.int z1), some (.int z2), none, none] []) (σ : Sg) (h : wb_X5_readBoth_7 S v1 v2 K7 Q σ) : gI p l e (rmS (d + 1)) s m args below meth c D cy ad b0 Q 5 7 σ [some (.ref (ad 1)), some (.int v1), some (.int v2), none, none] [] := by
  refine g_iload_n C dX5_readBoth_7 rfl ?_
  refine g_bipush C dX5_readBoth_8 kb_9 ?_
  refine g_icmp_ge C 50 dX5_readBoth_10 (by decide) (fun c10 => ?_) (fun c10 => ?_)
  · have h := h.1 c10
    refine g_iload_n C dX5_readBoth_50 rfl ?_
    exact g_iret C dX5_readBoth_51 h
  · have h := h.2 c10
    refine g_aload_n C dX5_readBoth_13 rfl ?_
    refine g_bipush C dX5_readBoth_14 kb_38 ?_
    refine g_callVi C 1 [.int (nI 38)] (c_X5_takes l D cy ad b0 C.A (nI 38)) cal_X5_takes mw_222 (by decide) rfl rfl ⟨rmS_of (by decide), rmS_ol (by decide)⟩ ⟨rfl, rfl⟩ ⟨Nat.zero_le _, Nat.zero_le _⟩ (Nat.le_of_ble_eq_true rfl) rfl dX5_readBoth_16 h (fun r1 σ2 h => ?_)
    refine g_if_eq C 50 dX5_readBoth_19 (by decide) (fun c19 => ?_) (fun c19 => ?_)
    · have h := h.1 c19
      refine g_iload_n C dX5_readBoth_50 rfl ?_
      exact g_iret C dX5_readBoth_51 h
    · have h := h.2 c19
      refine g_aload_n C dX5_readBoth_22 rfl ?_
      refine fget_1_6_X5_35 C rfl dX5_readBoth_23 ?_
      refine g_topi (fun x26 e_x26 => ?_)
      have h := h x26 e_x26
      refine g_istore_n C [some (.ref (ad 1)), some (.int v1), some (.int v2), some (.int x26), none] dX5_readBoth_26 (by decide) rfl ?_
      refine g_aload_n C dX5_readBoth_27 rfl ?_
      refine g_callVi C 1 [] hS.2.2.2.1 cal_X5_readPair mw_253 (by decide) rfl rfl ⟨rmS_f, rmS_l (by decide)⟩ ⟨rfl, rfl⟩ ⟨Nat.zero_le _, Nat.zero_le _⟩ (Nat.le_of_ble_eq_true rfl) rfl dX5_readBoth_28 h (fun r3 σ4 h => ?_)
      refine g_istore C [some (.ref (ad 1)), some (.int v1), some (.int v2), some (.int x26), some (.int r3)] dX5_readBoth_31 (by decide) rfl ?_
      refine g_aload_n C dX5_readBoth_33 rfl ?_
      refine g_bipush C dX5_readBoth_34 kb_38 ?_
      refine g_iload_n C dX5_readBoth_36 rfl ?_
      refine g_iload C dX5_readBoth_37 rfl ?_
      refine g_iload_n C dX5_readBoth_39 rfl ?_
      refine g_callVi C 1 [.int (nI 38), .int v1, .int r3, .int x26] (c_X5_made l D cy ad b0 C.A (nI 38) v1 r3 x26) cal_X5_made mw_244 (by decide) rfl rfl ⟨rmS_of (by decide), rmS_ol (by decide)⟩ ⟨rfl, rfl⟩ ⟨Nat.zero_le _, Nat.zero_le _⟩ (Nat.le_of_ble_eq_true rfl) rfl dX5_readBoth_40 h (fun r5 σ6 h => ?_)
      refine g_istore_n C [some (.ref (ad 1)), some (.int r5), some (.int v2), some (.int x26), some (.int r3)] dX5_readBoth_43 (by decide) rfl ?_
      obtain ⟨x44, e_x44⟩ : ∃ v : Int32, v = v2 + (nI 1) := ⟨_, rfl⟩
      have h := h x44 e_x44
      refine g_iinc C [some (.ref (ad 1)), some (.int r5), some (.int x44), some (.int x26), some (.int r3)] dX5_readBoth_44 rfl e_x44.symm (by decide) rfl ?_
      refine g_goto C 7 dX5_readBoth_47 (by decide) ?_
      refine g_mask [true, true, true, false, false] rfl ?_
      exact hK7 r5 x44 σ6 h
def wl_X5_readBoth_7 (S : Nat → Sg → (Int32 → Sg → Prop) → Prop) (Q : Int32 → Sg → Prop) : Nat → Int32 → Int32 → Sg → Prop
  | 0, _, _, _ => False
  | n + 1, v1, v2, σ => wb_X5_readBoth_7 S v1 v2 (wl_X5_readBoth_7 S Q n) Q σ
set_option maxHeartbeats 4000000 in
set_option maxRecDepth 100000 in
theorem kl_X5_readBoth_7 {Q : Int32 → Sg → Prop} (C : Cx p s m args meth c D cy ad b0 yX5_readBoth cX5_readBoth 5 (some .int)) {d : Nat} {S : Nat → Sg → (Int32 → Sg → Prop) → Prop} (hS : hypS l D cy ad b0 d S) : ∀ (n : Nat) (v1 : Int32) (v2 : Int32) (σ : Sg), wl_X5_readBoth_7 S Q n v1 v2 σ → gI p l e (rmS (d + 1)) s m args below meth c D cy ad b0 Q 5 7 σ [some (.ref (ad 1)), some (.int v1), some (.int v2), none, none] [] := by
  intro n
  induction n with
  | zero => intro v1 v2 σ h; exact False.elim h
  | succ n ih =>
    intro v1 v2 σ h
    exact kb_X5_readBoth_7 C hS v1 v2 (wl_X5_readBoth_7 S Q n) (fun z1 z2 σ h => ih z1 z2 σ h) σ h
def wp_X5_readBoth (S : Nat → Sg → (Int32 → Sg → Prop) → Prop) (σ : Sg) (Q : Int32 → Sg → Prop) : Prop :=
  S 3 σ (fun r1 σ2 => ∃ n, wl_X5_readBoth_7 S Q n r1 (nI 0) σ2)
set_option maxHeartbeats 4000000 in
set_option maxRecDepth 100000 in
theorem c_X5_readBoth (l : Launch) (D : va_G) (cy : Nat → ClassId) (ad : Nat → Nat) (b0 : Nat) (hA : AdOk ad b0) {d : Nat} {S : Nat → Sg → (Int32 → Sg → Prop) → Prop} (hS : hypS l D cy ad b0 d S) : Cti l D cy ad b0 yX5_readBoth cX5_readBoth 5 (some .int) (rmS (d + 1)) [.ref (ad 1)] (fun σ Q => wp_X5_readBoth S σ Q) := by
  intro σ Q h
  refine g_enter hA rfl (Nat.le_of_ble_eq_true rfl) [some (.ref (ad 1)), none, none, none, none] rfl ?_
  intro p e s m args below meth c C
  refine g_aload_n C dX5_readBoth_0 rfl ?_
  refine g_callVi C 1 [] hS.2.2.2.1 cal_X5_readPair mw_253 (by decide) rfl rfl ⟨rmS_f, rmS_l (by decide)⟩ ⟨rfl, rfl⟩ ⟨Nat.zero_le _, Nat.zero_le _⟩ (Nat.le_of_ble_eq_true rfl) rfl dX5_readBoth_1 h (fun r1 σ2 h => ?_)
  refine g_istore_n C [some (.ref (ad 1)), some (.int r1), none, none, none] dX5_readBoth_4 (by decide) rfl ?_
  refine g_iconst C dX5_readBoth_5 kc_0 ?_
  refine g_istore_n C [some (.ref (ad 1)), some (.int r1), some (.int (nI 0)), none, none] dX5_readBoth_6 (by decide) rfl ?_
  obtain ⟨n, h⟩ := h
  exact kl_X5_readBoth_7 C hS n r1 (nI 0) σ2 h
def wp_X5_readPair_34 (S : Nat → Sg → (Int32 → Sg → Prop) → Prop) (v1 : Int32) (s0 : Int32) (Q : Int32 → Sg → Prop) (σ : Sg) : Prop :=
  ((¬ s0 = (-1 : Int32) → ∀ x46 : Int32, x46 = (gF σ 1 6) → (S 3 σ (fun r1 σ2 => wp_X5_made s0 v1 r1 x46 σ2 (fun r3 σ4 => Q r3 σ4)))) ∧ (s0 = (-1 : Int32) → Q v1 σ))
set_option maxHeartbeats 4000000 in
set_option maxRecDepth 100000 in
theorem k_X5_readPair_34 {Q : Int32 → Sg → Prop} (C : Cx p s m args meth c D cy ad b0 yX5_readPair cX5_readPair 5 (some .int)) {d : Nat} {S : Nat → Sg → (Int32 → Sg → Prop) → Prop} (hS : hypS l D cy ad b0 d S) (v1 : Int32) (s0 : Int32) (σ : Sg) (h : wp_X5_readPair_34 S v1 s0 Q σ) : gI p l e (rmS (d + 1)) s m args below meth c D cy ad b0 Q 5 34 σ [some (.ref (ad 1)), some (.int v1), none, none, none] [.int s0] := by
  refine g_istore_n C [some (.ref (ad 1)), some (.int v1), some (.int s0), none, none] dX5_readPair_34 (by decide) rfl ?_
  refine g_iload_n C dX5_readPair_35 rfl ?_
  refine g_iconst C dX5_readPair_36 kc_m1 ?_
  refine g_icmp_ne C 42 dX5_readPair_37 (by decide) (fun c37 => ?_) (fun c37 => ?_)
  · have h := h.1 c37
    refine g_aload_n C dX5_readPair_42 rfl ?_
    refine fget_1_6_X5_35 C rfl dX5_readPair_43 ?_
    refine g_topi (fun x46 e_x46 => ?_)
    have h := h x46 e_x46
    refine g_istore_n C [some (.ref (ad 1)), some (.int v1), some (.int s0), some (.int x46), none] dX5_readPair_46 (by decide) rfl ?_
    refine g_aload_n C dX5_readPair_47 rfl ?_
    refine g_callVi C 1 [] hS.2.2.2.1 cal_X5_readPair mw_253 (by decide) rfl rfl ⟨rmS_f, rmS_l (by decide)⟩ ⟨rfl, rfl⟩ ⟨Nat.zero_le _, Nat.zero_le _⟩ (Nat.le_of_ble_eq_true rfl) rfl dX5_readPair_48 h (fun r1 σ2 h => ?_)
    refine g_istore C [some (.ref (ad 1)), some (.int v1), some (.int s0), some (.int x46), some (.int r1)] dX5_readPair_51 (by decide) rfl ?_
    refine g_aload_n C dX5_readPair_53 rfl ?_
    refine g_iload_n C dX5_readPair_54 rfl ?_
    refine g_iload_n C dX5_readPair_55 rfl ?_
    refine g_iload C dX5_readPair_56 rfl ?_
    refine g_iload_n C dX5_readPair_58 rfl ?_
    refine g_callVi C 1 [.int s0, .int v1, .int r1, .int x46] (c_X5_made l D cy ad b0 C.A s0 v1 r1 x46) cal_X5_made mw_244 (by decide) rfl rfl ⟨rmS_of (by decide), rmS_ol (by decide)⟩ ⟨rfl, rfl⟩ ⟨Nat.zero_le _, Nat.zero_le _⟩ (Nat.le_of_ble_eq_true rfl) rfl dX5_readPair_59 h (fun r3 σ4 h => ?_)
    exact g_iret C dX5_readPair_62 h
  · have h := h.2 c37
    refine g_iload_n C dX5_readPair_40 rfl ?_
    exact g_iret C dX5_readPair_41 h
def wp_X5_readPair (S : Nat → Sg → (Int32 → Sg → Prop) → Prop) (σ : Sg) (Q : Int32 → Sg → Prop) : Prop :=
  S 4 σ (fun r1 σ2 => wp_X5_takes (nI 85) σ2 (fun r3 σ4 => ((r3 = (nI 0) → wp_X5_takes (nI 83) σ4 (fun r5 σ6 => ((r5 = (nI 0) → wp_X5_readPair_34 S r1 (-1 : Int32) Q σ6) ∧ (¬ r5 = (nI 0) → wp_X5_readPair_34 S r1 (nI 83) Q σ6)))) ∧ (¬ r3 = (nI 0) → wp_X5_readPair_34 S r1 (nI 85) Q σ4))))
set_option maxHeartbeats 4000000 in
set_option maxRecDepth 100000 in
theorem c_X5_readPair (l : Launch) (D : va_G) (cy : Nat → ClassId) (ad : Nat → Nat) (b0 : Nat) (hA : AdOk ad b0) {d : Nat} {S : Nat → Sg → (Int32 → Sg → Prop) → Prop} (hS : hypS l D cy ad b0 d S) : Cti l D cy ad b0 yX5_readPair cX5_readPair 5 (some .int) (rmS (d + 1)) [.ref (ad 1)] (fun σ Q => wp_X5_readPair S σ Q) := by
  intro σ Q h
  refine g_enter hA rfl (Nat.le_of_ble_eq_true rfl) [some (.ref (ad 1)), none, none, none, none] rfl ?_
  intro p e s m args below meth c C
  refine g_aload_n C dX5_readPair_0 rfl ?_
  refine g_callVi C 1 [] hS.2.2.2.2.1 cal_X5_readOne mw_274 (by decide) rfl rfl ⟨rmS_f, rmS_l (by decide)⟩ ⟨rfl, rfl⟩ ⟨Nat.zero_le _, Nat.zero_le _⟩ (Nat.le_of_ble_eq_true rfl) rfl dX5_readPair_1 h (fun r1 σ2 h => ?_)
  refine g_istore_n C [some (.ref (ad 1)), some (.int r1), none, none, none] dX5_readPair_4 (by decide) rfl ?_
  refine g_aload_n C dX5_readPair_5 rfl ?_
  refine g_bipush C dX5_readPair_6 kb_85 ?_
  refine g_callVi C 1 [.int (nI 85)] (c_X5_takes l D cy ad b0 C.A (nI 85)) cal_X5_takes mw_222 (by decide) rfl rfl ⟨rmS_of (by decide), rmS_ol (by decide)⟩ ⟨rfl, rfl⟩ ⟨Nat.zero_le _, Nat.zero_le _⟩ (Nat.le_of_ble_eq_true rfl) rfl dX5_readPair_8 h (fun r3 σ4 h => ?_)
  refine g_if_eq C 19 dX5_readPair_11 (by decide) (fun c11 => ?_) (fun c11 => ?_)
  · have h := h.1 c11
    refine g_aload_n C dX5_readPair_19 rfl ?_
    refine g_bipush C dX5_readPair_20 kb_83 ?_
    refine g_callVi C 1 [.int (nI 83)] (c_X5_takes l D cy ad b0 C.A (nI 83)) cal_X5_takes mw_222 (by decide) rfl rfl ⟨rmS_of (by decide), rmS_ol (by decide)⟩ ⟨rfl, rfl⟩ ⟨Nat.zero_le _, Nat.zero_le _⟩ (Nat.le_of_ble_eq_true rfl) rfl dX5_readPair_22 h (fun r5 σ6 h => ?_)
    refine g_if_eq C 33 dX5_readPair_25 (by decide) (fun c25 => ?_) (fun c25 => ?_)
    · have h := h.1 c25
      refine g_iconst C dX5_readPair_33 kc_m1 ?_
      exact k_X5_readPair_34 C hS r1 (-1 : Int32) σ6 h
    · have h := h.2 c25
      refine g_bipush C dX5_readPair_28 kb_83 ?_
      refine g_goto C 34 dX5_readPair_30 (by decide) ?_
      exact k_X5_readPair_34 C hS r1 (nI 83) σ6 h
  · have h := h.2 c11
    refine g_bipush C dX5_readPair_14 kb_85 ?_
    refine g_goto C 34 dX5_readPair_16 (by decide) ?_
    exact k_X5_readPair_34 C hS r1 (nI 85) σ4 h
def wp_X5_readOne_88 (S : Nat → Sg → (Int32 → Sg → Prop) → Prop) (v3 : Int32) (s0 : Int32) (s1 : Int32) (Q : Int32 → Sg → Prop) (σ : Sg) : Prop :=
  wp_X5_made s1 s0 (-9 : Int32) v3 σ (fun r1 σ2 => Q r1 σ2)
set_option maxHeartbeats 4000000 in
set_option maxRecDepth 100000 in
theorem k_X5_readOne_88 {Q : Int32 → Sg → Prop} (C : Cx p s m args meth c D cy ad b0 yX5_readOne cX5_readOne 4 (some .int)) {d : Nat} {S : Nat → Sg → (Int32 → Sg → Prop) → Prop} (hS : hypS l D cy ad b0 d S) (v3 : Int32) (s0 : Int32) (s1 : Int32) (σ : Sg) (h : wp_X5_readOne_88 S v3 s0 s1 Q σ) : gI p l e (rmS (d + 1)) s m args below meth c D cy ad b0 Q 4 88 σ [none, none, none, some (.int v3)] [.int s0, .int s1, .ref (ad 1)] := by
  refine g_bipush C dX5_readOne_88 kb_m9 ?_
  refine g_iload_n C dX5_readOne_90 rfl ?_
  refine g_callVi C 1 [.int s1, .int s0, .int (-9 : Int32), .int v3] (c_X5_made l D cy ad b0 C.A s1 s0 (-9 : Int32) v3) cal_X5_made mw_244 (by decide) rfl rfl ⟨rmS_of (by decide), rmS_ol (by decide)⟩ ⟨rfl, rfl⟩ ⟨Nat.zero_le _, Nat.zero_le _⟩ (Nat.le_of_ble_eq_true rfl) rfl dX5_readOne_91 h (fun r1 σ2 h => ?_)
  exact g_iret C dX5_readOne_94 h
def wp_X5_readOne_58 (S : Nat → Sg → (Int32 → Sg → Prop) → Prop) (v1 : Int32) (v2 : Int32) (Q : Int32 → Sg → Prop) (σ : Sg) : Prop :=
  wp_X5_beginsNode σ (fun r1 σ2 => ((¬ r1 = (nI 0) → ∀ x72 : Int32, x72 = (gF σ2 1 6) → (((v2 = (nI 0) → S 4 σ2 (fun r3 σ4 => wp_X5_readOne_88 S x72 r3 v1 Q σ4)) ∧ (¬ v2 = (nI 0) → wp_X5_readOne_88 S x72 (-9 : Int32) v1 Q σ2)))) ∧ (r1 = (nI 0) → Q (-9 : Int32) σ2)))
set_option maxHeartbeats 4000000 in
set_option maxRecDepth 100000 in
theorem k_X5_readOne_58 {Q : Int32 → Sg → Prop} (C : Cx p s m args meth c D cy ad b0 yX5_readOne cX5_readOne 4 (some .int)) {d : Nat} {S : Nat → Sg → (Int32 → Sg → Prop) → Prop} (hS : hypS l D cy ad b0 d S) (v1 : Int32) (v2 : Int32) (σ : Sg) (h : wp_X5_readOne_58 S v1 v2 Q σ) : gI p l e (rmS (d + 1)) s m args below meth c D cy ad b0 Q 4 58 σ [some (.ref (ad 1)), some (.int v1), some (.int v2), none] [] := by
  refine g_aload_n C dX5_readOne_58 rfl ?_
  refine g_callVi C 1 [] (c_X5_beginsNode l D cy ad b0 C.A) cal_X5_beginsNode mw_236 (by decide) rfl rfl ⟨rmS_of (by decide), rmS_ol (by decide)⟩ ⟨rfl, rfl⟩ ⟨Nat.zero_le _, Nat.zero_le _⟩ (Nat.le_of_ble_eq_true rfl) rfl dX5_readOne_59 h (fun r1 σ2 h => ?_)
  refine g_if_ne C 68 dX5_readOne_62 (by decide) (fun c62 => ?_) (fun c62 => ?_)
  · have h := h.1 c62
    refine g_aload_n C dX5_readOne_68 rfl ?_
    refine fget_1_6_X5_35 C rfl dX5_readOne_69 ?_
    refine g_topi (fun x72 e_x72 => ?_)
    have h := h x72 e_x72
    refine g_istore_n C [some (.ref (ad 1)), some (.int v1), some (.int v2), some (.int x72)] dX5_readOne_72 (by decide) rfl ?_
    refine g_aload_n C dX5_readOne_73 rfl ?_
    refine g_iload_n C dX5_readOne_74 rfl ?_
    refine g_iload_n C dX5_readOne_75 rfl ?_
    refine g_if_eq C 84 dX5_readOne_76 (by decide) (fun c76 => ?_) (fun c76 => ?_)
    · have h := h.1 c76
      refine g_aload_n C dX5_readOne_84 rfl ?_
      refine g_callVi C 1 [] hS.2.2.2.2.1 cal_X5_readOne mw_274 (by decide) rfl rfl ⟨rmS_f, rmS_l (by decide)⟩ ⟨rfl, rfl⟩ ⟨Nat.zero_le _, Nat.zero_le _⟩ (Nat.le_of_ble_eq_true rfl) rfl dX5_readOne_85 h (fun r3 σ4 h => ?_)
      refine g_mask [false, false, false, true] rfl ?_
      exact k_X5_readOne_88 C hS x72 r3 v1 σ4 h
    · have h := h.2 c76
      refine g_bipush C dX5_readOne_79 kb_m9 ?_
      refine g_goto C 88 dX5_readOne_81 (by decide) ?_
      refine g_mask [false, false, false, true] rfl ?_
      exact k_X5_readOne_88 C hS x72 (-9 : Int32) v1 σ2 h
  · have h := h.2 c62
    refine g_bipush C dX5_readOne_65 kb_m9 ?_
    exact g_iret C dX5_readOne_67 h
def wp_X5_readOne_39 (S : Nat → Sg → (Int32 → Sg → Prop) → Prop) (v1 : Int32) (s0 : Int32) (Q : Int32 → Sg → Prop) (σ : Sg) : Prop :=
  ((¬ s0 = (nI 0) → wp_X5_readOne_58 S v1 s0 Q σ) ∧ (s0 = (nI 0) → wp_X5_standsAheadOfOne v1 σ (fun r1 σ2 => ((¬ r1 = (nI 0) → wp_X5_readOne_58 S v1 s0 Q σ2) ∧ (r1 = (nI 0) → wp_X5_failHere σ2 (fun σ3 => Q (-9 : Int32) σ3))))))
set_option maxHeartbeats 4000000 in
set_option maxRecDepth 100000 in
theorem k_X5_readOne_39 {Q : Int32 → Sg → Prop} (C : Cx p s m args meth c D cy ad b0 yX5_readOne cX5_readOne 4 (some .int)) {d : Nat} {S : Nat → Sg → (Int32 → Sg → Prop) → Prop} (hS : hypS l D cy ad b0 d S) (v1 : Int32) (s0 : Int32) (σ : Sg) (h : wp_X5_readOne_39 S v1 s0 Q σ) : gI p l e (rmS (d + 1)) s m args below meth c D cy ad b0 Q 4 39 σ [some (.ref (ad 1)), some (.int v1), none, none] [.int s0] := by
  refine g_istore_n C [some (.ref (ad 1)), some (.int v1), some (.int s0), none] dX5_readOne_39 (by decide) rfl ?_
  refine g_iload_n C dX5_readOne_40 rfl ?_
  refine g_if_ne C 58 dX5_readOne_41 (by decide) (fun c41 => ?_) (fun c41 => ?_)
  · have h := h.1 c41
    exact k_X5_readOne_58 C hS v1 s0 σ h
  · have h := h.2 c41
    refine g_iload_n C dX5_readOne_44 rfl ?_
    refine g_callSi C [.int v1] (c_X5_standsAheadOfOne l D cy ad b0 C.A v1) cal_X5_standsAheadOfOne mw_265 rfl ⟨rmS_of (by decide), rmS_ol (by decide)⟩ ⟨rfl, rfl⟩ ⟨Nat.zero_le _, Nat.zero_le _⟩ (Nat.le_of_ble_eq_true rfl) rfl dX5_readOne_45 h (fun r1 σ2 h => ?_)
    refine g_if_ne C 58 dX5_readOne_48 (by decide) (fun c48 => ?_) (fun c48 => ?_)
    · have h := h.1 c48
      exact k_X5_readOne_58 C hS v1 s0 σ2 h
    · have h := h.2 c48
      refine g_aload_n C dX5_readOne_51 rfl ?_
      refine g_callVv C 1 [] (c_X5_failHere l D cy ad b0 C.A) cal_X5_failHere mw_240 (by decide) rfl rfl ⟨rmS_of (by decide), rmS_ol (by decide)⟩ ⟨rfl, rfl⟩ ⟨Nat.zero_le _, Nat.zero_le _⟩ (Nat.le_of_ble_eq_true rfl) rfl dX5_readOne_52 h (fun σ3 h => ?_)
      refine g_bipush C dX5_readOne_55 kb_m9 ?_
      exact g_iret C dX5_readOne_57 h
def wp_X5_readOne_38 (S : Nat → Sg → (Int32 → Sg → Prop) → Prop) (v1 : Int32) (Q : Int32 → Sg → Prop) (σ : Sg) : Prop :=
  wp_X5_readOne_39 S v1 (nI 0) Q σ
set_option maxHeartbeats 4000000 in
set_option maxRecDepth 100000 in
theorem k_X5_readOne_38 {Q : Int32 → Sg → Prop} (C : Cx p s m args meth c D cy ad b0 yX5_readOne cX5_readOne 4 (some .int)) {d : Nat} {S : Nat → Sg → (Int32 → Sg → Prop) → Prop} (hS : hypS l D cy ad b0 d S) (v1 : Int32) (σ : Sg) (h : wp_X5_readOne_38 S v1 Q σ) : gI p l e (rmS (d + 1)) s m args below meth c D cy ad b0 Q 4 38 σ [some (.ref (ad 1)), some (.int v1), none, none] [] := by
  refine g_iconst C dX5_readOne_38 kc_0 ?_
  exact k_X5_readOne_39 C hS v1 (nI 0) σ h
def wp_X5_readOne_34 (S : Nat → Sg → (Int32 → Sg → Prop) → Prop) (v1 : Int32) (Q : Int32 → Sg → Prop) (σ : Sg) : Prop :=
  wp_X5_readOne_39 S v1 (nI 1) Q σ
set_option maxHeartbeats 4000000 in
set_option maxRecDepth 100000 in
theorem k_X5_readOne_34 {Q : Int32 → Sg → Prop} (C : Cx p s m args meth c D cy ad b0 yX5_readOne cX5_readOne 4 (some .int)) {d : Nat} {S : Nat → Sg → (Int32 → Sg → Prop) → Prop} (hS : hypS l D cy ad b0 d S) (v1 : Int32) (σ : Sg) (h : wp_X5_readOne_34 S v1 Q σ) : gI p l e (rmS (d + 1)) s m args below meth c D cy ad b0 Q 4 34 σ [some (.ref (ad 1)), some (.int v1), none, none] [] := by
  refine g_iconst C dX5_readOne_34 kc_1 ?_
  refine g_goto C 39 dX5_readOne_35 (by decide) ?_
  exact k_X5_readOne_39 C hS v1 (nI 1) σ h
def wp_X5_readOne (S : Nat → Sg → (Int32 → Sg → Prop) → Prop) (σ : Sg) (Q : Int32 → Sg → Prop) : Prop :=
  wp_X5_here σ (fun r1 σ2 => ((¬ r1 = (nI 40) → ((r1 = (nI 46) → wp_X5_readOne_34 S r1 Q σ2) ∧ (¬ r1 = (nI 46) → ((r1 < (nI 97) → wp_X5_readOne_38 S r1 Q σ2) ∧ (¬ r1 < (nI 97) → (((nI 101) ≤ r1 → wp_X5_readOne_38 S r1 Q σ2) ∧ (¬ (nI 101) ≤ r1 → wp_X5_readOne_34 S r1 Q σ2))))))) ∧ (r1 = (nI 40) → S 5 σ2 (fun r3 σ4 => Q r3 σ4))))
set_option maxHeartbeats 4000000 in
set_option maxRecDepth 100000 in
theorem c_X5_readOne (l : Launch) (D : va_G) (cy : Nat → ClassId) (ad : Nat → Nat) (b0 : Nat) (hA : AdOk ad b0) {d : Nat} {S : Nat → Sg → (Int32 → Sg → Prop) → Prop} (hS : hypS l D cy ad b0 d S) : Cti l D cy ad b0 yX5_readOne cX5_readOne 4 (some .int) (rmS (d + 1)) [.ref (ad 1)] (fun σ Q => wp_X5_readOne S σ Q) := by
  intro σ Q h
  refine g_enter hA rfl (Nat.le_of_ble_eq_true rfl) [some (.ref (ad 1)), none, none, none] rfl ?_
  intro p e s m args below meth c C
  refine g_aload_n C dX5_readOne_0 rfl ?_
  refine g_callVi C 1 [] (c_X5_here l D cy ad b0 C.A) cal_X5_here mw_230 (by decide) rfl rfl ⟨rmS_of (by decide), rmS_ol (by decide)⟩ ⟨rfl, rfl⟩ ⟨Nat.zero_le _, Nat.zero_le _⟩ (Nat.le_of_ble_eq_true rfl) rfl dX5_readOne_1 h (fun r1 σ2 h => ?_)
  refine g_istore_n C [some (.ref (ad 1)), some (.int r1), none, none] dX5_readOne_4 (by decide) rfl ?_
  refine g_iload_n C dX5_readOne_5 rfl ?_
  refine g_bipush C dX5_readOne_6 kb_40 ?_
  refine g_icmp_ne C 16 dX5_readOne_8 (by decide) (fun c8 => ?_) (fun c8 => ?_)
  · have h := h.1 c8
    refine g_iload_n C dX5_readOne_16 rfl ?_
    refine g_bipush C dX5_readOne_17 kb_46 ?_
    refine g_icmp_eq C 34 dX5_readOne_19 (by decide) (fun c19 => ?_) (fun c19 => ?_)
    · have h := h.1 c19
      exact k_X5_readOne_34 C hS r1 σ2 h
    · have h := h.2 c19
      refine g_iload_n C dX5_readOne_22 rfl ?_
      refine g_bipush C dX5_readOne_23 kb_97 ?_
      refine g_icmp_lt C 38 dX5_readOne_25 (by decide) (fun c25 => ?_) (fun c25 => ?_)
      · have h := h.1 c25
        exact k_X5_readOne_38 C hS r1 σ2 h
      · have h := h.2 c25
        refine g_iload_n C dX5_readOne_28 rfl ?_
        refine g_bipush C dX5_readOne_29 kb_101 ?_
        refine g_icmp_ge C 38 dX5_readOne_31 (by decide) (fun c31 => ?_) (fun c31 => ?_)
        · have h := h.1 c31
          exact k_X5_readOne_38 C hS r1 σ2 h
        · have h := h.2 c31
          exact k_X5_readOne_34 C hS r1 σ2 h
  · have h := h.2 c8
    refine g_aload_n C dX5_readOne_11 rfl ?_
    refine g_callVi C 1 [] hS.2.2.2.2.2 cal_X5_readBracket mw_262 (by decide) rfl rfl ⟨rmS_f, rmS_l (by decide)⟩ ⟨rfl, rfl⟩ ⟨Nat.zero_le _, Nat.zero_le _⟩ (Nat.le_of_ble_eq_true rfl) rfl dX5_readOne_12 h (fun r3 σ4 h => ?_)
    exact g_iret C dX5_readOne_15 h
def wp_X5_readBracket_61 (S : Nat → Sg → (Int32 → Sg → Prop) → Prop) (v1 : Int32) (Q : Int32 → Sg → Prop) (σ : Sg) : Prop :=
  ∀ σ1 : Sg, σ1 = stF σ 1 3 ((gF σ 1 3) + (nI 1)) → (∀ σ2 : Sg, σ2 = stF σ1 1 5 ((gF σ1 1 5) - (nI 1)) → (Q v1 σ2))
set_option maxHeartbeats 4000000 in
set_option maxRecDepth 100000 in
theorem k_X5_readBracket_61 {Q : Int32 → Sg → Prop} (C : Cx p s m args meth c D cy ad b0 yX5_readBracket cX5_readBracket 2 (some .int)) {d : Nat} {S : Nat → Sg → (Int32 → Sg → Prop) → Prop} (hS : hypS l D cy ad b0 d S) (v1 : Int32) (σ : Sg) (h : wp_X5_readBracket_61 S v1 Q σ) : gI p l e (rmS (d + 1)) s m args below meth c D cy ad b0 Q 2 61 σ [some (.ref (ad 1)), some (.int v1)] [] := by
  refine g_aload_n C dX5_readBracket_61 rfl ?_
  refine g_dup C dX5_readBracket_62 rfl ?_
  refine fget_1_3_X5_26 C rfl dX5_readBracket_63 ?_
  refine g_iconst C dX5_readBracket_66 kc_1 ?_
  refine g_iadd C dX5_readBracket_67 ?_
  refine fput_1_3_X5_26 C rfl dX5_readBracket_68 (fun σ1 e_σ1 => ?_)
  have h := h σ1 e_σ1
  refine g_aload_n C dX5_readBracket_71 rfl ?_
  refine g_dup C dX5_readBracket_72 rfl ?_
  refine fget_1_5_X5_32 C rfl dX5_readBracket_73 ?_
  refine g_iconst C dX5_readBracket_76 kc_1 ?_
  refine g_isub C dX5_readBracket_77 ?_
  refine fput_1_5_X5_32 C rfl dX5_readBracket_78 (fun σ2 e_σ2 => ?_)
  have h := h σ2 e_σ2
  refine g_iload_n C dX5_readBracket_81 rfl ?_
  exact g_iret C dX5_readBracket_82 h
def wp_X5_readBracket (S : Nat → Sg → (Int32 → Sg → Prop) → Prop) (σ : Sg) (Q : Int32 → Sg → Prop) : Prop :=
  (((gF σ 1 5) ≤ (nI 7) → ∀ σ1 : Sg, σ1 = stF σ 1 5 ((gF σ 1 5) + (nI 1)) → (∀ σ2 : Sg, σ2 = stF σ1 1 3 ((gF σ1 1 3) + (nI 1)) → (S 0 σ2 (fun r3 σ4 => wp_X5_failed σ4 (fun r5 σ6 => ((¬ r5 = (nI 0) → wp_X5_readBracket_61 S r3 Q σ6) ∧ (r5 = (nI 0) → wp_X5_here σ6 (fun r7 σ8 => ((r7 = (nI 41) → wp_X5_readBracket_61 S r3 Q σ8) ∧ (¬ r7 = (nI 41) → wp_X5_failHere σ8 (fun σ9 => wp_X5_readBracket_61 S r3 Q σ9))))))))))) ∧ (¬ (gF σ 1 5) ≤ (nI 7) → wp_X5_failHere σ (fun σ10 => Q (-9 : Int32) σ10)))
set_option maxHeartbeats 4000000 in
set_option maxRecDepth 100000 in
theorem c_X5_readBracket (l : Launch) (D : va_G) (cy : Nat → ClassId) (ad : Nat → Nat) (b0 : Nat) (hA : AdOk ad b0) {d : Nat} {S : Nat → Sg → (Int32 → Sg → Prop) → Prop} (hS : hypS l D cy ad b0 d S) : Cti l D cy ad b0 yX5_readBracket cX5_readBracket 2 (some .int) (rmS (d + 1)) [.ref (ad 1)] (fun σ Q => wp_X5_readBracket S σ Q) := by
  intro σ Q h
  refine g_enter hA rfl (Nat.le_of_ble_eq_true rfl) [some (.ref (ad 1)), none] rfl ?_
  intro p e s m args below meth c C
  refine g_aload_n C dX5_readBracket_0 rfl ?_
  refine fget_1_5_X5_32 C rfl dX5_readBracket_1 ?_
  refine g_bipush C dX5_readBracket_4 kb_7 ?_
  refine g_icmp_le C 16 dX5_readBracket_6 (by decide) (fun c6 => ?_) (fun c6 => ?_)
  · have h := h.1 c6
    refine g_aload_n C dX5_readBracket_16 rfl ?_
    refine g_dup C dX5_readBracket_17 rfl ?_
    refine fget_1_5_X5_32 C rfl dX5_readBracket_18 ?_
    refine g_iconst C dX5_readBracket_21 kc_1 ?_
    refine g_iadd C dX5_readBracket_22 ?_
    refine fput_1_5_X5_32 C rfl dX5_readBracket_23 (fun σ1 e_σ1 => ?_)
    have h := h σ1 e_σ1
    refine g_aload_n C dX5_readBracket_26 rfl ?_
    refine g_dup C dX5_readBracket_27 rfl ?_
    refine fget_1_3_X5_26 C rfl dX5_readBracket_28 ?_
    refine g_iconst C dX5_readBracket_31 kc_1 ?_
    refine g_iadd C dX5_readBracket_32 ?_
    refine fput_1_3_X5_26 C rfl dX5_readBracket_33 (fun σ2 e_σ2 => ?_)
    have h := h σ2 e_σ2
    refine g_aload_n C dX5_readBracket_36 rfl ?_
    refine g_callVi C 1 [] hS.1 cal_X5_readRule mw_215 (by decide) rfl rfl ⟨rmS_f, rmS_l (by decide)⟩ ⟨rfl, rfl⟩ ⟨Nat.zero_le _, Nat.zero_le _⟩ (Nat.le_of_ble_eq_true rfl) rfl dX5_readBracket_37 h (fun r3 σ4 h => ?_)
    refine g_istore_n C [some (.ref (ad 1)), some (.int r3)] dX5_readBracket_40 (by decide) rfl ?_
    refine g_aload_n C dX5_readBracket_41 rfl ?_
    refine g_callVi C 1 [] (c_X5_failed l D cy ad b0 C.A) cal_X5_failed mw_226 (by decide) rfl rfl ⟨rmS_of (by decide), rmS_ol (by decide)⟩ ⟨rfl, rfl⟩ ⟨Nat.zero_le _, Nat.zero_le _⟩ (Nat.le_of_ble_eq_true rfl) rfl dX5_readBracket_42 h (fun r5 σ6 h => ?_)
    refine g_if_ne C 61 dX5_readBracket_45 (by decide) (fun c45 => ?_) (fun c45 => ?_)
    · have h := h.1 c45
      exact k_X5_readBracket_61 C hS r3 σ6 h
    · have h := h.2 c45
      refine g_aload_n C dX5_readBracket_48 rfl ?_
      refine g_callVi C 1 [] (c_X5_here l D cy ad b0 C.A) cal_X5_here mw_230 (by decide) rfl rfl ⟨rmS_of (by decide), rmS_ol (by decide)⟩ ⟨rfl, rfl⟩ ⟨Nat.zero_le _, Nat.zero_le _⟩ (Nat.le_of_ble_eq_true rfl) rfl dX5_readBracket_49 h (fun r7 σ8 h => ?_)
      refine g_bipush C dX5_readBracket_52 kb_41 ?_
      refine g_icmp_eq C 61 dX5_readBracket_54 (by decide) (fun c54 => ?_) (fun c54 => ?_)
      · have h := h.1 c54
        exact k_X5_readBracket_61 C hS r3 σ8 h
      · have h := h.2 c54
        refine g_aload_n C dX5_readBracket_57 rfl ?_
        refine g_callVv C 1 [] (c_X5_failHere l D cy ad b0 C.A) cal_X5_failHere mw_240 (by decide) rfl rfl ⟨rmS_of (by decide), rmS_ol (by decide)⟩ ⟨rfl, rfl⟩ ⟨Nat.zero_le _, Nat.zero_le _⟩ (Nat.le_of_ble_eq_true rfl) rfl dX5_readBracket_58 h (fun σ9 h => ?_)
        exact k_X5_readBracket_61 C hS r3 σ9 h
  · have h := h.2 c6
    refine g_aload_n C dX5_readBracket_9 rfl ?_
    refine g_callVv C 1 [] (c_X5_failHere l D cy ad b0 C.A) cal_X5_failHere mw_240 (by decide) rfl rfl ⟨rmS_of (by decide), rmS_ol (by decide)⟩ ⟨rfl, rfl⟩ ⟨Nat.zero_le _, Nat.zero_le _⟩ (Nat.le_of_ble_eq_true rfl) rfl dX5_readBracket_10 h (fun σ10 h => ?_)
    refine g_bipush C dX5_readBracket_13 kb_m9 ?_
    exact g_iret C dX5_readBracket_15 h
def wpS : Nat → Nat → Sg → (Int32 → Sg → Prop) → Prop
  | 0, _, _, _ => False
  | d + 1, k, σ, Q => match k with
    | 0 => wp_X5_readRule (wpS d) σ Q
    | 1 => wp_X5_readEither (wpS d) σ Q
    | 2 => wp_X5_readBoth (wpS d) σ Q
    | 3 => wp_X5_readPair (wpS d) σ Q
    | 4 => wp_X5_readOne (wpS d) σ Q
    | _ => wp_X5_readBracket (wpS d) σ Q
theorem c_S (l : Launch) (D : va_G) (cy : Nat → ClassId) (ad : Nat → Nat) (b0 : Nat) (hA : AdOk ad b0) : ∀ d, hypS l D cy ad b0 d (wpS d)
  | 0 => ⟨fun σ Q h => False.elim h, fun σ Q h => False.elim h, fun σ Q h => False.elim h, fun σ Q h => False.elim h, fun σ Q h => False.elim h, fun σ Q h => False.elim h⟩
  | d + 1 => ⟨fun σ Q h => c_X5_readRule l D cy ad b0 hA (c_S l D cy ad b0 hA d) σ Q h, fun σ Q h => c_X5_readEither l D cy ad b0 hA (c_S l D cy ad b0 hA d) σ Q h, fun σ Q h => c_X5_readBoth l D cy ad b0 hA (c_S l D cy ad b0 hA d) σ Q h, fun σ Q h => c_X5_readPair l D cy ad b0 hA (c_S l D cy ad b0 hA d) σ Q h, fun σ Q h => c_X5_readOne l D cy ad b0 hA (c_S l D cy ad b0 hA d) σ Q h, fun σ Q h => c_X5_readBracket l D cy ad b0 hA (c_S l D cy ad b0 hA d) σ Q h⟩
def rm_X5_reads : Room := { frames := 120, cells := 0, slots := 0, locals := 2800 }
def wp_X5_reads_97 (Q : Int32 → Sg → Prop) (σ : Sg) : Prop :=
  wp_X5_failed σ (fun r1 σ2 => ((¬ r1 = (nI 0) → Q (nI 0) σ2) ∧ (r1 = (nI 0) → Q (nI 1) σ2)))
set_option maxHeartbeats 4000000 in
set_option maxRecDepth 100000 in
theorem k_X5_reads_97 {Q : Int32 → Sg → Prop} (C : Cx p s m args meth c D cy ad b0 yX5_reads cX5_reads 4 (some .boolean)) (σ : Sg) (h : wp_X5_reads_97 Q σ) : gI p l e rm_X5_reads s m args below meth c D cy ad b0 Q 4 97 σ [some (.ref (ad 1)), none, none, none] [] := by
  refine g_aload_n C dX5_reads_97 rfl ?_
  refine g_callVi C 1 [] (c_X5_failed l D cy ad b0 C.A) cal_X5_failed mw_226 (by decide) rfl rfl ⟨Nat.le_of_ble_eq_true rfl, Nat.le_of_ble_eq_true rfl⟩ ⟨rfl, rfl⟩ ⟨Nat.zero_le _, Nat.zero_le _⟩ (Nat.le_of_ble_eq_true rfl) rfl dX5_reads_98 h (fun r1 σ2 h => ?_)
  refine g_if_ne C 108 dX5_reads_101 (by decide) (fun c101 => ?_) (fun c101 => ?_)
  · have h := h.1 c101
    refine g_iconst C dX5_reads_108 kc_0 ?_
    exact g_zret C (narrow_bl bl_0) dX5_reads_109 h
  · have h := h.2 c101
    refine g_iconst C dX5_reads_104 kc_1 ?_
    refine g_goto C 109 dX5_reads_105 (by decide) ?_
    exact g_zret C (narrow_bl bl_1) dX5_reads_109 h
def wp_X5_reads_66 (Q : Int32 → Sg → Prop) (σ : Sg) : Prop :=
  wp_X5_failed σ (fun r1 σ2 => ((¬ r1 = (nI 0) → wp_X5_reads_97 Q σ2) ∧ (r1 = (nI 0) → wp_X6_firstPastFault σ2 (fun r3 σ4 => ((r3 = (-9 : Int32) → wp_X5_reads_97 Q σ4) ∧ (¬ r3 = (-9 : Int32) → ∀ σ5 : Sg, σ5 = stF σ4 1 7 (nI 2) → (∀ σ6 : Sg, σ6 = stF σ5 1 8 r3 → (wp_X5_reads_97 Q σ6))))))))
set_option maxHeartbeats 4000000 in
set_option maxRecDepth 100000 in
theorem k_X5_reads_66 {Q : Int32 → Sg → Prop} (C : Cx p s m args meth c D cy ad b0 yX5_reads cX5_reads 4 (some .boolean)) (σ : Sg) (h : wp_X5_reads_66 Q σ) : gI p l e rm_X5_reads s m args below meth c D cy ad b0 Q 4 66 σ [some (.ref (ad 1)), none, none, none] [] := by
  refine g_aload_n C dX5_reads_66 rfl ?_
  refine g_callVi C 1 [] (c_X5_failed l D cy ad b0 C.A) cal_X5_failed mw_226 (by decide) rfl rfl ⟨Nat.le_of_ble_eq_true rfl, Nat.le_of_ble_eq_true rfl⟩ ⟨rfl, rfl⟩ ⟨Nat.zero_le _, Nat.zero_le _⟩ (Nat.le_of_ble_eq_true rfl) rfl dX5_reads_67 h (fun r1 σ2 h => ?_)
  refine g_if_ne C 97 dX5_reads_70 (by decide) (fun c70 => ?_) (fun c70 => ?_)
  · have h := h.1 c70
    exact k_X5_reads_97 C σ2 h
  · have h := h.2 c70
    refine g_aload_n C dX5_reads_73 rfl ?_
    refine fget_1_0_X5_12 C rfl dX5_reads_74 ?_
    refine g_callVi C 2 [] (c_X6_firstPastFault l D cy ad b0 C.A) cal_X6_firstPastFault mw_278 (by decide) rfl rfl ⟨Nat.le_of_ble_eq_true rfl, Nat.le_of_ble_eq_true rfl⟩ ⟨rfl, rfl⟩ ⟨Nat.zero_le _, Nat.zero_le _⟩ (Nat.le_of_ble_eq_true rfl) rfl dX5_reads_77 h (fun r3 σ4 h => ?_)
    refine g_istore_n C [some (.ref (ad 1)), none, none, some (.int r3)] dX5_reads_80 (by decide) rfl ?_
    refine g_iload_n C dX5_reads_81 rfl ?_
    refine g_bipush C dX5_reads_82 kb_m9 ?_
    refine g_icmp_eq C 97 dX5_reads_84 (by decide) (fun c84 => ?_) (fun c84 => ?_)
    · have h := h.1 c84
      refine g_mask [true, false, false, false] rfl ?_
      exact k_X5_reads_97 C σ4 h
    · have h := h.2 c84
      refine g_aload_n C dX5_reads_87 rfl ?_
      refine g_iconst C dX5_reads_88 kc_2 ?_
      refine fput_1_7_X5_38 C rfl dX5_reads_89 (fun σ5 e_σ5 => ?_)
      have h := h σ5 e_σ5
      refine g_aload_n C dX5_reads_92 rfl ?_
      refine g_iload_n C dX5_reads_93 rfl ?_
      refine fput_1_8_X5_41 C rfl dX5_reads_94 (fun σ6 e_σ6 => ?_)
      have h := h σ6 e_σ6
      refine g_mask [true, false, false, false] rfl ?_
      exact k_X5_reads_97 C σ6 h
def wp_X5_reads (a1 : Int32) (σ : Sg) (Q : Int32 → Sg → Prop) : Prop :=
  ∃ dS, dS < 100 ∧ ∀ σ1 : Sg, σ1 = stR σ 1 1 11 → (∀ σ2 : Sg, σ2 = stF σ1 1 2 a1 → (∀ σ3 : Sg, σ3 = stF σ2 1 3 (nI 0) → (∀ σ4 : Sg, σ4 = stF σ3 1 4 (nI 0) → (∀ σ5 : Sg, σ5 = stF σ4 1 5 (nI 0) → (∀ σ6 : Sg, σ6 = stF σ5 1 7 (nI 0) → (∀ σ7 : Sg, σ7 = stF σ6 1 8 (nI 0) → (wp_X6_clear σ7 (fun σ8 => wpS dS 0 σ8 (fun r9 σ10 => wp_X5_failed σ10 (fun r11 σ12 => ((¬ r11 = (nI 0) → wp_X5_reads_66 Q σ12) ∧ (r11 = (nI 0) → wp_X5_here σ12 (fun r13 σ14 => ((r13 = (-1 : Int32) → wp_X5_reads_66 Q σ14) ∧ (¬ r13 = (-1 : Int32) → wp_X5_failHere σ14 (fun σ15 => wp_X5_reads_66 Q σ15))))))))))))))))
set_option maxHeartbeats 4000000 in
set_option maxRecDepth 100000 in
theorem c_X5_reads (l : Launch) (D : va_G) (cy : Nat → ClassId) (ad : Nat → Nat) (b0 : Nat) (hA : AdOk ad b0) (a1 : Int32) : Cti l D cy ad b0 yX5_reads cX5_reads 4 (some .boolean) rm_X5_reads [.ref (ad 1), .ref (ad 11), .int a1] (fun σ Q => wp_X5_reads a1 σ Q) := by
  intro σ Q h
  obtain ⟨dS, hdS, h⟩ := h
  refine g_enter hA rfl (Nat.le_of_ble_eq_true rfl) [some (.ref (ad 1)), some (.ref (ad 11)), some (.int a1), none] rfl ?_
  intro p e s m args below meth c C
  refine g_aload_n C dX5_reads_0 rfl ?_
  refine g_aload_n C dX5_reads_1 rfl ?_
  refine fput_1_1_X5_18 C rfl dX5_reads_2 (fun σ1 e_σ1 => ?_)
  have h := h σ1 e_σ1
  refine g_aload_n C dX5_reads_5 rfl ?_
  refine g_iload_n C dX5_reads_6 rfl ?_
  refine fput_1_2_X5_22 C rfl dX5_reads_7 (fun σ2 e_σ2 => ?_)
  have h := h σ2 e_σ2
  refine g_aload_n C dX5_reads_10 rfl ?_
  refine g_iconst C dX5_reads_11 kc_0 ?_
  refine fput_1_3_X5_26 C rfl dX5_reads_12 (fun σ3 e_σ3 => ?_)
  have h := h σ3 e_σ3
  refine g_aload_n C dX5_reads_15 rfl ?_
  refine g_iconst C dX5_reads_16 kc_0 ?_
  refine fput_1_4_X5_29 C rfl dX5_reads_17 (fun σ4 e_σ4 => ?_)
  have h := h σ4 e_σ4
  refine g_aload_n C dX5_reads_20 rfl ?_
  refine g_iconst C dX5_reads_21 kc_0 ?_
  refine fput_1_5_X5_32 C rfl dX5_reads_22 (fun σ5 e_σ5 => ?_)
  have h := h σ5 e_σ5
  refine g_aload_n C dX5_reads_25 rfl ?_
  refine g_iconst C dX5_reads_26 kc_0 ?_
  refine fput_1_7_X5_38 C rfl dX5_reads_27 (fun σ6 e_σ6 => ?_)
  have h := h σ6 e_σ6
  refine g_aload_n C dX5_reads_30 rfl ?_
  refine g_iconst C dX5_reads_31 kc_0 ?_
  refine fput_1_8_X5_41 C rfl dX5_reads_32 (fun σ7 e_σ7 => ?_)
  have h := h σ7 e_σ7
  refine g_aload_n C dX5_reads_35 rfl ?_
  refine fget_1_0_X5_12 C rfl dX5_reads_36 ?_
  refine g_callVv C 2 [] (c_X6_clear l D cy ad b0 C.A) cal_X6_clear mw_211 (by decide) rfl rfl ⟨Nat.le_of_ble_eq_true rfl, Nat.le_of_ble_eq_true rfl⟩ ⟨rfl, rfl⟩ ⟨Nat.zero_le _, Nat.zero_le _⟩ (Nat.le_of_ble_eq_true rfl) rfl dX5_reads_39 h (fun σ8 h => ?_)
  refine g_aload_n C dX5_reads_42 rfl ?_
  refine g_callVi C 1 [] (c_S l D cy ad b0 C.A dS).1 cal_X5_readRule mw_215 (by decide) rfl rfl ⟨rmS_uf hdS (Nat.le_of_ble_eq_true rfl), rmS_ul hdS (by decide) (Nat.le_of_ble_eq_true rfl)⟩ ⟨rfl, rfl⟩ ⟨Nat.zero_le _, Nat.zero_le _⟩ (Nat.le_of_ble_eq_true rfl) rfl dX5_reads_43 h (fun r9 σ10 h => ?_)
  refine g_pop C dX5_reads_46 rfl ?_
  refine g_aload_n C dX5_reads_47 rfl ?_
  refine g_callVi C 1 [] (c_X5_failed l D cy ad b0 C.A) cal_X5_failed mw_226 (by decide) rfl rfl ⟨Nat.le_of_ble_eq_true rfl, Nat.le_of_ble_eq_true rfl⟩ ⟨rfl, rfl⟩ ⟨Nat.zero_le _, Nat.zero_le _⟩ (Nat.le_of_ble_eq_true rfl) rfl dX5_reads_48 h (fun r11 σ12 h => ?_)
  refine g_if_ne C 66 dX5_reads_51 (by decide) (fun c51 => ?_) (fun c51 => ?_)
  · have h := h.1 c51
    refine g_mask [true, false, false, false] rfl ?_
    exact k_X5_reads_66 C σ12 h
  · have h := h.2 c51
    refine g_aload_n C dX5_reads_54 rfl ?_
    refine g_callVi C 1 [] (c_X5_here l D cy ad b0 C.A) cal_X5_here mw_230 (by decide) rfl rfl ⟨Nat.le_of_ble_eq_true rfl, Nat.le_of_ble_eq_true rfl⟩ ⟨rfl, rfl⟩ ⟨Nat.zero_le _, Nat.zero_le _⟩ (Nat.le_of_ble_eq_true rfl) rfl dX5_reads_55 h (fun r13 σ14 h => ?_)
    refine g_iconst C dX5_reads_58 kc_m1 ?_
    refine g_icmp_eq C 66 dX5_reads_59 (by decide) (fun c59 => ?_) (fun c59 => ?_)
    · have h := h.1 c59
      refine g_mask [true, false, false, false] rfl ?_
      exact k_X5_reads_66 C σ14 h
    · have h := h.2 c59
      refine g_aload_n C dX5_reads_62 rfl ?_
      refine g_callVv C 1 [] (c_X5_failHere l D cy ad b0 C.A) cal_X5_failHere mw_240 (by decide) rfl rfl ⟨Nat.le_of_ble_eq_true rfl, Nat.le_of_ble_eq_true rfl⟩ ⟨rfl, rfl⟩ ⟨Nat.zero_le _, Nat.zero_le _⟩ (Nat.le_of_ble_eq_true rfl) rfl dX5_reads_63 h (fun σ15 h => ?_)
      refine g_mask [true, false, false, false] rfl ?_
      exact k_X5_reads_66 C σ15 h
end
