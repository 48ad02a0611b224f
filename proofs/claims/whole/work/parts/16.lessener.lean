section
variable {p : Program} {l : Launch} {e : Env} {s : State} {m : MethodId} {args : Array Value} {below : List Frame} {meth : Method} {c : Code} {D : va_G} {cy : Nat → ClassId} {ad : Nat → Nat} {b0 : Nat}
def rm_X2_markOf : Room := { frames := 2, cells := 0, slots := 0, locals := 43 }
def wb_X2_markOf_12 (v2 : Int32) (v3 : Int32) (v4 : Int32) (K12 : Int32 → Int32 → Sg → Prop) (Q : Int32 → Sg → Prop) (σ : Sg) : Prop :=
  (((nI 4) ≤ v4 → Q v3 σ) ∧ (¬ (nI 4) ≤ v4 → wp_X4_next v2 v4 σ (fun r1 σ2 => isK (gR σ 5 0) 0 ∧ (wp_X8_pick (gR σ 5 0) r1 σ2 (fun r3 σ4 => ∀ x37 : Int32, x37 = ((v3 <<< ((nI 6) &&& 31)) ||| r3) → (∀ x38 : Int32, x38 = v4 + (nI 1) → (K12 x37 x38 σ4)))))))
set_option maxHeartbeats 4000000 in
set_option maxRecDepth 100000 in
theorem kb_X2_markOf_12 {Q : Int32 → Sg → Prop} (C : Cx p s m args meth c D cy ad b0 yX2_markOf cX2_markOf 5 (some .int)) (v2 : Int32) (v3 : Int32) (v4 : Int32) (K12 : Int32 → Int32 → Sg → Prop) (hK12 : ∀ (z3 : Int32) (z4 : Int32) (σ : Sg), K12 z3 z4 σ → gI p l e rm_X2_markOf s m args below meth c D cy ad b0 Q 5 12 σ [some (.ref (ad 5)), some (.ref (ad 4)), some (.int v2), some (.int z3), some (.int z4)] []) (σ : Sg) (h : wb_X2_markOf_12 v2 v3 v4 K12 Q σ) : gI p l e rm_X2_markOf s m args below meth c D cy ad b0 Q 5 12 σ [some (.ref (ad 5)), some (.ref (ad 4)), some (.int v2), some (.int v3), some (.int v4)] [] := by
  refine g_iload C dX2_markOf_12 rfl ?_
  refine g_iconst C dX2_markOf_14 kc_4 ?_
  refine g_icmp_ge C 44 dX2_markOf_15 (by decide) (fun c15 => ?_) (fun c15 => ?_)
  · have h := h.1 c15
    refine g_iload_n C dX2_markOf_44 rfl ?_
    exact g_iret C dX2_markOf_45 h
  · have h := h.2 c15
    refine g_iload_n C dX2_markOf_18 rfl ?_
    refine g_bipush C dX2_markOf_19 kb_6 ?_
    refine g_ishl C dX2_markOf_21 ?_
    refine g_aload_n C dX2_markOf_22 rfl ?_
    refine fget_5_0_X2_9 C rfl dX2_markOf_23 ?_
    refine g_aload_n C dX2_markOf_26 rfl ?_
    refine g_iload_n C dX2_markOf_27 rfl ?_
    refine g_iload C dX2_markOf_28 rfl ?_
    refine g_callVi C 4 [.int v2, .int v4] (c_X4_next l D cy ad b0 C.A v2 v4) cal_X4_next mw_448 (by decide) rfl rfl ⟨Nat.le_of_ble_eq_true rfl, Nat.le_of_ble_eq_true rfl⟩ ⟨rfl, rfl⟩ ⟨Nat.zero_le _, Nat.zero_le _⟩ (Nat.le_of_ble_eq_true rfl) rfl dX2_markOf_30 h (fun r1 σ2 h => ?_)
    refine g_callNi C [.ref (ad (gR σ 5 0)), .int r1] (c_X8_pick l D cy ad b0 C.A (gR σ 5 0) r1 h.1) cal_X8_pick nw_18 rfl ⟨Nat.le_of_ble_eq_true rfl, Nat.le_of_ble_eq_true rfl⟩ ⟨rfl, rfl⟩ ⟨Nat.zero_le _, Nat.zero_le _⟩ (Nat.le_of_ble_eq_true rfl) rfl dX2_markOf_33 h.2 (fun r3 σ4 h => ?_)
    refine g_ior C dX2_markOf_36 ?_
    refine g_topi (fun x37 e_x37 => ?_)
    have h := h x37 e_x37
    refine g_istore_n C [some (.ref (ad 5)), some (.ref (ad 4)), some (.int v2), some (.int x37), some (.int v4)] dX2_markOf_37 (by decide) rfl ?_
    obtain ⟨x38, e_x38⟩ : ∃ v : Int32, v = v4 + (nI 1) := ⟨_, rfl⟩
    have h := h x38 e_x38
    refine g_iinc C [some (.ref (ad 5)), some (.ref (ad 4)), some (.int v2), some (.int x37), some (.int x38)] dX2_markOf_38 rfl e_x38.symm (by decide) rfl ?_
    refine g_goto C 12 dX2_markOf_41 (by decide) ?_
    exact hK12 x37 x38 σ4 h
def wl_X2_markOf_12 (v2 : Int32) (Q : Int32 → Sg → Prop) : Nat → Int32 → Int32 → Sg → Prop
  | 0, _, _, _ => False
  | n + 1, v3, v4, σ => wb_X2_markOf_12 v2 v3 v4 (wl_X2_markOf_12 v2 Q n) Q σ
set_option maxHeartbeats 4000000 in
set_option maxRecDepth 100000 in
theorem kl_X2_markOf_12 {Q : Int32 → Sg → Prop} (C : Cx p s m args meth c D cy ad b0 yX2_markOf cX2_markOf 5 (some .int)) (v2 : Int32) : ∀ (n : Nat) (v3 : Int32) (v4 : Int32) (σ : Sg), wl_X2_markOf_12 v2 Q n v3 v4 σ → gI p l e rm_X2_markOf s m args below meth c D cy ad b0 Q 5 12 σ [some (.ref (ad 5)), some (.ref (ad 4)), some (.int v2), some (.int v3), some (.int v4)] [] := by
  intro n
  induction n with
  | zero => intro v3 v4 σ h; exact False.elim h
  | succ n ih =>
    intro v3 v4 σ h
    exact kb_X2_markOf_12 C v2 v3 v4 (wl_X2_markOf_12 v2 Q n) (fun z3 z4 σ h => ih z3 z4 σ h) σ h
def wp_X2_markOf (a1 : Int32) (σ : Sg) (Q : Int32 → Sg → Prop) : Prop :=
  isK (gR σ 5 0) 0 ∧ (wp_X8_pick (gR σ 5 0) a1 σ (fun r1 σ2 => ∃ n, wl_X2_markOf_12 a1 Q n r1 (nI 0) σ2))
set_option maxHeartbeats 4000000 in
set_option maxRecDepth 100000 in
theorem c_X2_markOf (l : Launch) (D : va_G) (cy : Nat → ClassId) (ad : Nat → Nat) (b0 : Nat) (hA : AdOk ad b0) (a1 : Int32) : Cti l D cy ad b0 yX2_markOf cX2_markOf 5 (some .int) rm_X2_markOf [.ref (ad 5), .ref (ad 4), .int a1] (fun σ Q => wp_X2_markOf a1 σ Q) := by
  intro σ Q h
  refine g_enter hA rfl (Nat.le_of_ble_eq_true rfl) [some (.ref (ad 5)), some (.ref (ad 4)), some (.int a1), none, none] rfl ?_
  intro p e s m args below meth c C
  refine g_aload_n C dX2_markOf_0 rfl ?_
  refine fget_5_0_X2_9 C rfl dX2_markOf_1 ?_
  refine g_iload_n C dX2_markOf_4 rfl ?_
  refine g_callNi C [.ref (ad (gR σ 5 0)), .int a1] (c_X8_pick l D cy ad b0 C.A (gR σ 5 0) a1 h.1) cal_X8_pick nw_18 rfl ⟨Nat.le_of_ble_eq_true rfl, Nat.le_of_ble_eq_true rfl⟩ ⟨rfl, rfl⟩ ⟨Nat.zero_le _, Nat.zero_le _⟩ (Nat.le_of_ble_eq_true rfl) rfl dX2_markOf_5 h.2 (fun r1 σ2 h => ?_)
  refine g_istore_n C [some (.ref (ad 5)), some (.ref (ad 4)), some (.int a1), some (.int r1), none] dX2_markOf_8 (by decide) rfl ?_
  refine g_iconst C dX2_markOf_9 kc_0 ?_
  refine g_istore C [some (.ref (ad 5)), some (.ref (ad 4)), some (.int a1), some (.int r1), some (.int (nI 0))] dX2_markOf_10 (by decide) rfl ?_
  obtain ⟨n, h⟩ := h
  exact kl_X2_markOf_12 C a1 n r1 (nI 0) σ2 h
def rm_X2_groupOfMark : Room := { frames := 1, cells := 0, slots := 0, locals := 22 }
def wp_X2_groupOfMark_30 (v1 : Int32) (v2 : Int32) (Q : Int32 → Sg → Prop) (σ : Sg) : Prop :=
  (((gF σ 5 6) < (nI 60) → wp_X8_put 31 (gF σ 5 6) v1 σ (fun σ1 => wp_X8_put 32 (gF σ1 5 6) v2 σ1 (fun σ2 => ∀ σ3 : Sg, σ3 = stF σ2 5 6 ((gF σ2 5 6) + (nI 1)) → (Q ((gF σ3 5 6) - (nI 1)) σ3)))) ∧ (¬ (gF σ 5 6) < (nI 60) → Q (-9 : Int32) σ))
set_option maxHeartbeats 4000000 in
set_option maxRecDepth 100000 in
theorem k_X2_groupOfMark_30 {Q : Int32 → Sg → Prop} (C : Cx p s m args meth c D cy ad b0 yX2_groupOfMark cX2_groupOfMark 4 (some .int)) (v1 : Int32) (v2 : Int32) (σ : Sg) (h : wp_X2_groupOfMark_30 v1 v2 Q σ) : gI p l e rm_X2_groupOfMark s m args below meth c D cy ad b0 Q 4 30 σ [some (.ref (ad 5)), some (.int v1), some (.int v2), none] [] := by
  refine g_aload_n C dX2_groupOfMark_30 rfl ?_
  refine fget_5_6_X2_30 C rfl dX2_groupOfMark_31 ?_
  refine g_bipush C dX2_groupOfMark_34 kb_60 ?_
  refine g_icmp_lt C 42 dX2_groupOfMark_36 (by decide) (fun c36 => ?_) (fun c36 => ?_)
  · have h := h.1 c36
    refine g_aload_n C dX2_groupOfMark_42 rfl ?_
    refine fget_5_2_X2_18 C rfl dX2_groupOfMark_43 ?_
    refine g_aload_n C dX2_groupOfMark_46 rfl ?_
    refine fget_5_6_X2_30 C rfl dX2_groupOfMark_47 ?_
    refine g_iload_n C dX2_groupOfMark_50 rfl ?_
    refine g_callNv C [.ref (ad 31), .int (gF σ 5 6), .int v1] (c_X8_put l D cy ad b0 C.A 31 (gF σ 5 6) v1 (by decide)) cal_X8_put nw_17 rfl ⟨Nat.le_of_ble_eq_true rfl, Nat.le_of_ble_eq_true rfl⟩ ⟨rfl, rfl⟩ ⟨Nat.zero_le _, Nat.zero_le _⟩ (Nat.le_of_ble_eq_true rfl) rfl dX2_groupOfMark_51 h (fun σ1 h => ?_)
    refine g_aload_n C dX2_groupOfMark_54 rfl ?_
    refine fget_5_3_X2_21 C rfl dX2_groupOfMark_55 ?_
    refine g_aload_n C dX2_groupOfMark_58 rfl ?_
    refine fget_5_6_X2_30 C rfl dX2_groupOfMark_59 ?_
    refine g_iload_n C dX2_groupOfMark_62 rfl ?_
    refine g_callNv C [.ref (ad 32), .int (gF σ1 5 6), .int v2] (c_X8_put l D cy ad b0 C.A 32 (gF σ1 5 6) v2 (by decide)) cal_X8_put nw_17 rfl ⟨Nat.le_of_ble_eq_true rfl, Nat.le_of_ble_eq_true rfl⟩ ⟨rfl, rfl⟩ ⟨Nat.zero_le _, Nat.zero_le _⟩ (Nat.le_of_ble_eq_true rfl) rfl dX2_groupOfMark_63 h (fun σ2 h => ?_)
    refine g_aload_n C dX2_groupOfMark_66 rfl ?_
    refine g_dup C dX2_groupOfMark_67 rfl ?_
    refine fget_5_6_X2_30 C rfl dX2_groupOfMark_68 ?_
    refine g_iconst C dX2_groupOfMark_71 kc_1 ?_
    refine g_iadd C dX2_groupOfMark_72 ?_
    refine fput_5_6_X2_30 C rfl dX2_groupOfMark_73 (fun σ3 e_σ3 => ?_)
    have h := h σ3 e_σ3
    refine g_aload_n C dX2_groupOfMark_76 rfl ?_
    refine fget_5_6_X2_30 C rfl dX2_groupOfMark_77 ?_
    refine g_iconst C dX2_groupOfMark_80 kc_1 ?_
    refine g_isub C dX2_groupOfMark_81 ?_
    exact g_iret C dX2_groupOfMark_82 h
  · have h := h.2 c36
    refine g_bipush C dX2_groupOfMark_39 kb_m9 ?_
    exact g_iret C dX2_groupOfMark_41 h
def wb_X2_groupOfMark_2 (v1 : Int32) (v2 : Int32) (v3 : Int32) (K2 : Int32 → Sg → Prop) (K30 : Sg → Prop) (Q : Int32 → Sg → Prop) (σ : Sg) : Prop :=
  (((gF σ 5 6) ≤ v3 → K30 σ) ∧ (¬ (gF σ 5 6) ≤ v3 → wp_X8_pick 31 v3 σ (fun r1 σ2 => ((¬ r1 = v1 → ∀ x24 : Int32, x24 = v3 + (nI 1) → (K2 x24 σ2)) ∧ (r1 = v1 → Q v3 σ2)))))
set_option maxHeartbeats 4000000 in
set_option maxRecDepth 100000 in
theorem kb_X2_groupOfMark_2 {Q : Int32 → Sg → Prop} (C : Cx p s m args meth c D cy ad b0 yX2_groupOfMark cX2_groupOfMark 4 (some .int)) (v1 : Int32) (v2 : Int32) (v3 : Int32) (K2 : Int32 → Sg → Prop) (K30 : Sg → Prop) (hK2 : ∀ (z3 : Int32) (σ : Sg), K2 z3 σ → gI p l e rm_X2_groupOfMark s m args below meth c D cy ad b0 Q 4 2 σ [some (.ref (ad 5)), some (.int v1), some (.int v2), some (.int z3)] []) (hK30 : ∀  (σ : Sg), K30 σ → gI p l e rm_X2_groupOfMark s m args below meth c D cy ad b0 Q 4 30 σ [some (.ref (ad 5)), some (.int v1), some (.int v2), none] []) (σ : Sg) (h : wb_X2_groupOfMark_2 v1 v2 v3 K2 K30 Q σ) : gI p l e rm_X2_groupOfMark s m args below meth c D cy ad b0 Q 4 2 σ [some (.ref (ad 5)), some (.int v1), some (.int v2), some (.int v3)] [] := by
  refine g_iload_n C dX2_groupOfMark_2 rfl ?_
  refine g_aload_n C dX2_groupOfMark_3 rfl ?_
  refine fget_5_6_X2_30 C rfl dX2_groupOfMark_4 ?_
  refine g_icmp_ge C 30 dX2_groupOfMark_7 (by decide) (fun c7 => ?_) (fun c7 => ?_)
  · have h := h.1 c7
    refine g_mask [true, true, true, false] rfl ?_
    exact hK30 σ h
  · have h := h.2 c7
    refine g_aload_n C dX2_groupOfMark_10 rfl ?_
    refine fget_5_2_X2_18 C rfl dX2_groupOfMark_11 ?_
    refine g_iload_n C dX2_groupOfMark_14 rfl ?_
    refine g_callNi C [.ref (ad 31), .int v3] (c_X8_pick l D cy ad b0 C.A 31 v3 (by decide)) cal_X8_pick nw_18 rfl ⟨Nat.le_of_ble_eq_true rfl, Nat.le_of_ble_eq_true rfl⟩ ⟨rfl, rfl⟩ ⟨Nat.zero_le _, Nat.zero_le _⟩ (Nat.le_of_ble_eq_true rfl) rfl dX2_groupOfMark_15 h (fun r1 σ2 h => ?_)
    refine g_iload_n C dX2_groupOfMark_18 rfl ?_
    refine g_icmp_ne C 24 dX2_groupOfMark_19 (by decide) (fun c19 => ?_) (fun c19 => ?_)
    · have h := h.1 c19
      obtain ⟨x24, e_x24⟩ : ∃ v : Int32, v = v3 + (nI 1) := ⟨_, rfl⟩
      have h := h x24 e_x24
      refine g_iinc C [some (.ref (ad 5)), some (.int v1), some (.int v2), some (.int x24)] dX2_groupOfMark_24 rfl e_x24.symm (by decide) rfl ?_
      refine g_goto C 2 dX2_groupOfMark_27 (by decide) ?_
      exact hK2 x24 σ2 h
    · have h := h.2 c19
      refine g_iload_n C dX2_groupOfMark_22 rfl ?_
      exact g_iret C dX2_groupOfMark_23 h
def wl_X2_groupOfMark_2 (v1 : Int32) (v2 : Int32) (K30 : Sg → Prop) (Q : Int32 → Sg → Prop) : Nat → Int32 → Sg → Prop
  | 0, _, _ => False
  | n + 1, v3, σ => wb_X2_groupOfMark_2 v1 v2 v3 (wl_X2_groupOfMark_2 v1 v2 K30 Q n) K30 Q σ
set_option maxHeartbeats 4000000 in
set_option maxRecDepth 100000 in
theorem kl_X2_groupOfMark_2 {Q : Int32 → Sg → Prop} (C : Cx p s m args meth c D cy ad b0 yX2_groupOfMark cX2_groupOfMark 4 (some .int)) (v1 : Int32) (v2 : Int32) (K30 : Sg → Prop) (hK30 : ∀  (σ : Sg), K30 σ → gI p l e rm_X2_groupOfMark s m args below meth c D cy ad b0 Q 4 30 σ [some (.ref (ad 5)), some (.int v1), some (.int v2), none] []) : ∀ (n : Nat) (v3 : Int32) (σ : Sg), wl_X2_groupOfMark_2 v1 v2 K30 Q n v3 σ → gI p l e rm_X2_groupOfMark s m args below meth c D cy ad b0 Q 4 2 σ [some (.ref (ad 5)), some (.int v1), some (.int v2), some (.int v3)] [] := by
  intro n
  induction n with
  | zero => intro v3 σ h; exact False.elim h
  | succ n ih =>
    intro v3 σ h
    exact kb_X2_groupOfMark_2 C v1 v2 v3 (wl_X2_groupOfMark_2 v1 v2 K30 Q n) K30 (fun z3 σ h => ih z3 σ h) hK30 σ h
def wp_X2_groupOfMark (a0 : Int32) (a1 : Int32) (σ : Sg) (Q : Int32 → Sg → Prop) : Prop :=
  ∃ n, wl_X2_groupOfMark_2 a0 a1 (fun σ9 => wp_X2_groupOfMark_30 a0 a1 Q σ9) Q n (nI 0) σ
set_option maxHeartbeats 4000000 in
set_option maxRecDepth 100000 in
theorem c_X2_groupOfMark (l : Launch) (D : va_G) (cy : Nat → ClassId) (ad : Nat → Nat) (b0 : Nat) (hA : AdOk ad b0) (a0 : Int32) (a1 : Int32) : Cti l D cy ad b0 yX2_groupOfMark cX2_groupOfMark 4 (some .int) rm_X2_groupOfMark [.ref (ad 5), .int a0, .int a1] (fun σ Q => wp_X2_groupOfMark a0 a1 σ Q) := by
  intro σ Q h
  refine g_enter hA rfl (Nat.le_of_ble_eq_true rfl) [some (.ref (ad 5)), some (.int a0), some (.int a1), none] rfl ?_
  intro p e s m args below meth c C
  refine g_iconst C dX2_groupOfMark_0 kc_0 ?_
  refine g_istore_n C [some (.ref (ad 5)), some (.int a0), some (.int a1), some (.int (nI 0))] dX2_groupOfMark_1 (by decide) rfl ?_
  obtain ⟨n, h⟩ := h
  exact kl_X2_groupOfMark_2 C a0 a1 _ (fun σ9 h => by exact k_X2_groupOfMark_30 C a0 a1 σ9 h) n (nI 0) σ h
def rm_X2_split : Room := { frames := 3, cells := 0, slots := 0, locals := 67 }
def wp_X2_split_50 (Q : Int32 → Sg → Prop) (σ : Sg) : Prop :=
  ∀ σ1 : Sg, σ1 = stR σ 5 0 (gR σ 5 1) → (∀ σ2 : Sg, σ2 = stR σ1 5 1 (gR σ 5 0) → (Q (nI 1) σ2))
set_option maxHeartbeats 4000000 in
set_option maxRecDepth 100000 in
theorem k_X2_split_50 {Q : Int32 → Sg → Prop} (C : Cx p s m args meth c D cy ad b0 yX2_split cX2_split 4 (some .boolean)) (σ : Sg) (h : wp_X2_split_50 Q σ) : gI p l e rm_X2_split s m args below meth c D cy ad b0 Q 4 50 σ [some (.ref (ad 5)), none, none, none] [] := by
  refine g_aload_n C dX2_split_50 rfl ?_
  refine fget_5_0_X2_9 C rfl dX2_split_51 ?_
  refine g_astore_n C [some (.ref (ad 5)), none, some (.ref (ad (gR σ 5 0))), none] dX2_split_54 (by decide) rfl ?_
  refine g_aload_n C dX2_split_55 rfl ?_
  refine g_aload_n C dX2_split_56 rfl ?_
  refine fget_5_1_X2_15 C rfl dX2_split_57 ?_
  refine fput_5_0_X2_9 C rfl dX2_split_60 (fun σ1 e_σ1 => ?_)
  have h := h σ1 e_σ1
  refine g_aload_n C dX2_split_63 rfl ?_
  refine g_aload_n C dX2_split_64 rfl ?_
  refine fput_5_1_X2_15 C rfl dX2_split_65 (fun σ2 e_σ2 => ?_)
  have h := h σ2 e_σ2
  refine g_iconst C dX2_split_68 kc_1 ?_
  exact g_zret C (narrow_bl bl_1) dX2_split_69 h
def wb_X2_split_7 (v2 : Int32) (K7 : Int32 → Sg → Prop) (K50 : Sg → Prop) (Q : Int32 → Sg → Prop) (σ : Sg) : Prop :=
  wp_X4_size σ (fun r1 σ2 => ((r1 ≤ v2 → K50 σ2) ∧ (¬ r1 ≤ v2 → wp_X2_markOf v2 σ2 (fun r3 σ4 => wp_X2_groupOfMark r3 v2 σ4 (fun r5 σ6 => ((¬ r5 = (-9 : Int32) → isK (gR σ6 5 1) 0 ∧ (wp_X8_put (gR σ6 5 1) v2 r5 σ6 (fun σ7 => ∀ x44 : Int32, x44 = v2 + (nI 1) → (K7 x44 σ7)))) ∧ (r5 = (-9 : Int32) → Q (nI 0) σ6)))))))
set_option maxHeartbeats 4000000 in
set_option maxRecDepth 100000 in
theorem kb_X2_split_7 {Q : Int32 → Sg → Prop} (C : Cx p s m args meth c D cy ad b0 yX2_split cX2_split 4 (some .boolean)) (v2 : Int32) (K7 : Int32 → Sg → Prop) (K50 : Sg → Prop) (hK7 : ∀ (z2 : Int32) (σ : Sg), K7 z2 σ → gI p l e rm_X2_split s m args below meth c D cy ad b0 Q 4 7 σ [some (.ref (ad 5)), some (.ref (ad 4)), some (.int z2), none] []) (hK50 : ∀  (σ : Sg), K50 σ → gI p l e rm_X2_split s m args below meth c D cy ad b0 Q 4 50 σ [some (.ref (ad 5)), none, none, none] []) (σ : Sg) (h : wb_X2_split_7 v2 K7 K50 Q σ) : gI p l e rm_X2_split s m args below meth c D cy ad b0 Q 4 7 σ [some (.ref (ad 5)), some (.ref (ad 4)), some (.int v2), none] [] := by
  refine g_iload_n C dX2_split_7 rfl ?_
  refine g_aload_n C dX2_split_8 rfl ?_
  refine g_callVi C 4 [] (c_X4_size l D cy ad b0 C.A) cal_X4_size mw_432 (by decide) rfl rfl ⟨Nat.le_of_ble_eq_true rfl, Nat.le_of_ble_eq_true rfl⟩ ⟨rfl, rfl⟩ ⟨Nat.zero_le _, Nat.zero_le _⟩ (Nat.le_of_ble_eq_true rfl) rfl dX2_split_9 h (fun r1 σ2 h => ?_)
  refine g_icmp_ge C 50 dX2_split_12 (by decide) (fun c12 => ?_) (fun c12 => ?_)
  · have h := h.1 c12
    refine g_mask [true, false, false, false] rfl ?_
    exact hK50 σ2 h
  · have h := h.2 c12
    refine g_aload_n C dX2_split_15 rfl ?_
    refine g_aload_n C dX2_split_16 rfl ?_
    refine g_aload_n C dX2_split_17 rfl ?_
    refine g_iload_n C dX2_split_18 rfl ?_
    refine g_callVi C 5 [.ref (ad 4), .int v2] (c_X2_markOf l D cy ad b0 C.A v2) cal_X2_markOf mw_444 (by decide) rfl rfl ⟨Nat.le_of_ble_eq_true rfl, Nat.le_of_ble_eq_true rfl⟩ ⟨rfl, rfl⟩ ⟨Nat.zero_le _, Nat.zero_le _⟩ (Nat.le_of_ble_eq_true rfl) rfl dX2_split_19 h (fun r3 σ4 h => ?_)
    refine g_iload_n C dX2_split_22 rfl ?_
    refine g_callVi C 5 [.int r3, .int v2] (c_X2_groupOfMark l D cy ad b0 C.A r3 v2) cal_X2_groupOfMark mw_452 (by decide) rfl rfl ⟨Nat.le_of_ble_eq_true rfl, Nat.le_of_ble_eq_true rfl⟩ ⟨rfl, rfl⟩ ⟨Nat.zero_le _, Nat.zero_le _⟩ (Nat.le_of_ble_eq_true rfl) rfl dX2_split_23 h (fun r5 σ6 h => ?_)
    refine g_istore_n C [some (.ref (ad 5)), some (.ref (ad 4)), some (.int v2), some (.int r5)] dX2_split_26 (by decide) rfl ?_
    refine g_iload_n C dX2_split_27 rfl ?_
    refine g_bipush C dX2_split_28 kb_m9 ?_
    refine g_icmp_ne C 35 dX2_split_30 (by decide) (fun c30 => ?_) (fun c30 => ?_)
    · have h := h.1 c30
      refine g_aload_n C dX2_split_35 rfl ?_
      refine fget_5_1_X2_15 C rfl dX2_split_36 ?_
      refine g_iload_n C dX2_split_39 rfl ?_
      refine g_iload_n C dX2_split_40 rfl ?_
      refine g_callNv C [.ref (ad (gR σ6 5 1)), .int v2, .int r5] (c_X8_put l D cy ad b0 C.A (gR σ6 5 1) v2 r5 h.1) cal_X8_put nw_17 rfl ⟨Nat.le_of_ble_eq_true rfl, Nat.le_of_ble_eq_true rfl⟩ ⟨rfl, rfl⟩ ⟨Nat.zero_le _, Nat.zero_le _⟩ (Nat.le_of_ble_eq_true rfl) rfl dX2_split_41 h.2 (fun σ7 h => ?_)
      obtain ⟨x44, e_x44⟩ : ∃ v : Int32, v = v2 + (nI 1) := ⟨_, rfl⟩
      have h := h x44 e_x44
      refine g_iinc C [some (.ref (ad 5)), some (.ref (ad 4)), some (.int x44), some (.int r5)] dX2_split_44 rfl e_x44.symm (by decide) rfl ?_
      refine g_goto C 7 dX2_split_47 (by decide) ?_
      refine g_mask [true, true, true, false] rfl ?_
      exact hK7 x44 σ7 h
    · have h := h.2 c30
      refine g_iconst C dX2_split_33 kc_0 ?_
      exact g_zret C (narrow_bl bl_0) dX2_split_34 h
def wl_X2_split_7 (K50 : Sg → Prop) (Q : Int32 → Sg → Prop) : Nat → Int32 → Sg → Prop
  | 0, _, _ => False
  | n + 1, v2, σ => wb_X2_split_7 v2 (wl_X2_split_7 K50 Q n) K50 Q σ
set_option maxHeartbeats 4000000 in
set_option maxRecDepth 100000 in
theorem kl_X2_split_7 {Q : Int32 → Sg → Prop} (C : Cx p s m args meth c D cy ad b0 yX2_split cX2_split 4 (some .boolean)) (K50 : Sg → Prop) (hK50 : ∀  (σ : Sg), K50 σ → gI p l e rm_X2_split s m args below meth c D cy ad b0 Q 4 50 σ [some (.ref (ad 5)), none, none, none] []) : ∀ (n : Nat) (v2 : Int32) (σ : Sg), wl_X2_split_7 K50 Q n v2 σ → gI p l e rm_X2_split s m args below meth c D cy ad b0 Q 4 7 σ [some (.ref (ad 5)), some (.ref (ad 4)), some (.int v2), none] [] := by
  intro n
  induction n with
  | zero => intro v2 σ h; exact False.elim h
  | succ n ih =>
    intro v2 σ h
    exact kb_X2_split_7 C v2 (wl_X2_split_7 K50 Q n) K50 (fun z2 σ h => ih z2 σ h) hK50 σ h
def wp_X2_split (σ : Sg) (Q : Int32 → Sg → Prop) : Prop :=
  ∀ σ1 : Sg, σ1 = stF σ 5 6 (nI 0) → (∃ n, wl_X2_split_7 (fun σ9 => wp_X2_split_50 Q σ9) Q n (nI 0) σ1)
set_option maxHeartbeats 4000000 in
set_option maxRecDepth 100000 in
theorem c_X2_split (l : Launch) (D : va_G) (cy : Nat → ClassId) (ad : Nat → Nat) (b0 : Nat) (hA : AdOk ad b0) : Cti l D cy ad b0 yX2_split cX2_split 4 (some .boolean) rm_X2_split [.ref (ad 5), .ref (ad 4)] (fun σ Q => wp_X2_split σ Q) := by
  intro σ Q h
  refine g_enter hA rfl (Nat.le_of_ble_eq_true rfl) [some (.ref (ad 5)), some (.ref (ad 4)), none, none] rfl ?_
  intro p e s m args below meth c C
  refine g_aload_n C dX2_split_0 rfl ?_
  refine g_iconst C dX2_split_1 kc_0 ?_
  refine fput_5_6_X2_30 C rfl dX2_split_2 (fun σ1 e_σ1 => ?_)
  have h := h σ1 e_σ1
  refine g_iconst C dX2_split_5 kc_0 ?_
  refine g_istore_n C [some (.ref (ad 5)), some (.ref (ad 4)), some (.int (nI 0)), none] dX2_split_6 (by decide) rfl ?_
  obtain ⟨n, h⟩ := h
  exact kl_X2_split_7 C _ (fun σ9 h => by exact k_X2_split_50 C σ9 h) n (nI 0) σ1 h
def rm_X2_lessen : Room := { frames := 4, cells := 0, slots := 0, locals := 90 }
def wb_X2_lessen_44 (v2 : Int32) (K44 : Int32 → Sg → Prop) (Q : Int32 → Sg → Prop) (σ : Sg) : Prop :=
  (((nI 60) < v2 → Q (nI 1) σ) ∧ (¬ (nI 60) < v2 → ∀ x54 : Int32, x54 = (gF σ 5 6) → (wp_X2_split σ (fun r1 σ2 => ((¬ r1 = (nI 0) → ((¬ (gF σ2 5 6) = x54 → ∀ x75 : Int32, x75 = v2 + (nI 1) → (K44 x75 σ2)) ∧ ((gF σ2 5 6) = x54 → Q (nI 1) σ2))) ∧ (r1 = (nI 0) → Q (nI 0) σ2))))))
set_option maxHeartbeats 4000000 in
set_option maxRecDepth 100000 in
theorem kb_X2_lessen_44 {Q : Int32 → Sg → Prop} (C : Cx p s m args meth c D cy ad b0 yX2_lessen cX2_lessen 4 (some .boolean)) (v2 : Int32) (K44 : Int32 → Sg → Prop) (hK44 : ∀ (z2 : Int32) (σ : Sg), K44 z2 σ → gI p l e rm_X2_lessen s m args below meth c D cy ad b0 Q 4 44 σ [some (.ref (ad 5)), some (.ref (ad 4)), some (.int z2), none] []) (σ : Sg) (h : wb_X2_lessen_44 v2 K44 Q σ) : gI p l e rm_X2_lessen s m args below meth c D cy ad b0 Q 4 44 σ [some (.ref (ad 5)), some (.ref (ad 4)), some (.int v2), none] [] := by
  refine g_iload_n C dX2_lessen_44 rfl ?_
  refine g_bipush C dX2_lessen_45 kb_60 ?_
  refine g_icmp_gt C 81 dX2_lessen_47 (by decide) (fun c47 => ?_) (fun c47 => ?_)
  · have h := h.1 c47
    refine g_iconst C dX2_lessen_81 kc_1 ?_
    exact g_zret C (narrow_bl bl_1) dX2_lessen_82 h
  · have h := h.2 c47
    refine g_aload_n C dX2_lessen_50 rfl ?_
    refine fget_5_6_X2_30 C rfl dX2_lessen_51 ?_
    refine g_topi (fun x54 e_x54 => ?_)
    have h := h x54 e_x54
    refine g_istore_n C [some (.ref (ad 5)), some (.ref (ad 4)), some (.int v2), some (.int x54)] dX2_lessen_54 (by decide) rfl ?_
    refine g_aload_n C dX2_lessen_55 rfl ?_
    refine g_aload_n C dX2_lessen_56 rfl ?_
    refine g_callVi C 5 [.ref (ad 4)] (c_X2_split l D cy ad b0 C.A) cal_X2_split mw_440 (by decide) rfl rfl ⟨Nat.le_of_ble_eq_true rfl, Nat.le_of_ble_eq_true rfl⟩ ⟨rfl, rfl⟩ ⟨Nat.zero_le _, Nat.zero_le _⟩ (Nat.le_of_ble_eq_true rfl) rfl dX2_lessen_57 h (fun r1 σ2 h => ?_)
    refine g_if_ne C 65 dX2_lessen_60 (by decide) (fun c60 => ?_) (fun c60 => ?_)
    · have h := h.1 c60
      refine g_aload_n C dX2_lessen_65 rfl ?_
      refine fget_5_6_X2_30 C rfl dX2_lessen_66 ?_
      refine g_iload_n C dX2_lessen_69 rfl ?_
      refine g_icmp_ne C 75 dX2_lessen_70 (by decide) (fun c70 => ?_) (fun c70 => ?_)
      · have h := h.1 c70
        obtain ⟨x75, e_x75⟩ : ∃ v : Int32, v = v2 + (nI 1) := ⟨_, rfl⟩
        have h := h x75 e_x75
        refine g_iinc C [some (.ref (ad 5)), some (.ref (ad 4)), some (.int x75), some (.int x54)] dX2_lessen_75 rfl e_x75.symm (by decide) rfl ?_
        refine g_goto C 44 dX2_lessen_78 (by decide) ?_
        refine g_mask [true, true, true, false] rfl ?_
        exact hK44 x75 σ2 h
      · have h := h.2 c70
        refine g_iconst C dX2_lessen_73 kc_1 ?_
        exact g_zret C (narrow_bl bl_1) dX2_lessen_74 h
    · have h := h.2 c60
      refine g_iconst C dX2_lessen_63 kc_0 ?_
      exact g_zret C (narrow_bl bl_0) dX2_lessen_64 h
def wl_X2_lessen_44 (Q : Int32 → Sg → Prop) : Nat → Int32 → Sg → Prop
  | 0, _, _ => False
  | n + 1, v2, σ => wb_X2_lessen_44 v2 (wl_X2_lessen_44 Q n) Q σ
set_option maxHeartbeats 4000000 in
set_option maxRecDepth 100000 in
theorem kl_X2_lessen_44 {Q : Int32 → Sg → Prop} (C : Cx p s m args meth c D cy ad b0 yX2_lessen cX2_lessen 4 (some .boolean)) : ∀ (n : Nat) (v2 : Int32) (σ : Sg), wl_X2_lessen_44 Q n v2 σ → gI p l e rm_X2_lessen s m args below meth c D cy ad b0 Q 4 44 σ [some (.ref (ad 5)), some (.ref (ad 4)), some (.int v2), none] [] := by
  intro n
  induction n with
  | zero => intro v2 σ h; exact False.elim h
  | succ n ih =>
    intro v2 σ h
    exact kb_X2_lessen_44 C v2 (wl_X2_lessen_44 Q n) (fun z2 σ h => ih z2 σ h) σ h
def wp_X2_lessen_37 (Q : Int32 → Sg → Prop) (σ : Sg) : Prop :=
  ∀ σ1 : Sg, σ1 = stF σ 5 6 (nI 0) → (∃ n, wl_X2_lessen_44 Q n (nI 0) σ1)
set_option maxHeartbeats 4000000 in
set_option maxRecDepth 100000 in
theorem k_X2_lessen_37 {Q : Int32 → Sg → Prop} (C : Cx p s m args meth c D cy ad b0 yX2_lessen cX2_lessen 4 (some .boolean)) (σ : Sg) (h : wp_X2_lessen_37 Q σ) : gI p l e rm_X2_lessen s m args below meth c D cy ad b0 Q 4 37 σ [some (.ref (ad 5)), some (.ref (ad 4)), none, none] [] := by
  refine g_aload_n C dX2_lessen_37 rfl ?_
  refine g_iconst C dX2_lessen_38 kc_0 ?_
  refine fput_5_6_X2_30 C rfl dX2_lessen_39 (fun σ1 e_σ1 => ?_)
  have h := h σ1 e_σ1
  refine g_iconst C dX2_lessen_42 kc_0 ?_
  refine g_istore_n C [some (.ref (ad 5)), some (.ref (ad 4)), some (.int (nI 0)), none] dX2_lessen_43 (by decide) rfl ?_
  obtain ⟨n, h⟩ := h
  exact kl_X2_lessen_44 C n (nI 0) σ1 h
def wp_X2_lessen_28 (v2 : Int32) (s0 : Int32) (s1 : Int32) (s2 : Nat) (K2 : Int32 → Sg → Prop) (Q : Int32 → Sg → Prop) (σ : Sg) : Prop :=
  isK s2 0 ∧ (wp_X8_put s2 s1 s0 σ (fun σ1 => ∀ x31 : Int32, x31 = v2 + (nI 1) → (K2 x31 σ1)))
set_option maxHeartbeats 4000000 in
set_option maxRecDepth 100000 in
theorem k_X2_lessen_28 {Q : Int32 → Sg → Prop} (C : Cx p s m args meth c D cy ad b0 yX2_lessen cX2_lessen 4 (some .boolean)) (v2 : Int32) (s0 : Int32) (s1 : Int32) (s2 : Nat) (K2 : Int32 → Sg → Prop) (hK2 : ∀ (z2 : Int32) (σ : Sg), K2 z2 σ → gI p l e rm_X2_lessen s m args below meth c D cy ad b0 Q 4 2 σ [some (.ref (ad 5)), some (.ref (ad 4)), some (.int z2), none] []) (σ : Sg) (h : wp_X2_lessen_28 v2 s0 s1 s2 K2 Q σ) : gI p l e rm_X2_lessen s m args below meth c D cy ad b0 Q 4 28 σ [some (.ref (ad 5)), some (.ref (ad 4)), some (.int v2), none] [.int s0, .int s1, .ref (ad s2)] := by
  refine g_callNv C [.ref (ad s2), .int s1, .int s0] (c_X8_put l D cy ad b0 C.A s2 s1 s0 h.1) cal_X8_put nw_17 rfl ⟨Nat.le_of_ble_eq_true rfl, Nat.le_of_ble_eq_true rfl⟩ ⟨rfl, rfl⟩ ⟨Nat.zero_le _, Nat.zero_le _⟩ (Nat.le_of_ble_eq_true rfl) rfl dX2_lessen_28 h.2 (fun σ1 h => ?_)
  obtain ⟨x31, e_x31⟩ : ∃ v : Int32, v = v2 + (nI 1) := ⟨_, rfl⟩
  have h := h x31 e_x31
  refine g_iinc C [some (.ref (ad 5)), some (.ref (ad 4)), some (.int x31), none] dX2_lessen_31 rfl e_x31.symm (by decide) rfl ?_
  refine g_goto C 2 dX2_lessen_34 (by decide) ?_
  exact hK2 x31 σ1 h
def wb_X2_lessen_2 (v2 : Int32) (K2 : Int32 → Sg → Prop) (K37 : Sg → Prop) (Q : Int32 → Sg → Prop) (σ : Sg) : Prop :=
  wp_X4_size σ (fun r1 σ2 => ((r1 ≤ v2 → K37 σ2) ∧ (¬ r1 ≤ v2 → wp_X4_isKept v2 σ2 (fun r3 σ4 => ((r3 = (nI 0) → wp_X2_lessen_28 v2 (nI 0) v2 (gR σ2 5 0) K2 Q σ4) ∧ (¬ r3 = (nI 0) → wp_X2_lessen_28 v2 (nI 1) v2 (gR σ2 5 0) K2 Q σ4))))))
set_option maxHeartbeats 4000000 in
set_option maxRecDepth 100000 in
theorem kb_X2_lessen_2 {Q : Int32 → Sg → Prop} (C : Cx p s m args meth c D cy ad b0 yX2_lessen cX2_lessen 4 (some .boolean)) (v2 : Int32) (K2 : Int32 → Sg → Prop) (K37 : Sg → Prop) (hK2 : ∀ (z2 : Int32) (σ : Sg), K2 z2 σ → gI p l e rm_X2_lessen s m args below meth c D cy ad b0 Q 4 2 σ [some (.ref (ad 5)), some (.ref (ad 4)), some (.int z2), none] []) (hK37 : ∀  (σ : Sg), K37 σ → gI p l e rm_X2_lessen s m args below meth c D cy ad b0 Q 4 37 σ [some (.ref (ad 5)), some (.ref (ad 4)), none, none] []) (σ : Sg) (h : wb_X2_lessen_2 v2 K2 K37 Q σ) : gI p l e rm_X2_lessen s m args below meth c D cy ad b0 Q 4 2 σ [some (.ref (ad 5)), some (.ref (ad 4)), some (.int v2), none] [] := by
  refine g_iload_n C dX2_lessen_2 rfl ?_
  refine g_aload_n C dX2_lessen_3 rfl ?_
  refine g_callVi C 4 [] (c_X4_size l D cy ad b0 C.A) cal_X4_size mw_432 (by decide) rfl rfl ⟨Nat.le_of_ble_eq_true rfl, Nat.le_of_ble_eq_true rfl⟩ ⟨rfl, rfl⟩ ⟨Nat.zero_le _, Nat.zero_le _⟩ (Nat.le_of_ble_eq_true rfl) rfl dX2_lessen_4 h (fun r1 σ2 h => ?_)
  refine g_icmp_ge C 37 dX2_lessen_7 (by decide) (fun c7 => ?_) (fun c7 => ?_)
  · have h := h.1 c7
    refine g_mask [true, true, false, false] rfl ?_
    exact hK37 σ2 h
  · have h := h.2 c7
    refine g_aload_n C dX2_lessen_10 rfl ?_
    refine fget_5_0_X2_9 C rfl dX2_lessen_11 ?_
    refine g_iload_n C dX2_lessen_14 rfl ?_
    refine g_aload_n C dX2_lessen_15 rfl ?_
    refine g_iload_n C dX2_lessen_16 rfl ?_
    refine g_callVi C 4 [.int v2] (c_X4_isKept l D cy ad b0 C.A v2) cal_X4_isKept mw_436 (by decide) rfl rfl ⟨Nat.le_of_ble_eq_true rfl, Nat.le_of_ble_eq_true rfl⟩ ⟨rfl, rfl⟩ ⟨Nat.zero_le _, Nat.zero_le _⟩ (Nat.le_of_ble_eq_true rfl) rfl dX2_lessen_17 h (fun r3 σ4 h => ?_)
    refine g_if_eq C 27 dX2_lessen_20 (by decide) (fun c20 => ?_) (fun c20 => ?_)
    · have h := h.1 c20
      refine g_iconst C dX2_lessen_27 kc_0 ?_
      exact k_X2_lessen_28 C v2 (nI 0) v2 (gR σ2 5 0) K2 hK2 σ4 h
    · have h := h.2 c20
      refine g_iconst C dX2_lessen_23 kc_1 ?_
      refine g_goto C 28 dX2_lessen_24 (by decide) ?_
      exact k_X2_lessen_28 C v2 (nI 1) v2 (gR σ2 5 0) K2 hK2 σ4 h
def wl_X2_lessen_2 (K37 : Sg → Prop) (Q : Int32 → Sg → Prop) : Nat → Int32 → Sg → Prop
  | 0, _, _ => False
  | n + 1, v2, σ => wb_X2_lessen_2 v2 (wl_X2_lessen_2 K37 Q n) K37 Q σ
set_option maxHeartbeats 4000000 in
set_option maxRecDepth 100000 in
theorem kl_X2_lessen_2 {Q : Int32 → Sg → Prop} (C : Cx p s m args meth c D cy ad b0 yX2_lessen cX2_lessen 4 (some .boolean)) (K37 : Sg → Prop) (hK37 : ∀  (σ : Sg), K37 σ → gI p l e rm_X2_lessen s m args below meth c D cy ad b0 Q 4 37 σ [some (.ref (ad 5)), some (.ref (ad 4)), none, none] []) : ∀ (n : Nat) (v2 : Int32) (σ : Sg), wl_X2_lessen_2 K37 Q n v2 σ → gI p l e rm_X2_lessen s m args below meth c D cy ad b0 Q 4 2 σ [some (.ref (ad 5)), some (.ref (ad 4)), some (.int v2), none] [] := by
  intro n
  induction n with
  | zero => intro v2 σ h; exact False.elim h
  | succ n ih =>
    intro v2 σ h
    exact kb_X2_lessen_2 C v2 (wl_X2_lessen_2 K37 Q n) K37 (fun z2 σ h => ih z2 σ h) hK37 σ h
def wp_X2_lessen (σ : Sg) (Q : Int32 → Sg → Prop) : Prop :=
  ∃ n, wl_X2_lessen_2 (fun σ9 => wp_X2_lessen_37 Q σ9) Q n (nI 0) σ
set_option maxHeartbeats 4000000 in
set_option maxRecDepth 100000 in
theorem c_X2_lessen (l : Launch) (D : va_G) (cy : Nat → ClassId) (ad : Nat → Nat) (b0 : Nat) (hA : AdOk ad b0) : Cti l D cy ad b0 yX2_lessen cX2_lessen 4 (some .boolean) rm_X2_lessen [.ref (ad 5), .ref (ad 4)] (fun σ Q => wp_X2_lessen σ Q) := by
  intro σ Q h
  refine g_enter hA rfl (Nat.le_of_ble_eq_true rfl) [some (.ref (ad 5)), some (.ref (ad 4)), none, none] rfl ?_
  intro p e s m args below meth c C
  refine g_iconst C dX2_lessen_0 kc_0 ?_
  refine g_istore_n C [some (.ref (ad 5)), some (.ref (ad 4)), some (.int (nI 0)), none] dX2_lessen_1 (by decide) rfl ?_
  obtain ⟨n, h⟩ := h
  exact kl_X2_lessen_2 C _ (fun σ9 h => by exact k_X2_lessen_37 C σ9 h) n (nI 0) σ h
def rm_X2_meet : Room := { frames := 2, cells := 0, slots := 0, locals := 43 }
def wp_X2_meet (a2 : Int32) (σ : Sg) (Q : Int32 → Sg → Prop) : Prop :=
  wp_X8_pick 33 a2 σ (fun r1 σ2 => ((¬ r1 = (-9 : Int32) → Q r1 σ2) ∧ (r1 = (-9 : Int32) → wp_X8_pick 32 a2 σ2 (fun r3 σ4 => wp_X4_isKept r3 σ4 (fun r5 σ6 => wp_X7_add r5 σ6 (fun r7 σ8 => wp_X8_put 33 a2 r7 σ8 (fun σ9 => wp_X8_put 34 r7 a2 σ9 (fun σ10 => Q r7 σ10))))))))
set_option maxHeartbeats 4000000 in
set_option maxRecDepth 100000 in
theorem c_X2_meet (l : Launch) (D : va_G) (cy : Nat → ClassId) (ad : Nat → Nat) (b0 : Nat) (hA : AdOk ad b0) (a2 : Int32) : Cti l D cy ad b0 yX2_meet cX2_meet 5 (some .int) rm_X2_meet [.ref (ad 5), .ref (ad 6), .ref (ad 4), .int a2] (fun σ Q => wp_X2_meet a2 σ Q) := by
  intro σ Q h
  refine g_enter hA rfl (Nat.le_of_ble_eq_true rfl) [some (.ref (ad 5)), some (.ref (ad 6)), some (.ref (ad 4)), some (.int a2), none] rfl ?_
  intro p e s m args below meth c C
  refine g_aload_n C dX2_meet_0 rfl ?_
  refine fget_5_4_X2_24 C rfl dX2_meet_1 ?_
  refine g_iload_n C dX2_meet_4 rfl ?_
  refine g_callNi C [.ref (ad 33), .int a2] (c_X8_pick l D cy ad b0 C.A 33 a2 (by decide)) cal_X8_pick nw_18 rfl ⟨Nat.le_of_ble_eq_true rfl, Nat.le_of_ble_eq_true rfl⟩ ⟨rfl, rfl⟩ ⟨Nat.zero_le _, Nat.zero_le _⟩ (Nat.le_of_ble_eq_true rfl) rfl dX2_meet_5 h (fun r1 σ2 h => ?_)
  refine g_istore C [some (.ref (ad 5)), some (.ref (ad 6)), some (.ref (ad 4)), some (.int a2), some (.int r1)] dX2_meet_8 (by decide) rfl ?_
  refine g_iload C dX2_meet_10 rfl ?_
  refine g_bipush C dX2_meet_12 kb_m9 ?_
  refine g_icmp_ne C 55 dX2_meet_14 (by decide) (fun c14 => ?_) (fun c14 => ?_)
  · have h := h.1 c14
    refine g_iload C dX2_meet_55 rfl ?_
    exact g_iret C dX2_meet_57 h
  · have h := h.2 c14
    refine g_aload_n C dX2_meet_17 rfl ?_
    refine g_aload_n C dX2_meet_18 rfl ?_
    refine g_aload_n C dX2_meet_19 rfl ?_
    refine fget_5_3_X2_21 C rfl dX2_meet_20 ?_
    refine g_iload_n C dX2_meet_23 rfl ?_
    refine g_callNi C [.ref (ad 32), .int a2] (c_X8_pick l D cy ad b0 C.A 32 a2 (by decide)) cal_X8_pick nw_18 rfl ⟨Nat.le_of_ble_eq_true rfl, Nat.le_of_ble_eq_true rfl⟩ ⟨rfl, rfl⟩ ⟨Nat.zero_le _, Nat.zero_le _⟩ (Nat.le_of_ble_eq_true rfl) rfl dX2_meet_24 h (fun r3 σ4 h => ?_)
    refine g_callVi C 4 [.int r3] (c_X4_isKept l D cy ad b0 C.A r3) cal_X4_isKept mw_436 (by decide) rfl rfl ⟨Nat.le_of_ble_eq_true rfl, Nat.le_of_ble_eq_true rfl⟩ ⟨rfl, rfl⟩ ⟨Nat.zero_le _, Nat.zero_le _⟩ (Nat.le_of_ble_eq_true rfl) rfl dX2_meet_27 h (fun r5 σ6 h => ?_)
    refine g_callVi C 6 [.int r5] (c_X7_add l D cy ad b0 C.A r5) cal_X7_add mw_468 (by decide) rfl rfl ⟨Nat.le_of_ble_eq_true rfl, Nat.le_of_ble_eq_true rfl⟩ ⟨rfl, rfl⟩ ⟨Nat.zero_le _, Nat.zero_le _⟩ (Nat.le_of_ble_eq_true rfl) rfl dX2_meet_30 h (fun r7 σ8 h => ?_)
    refine g_istore C [some (.ref (ad 5)), some (.ref (ad 6)), some (.ref (ad 4)), some (.int a2), some (.int r7)] dX2_meet_33 (by decide) rfl ?_
    refine g_aload_n C dX2_meet_35 rfl ?_
    refine fget_5_4_X2_24 C rfl dX2_meet_36 ?_
    refine g_iload_n C dX2_meet_39 rfl ?_
    refine g_iload C dX2_meet_40 rfl ?_
    refine g_callNv C [.ref (ad 33), .int a2, .int r7] (c_X8_put l D cy ad b0 C.A 33 a2 r7 (by decide)) cal_X8_put nw_17 rfl ⟨Nat.le_of_ble_eq_true rfl, Nat.le_of_ble_eq_true rfl⟩ ⟨rfl, rfl⟩ ⟨Nat.zero_le _, Nat.zero_le _⟩ (Nat.le_of_ble_eq_true rfl) rfl dX2_meet_42 h (fun σ9 h => ?_)
    refine g_aload_n C dX2_meet_45 rfl ?_
    refine fget_5_5_X2_27 C rfl dX2_meet_46 ?_
    refine g_iload C dX2_meet_49 rfl ?_
    refine g_iload_n C dX2_meet_51 rfl ?_
    refine g_callNv C [.ref (ad 34), .int r7, .int a2] (c_X8_put l D cy ad b0 C.A 34 r7 a2 (by decide)) cal_X8_put nw_17 rfl ⟨Nat.le_of_ble_eq_true rfl, Nat.le_of_ble_eq_true rfl⟩ ⟨rfl, rfl⟩ ⟨Nat.zero_le _, Nat.zero_le _⟩ (Nat.le_of_ble_eq_true rfl) rfl dX2_meet_52 h (fun σ10 h => ?_)
    refine g_iload C dX2_meet_55 rfl ?_
    exact g_iret C dX2_meet_57 h
def rm_X2_putInto : Room := { frames := 5, cells := 0, slots := 0, locals := 112 }
def wp_X2_putInto_131 (Q : Sg → Prop) (σ : Sg) : Prop :=
  wp_X7_finish σ (fun σ1 => Q σ1)
set_option maxHeartbeats 4000000 in
set_option maxRecDepth 100000 in
theorem k_X2_putInto_131 {Q : Sg → Prop} (C : Cx p s m args meth c D cy ad b0 yX2_putInto cX2_putInto 7 none) (σ : Sg) (h : wp_X2_putInto_131 Q σ) : gV p l e rm_X2_putInto s m args below meth c D cy ad b0 Q 7 131 σ [none, some (.ref (ad 6)), none, none, none, none, none] [] := by
  refine g_aload_n C dX2_putInto_131 rfl ?_
  refine g_callVv C 6 [] (c_X7_finish l D cy ad b0 C.A) cal_X7_finish mw_480 (by decide) rfl rfl ⟨Nat.le_of_ble_eq_true rfl, Nat.le_of_ble_eq_true rfl⟩ ⟨rfl, rfl⟩ ⟨Nat.zero_le _, Nat.zero_le _⟩ (Nat.le_of_ble_eq_true rfl) rfl dX2_putInto_132 h (fun σ1 h => ?_)
  exact g_vret C dX2_putInto_135 h
def wp_X2_putInto_125 (v3 : Int32) (K47 : Int32 → Sg → Prop) (Q : Sg → Prop) (σ : Sg) : Prop :=
  ∀ x125 : Int32, x125 = v3 + (nI 1) → (K47 x125 σ)
set_option maxHeartbeats 4000000 in
set_option maxRecDepth 100000 in
theorem k_X2_putInto_125 {Q : Sg → Prop} (C : Cx p s m args meth c D cy ad b0 yX2_putInto cX2_putInto 7 none) (v3 : Int32) (K47 : Int32 → Sg → Prop) (hK47 : ∀ (z3 : Int32) (σ : Sg), K47 z3 σ → gV p l e rm_X2_putInto s m args below meth c D cy ad b0 Q 7 47 σ [some (.ref (ad 5)), some (.ref (ad 6)), some (.ref (ad 4)), some (.int z3), none, none, none] []) (σ : Sg) (h : wp_X2_putInto_125 v3 K47 Q σ) : gV p l e rm_X2_putInto s m args below meth c D cy ad b0 Q 7 125 σ [some (.ref (ad 5)), some (.ref (ad 6)), some (.ref (ad 4)), some (.int v3), none, none, none] [] := by
  obtain ⟨x125, e_x125⟩ : ∃ v : Int32, v = v3 + (nI 1) := ⟨_, rfl⟩
  have h := h x125 e_x125
  refine g_iinc C [some (.ref (ad 5)), some (.ref (ad 6)), some (.ref (ad 4)), some (.int x125), none, none, none] dX2_putInto_125 rfl e_x125.symm (by decide) rfl ?_
  refine g_goto C 47 dX2_putInto_128 (by decide) ?_
  exact hK47 x125 σ h
def wb_X2_putInto_81 (v3 : Int32) (v4 : Int32) (v5 : Int32) (K81 : Int32 → Sg → Prop) (K125 : Sg → Prop) (Q : Sg → Prop) (σ : Sg) : Prop :=
  (((nI 4) ≤ v5 → K125 σ) ∧ (¬ (nI 4) ≤ v5 → wp_X4_next v4 v5 σ (fun r1 σ2 => isK (gR σ 5 0) 0 ∧ (wp_X8_pick (gR σ 5 0) r1 σ2 (fun r3 σ4 => wp_X2_meet r3 σ4 (fun r5 σ6 => wp_X7_lead v3 v5 r5 σ6 (fun σ7 => ∀ x119 : Int32, x119 = v5 + (nI 1) → (K81 x119 σ7))))))))
set_option maxHeartbeats 4000000 in
set_option maxRecDepth 100000 in
theorem kb_X2_putInto_81 {Q : Sg → Prop} (C : Cx p s m args meth c D cy ad b0 yX2_putInto cX2_putInto 7 none) (v3 : Int32) (v4 : Int32) (v5 : Int32) (K81 : Int32 → Sg → Prop) (K125 : Sg → Prop) (hK81 : ∀ (z5 : Int32) (σ : Sg), K81 z5 σ → gV p l e rm_X2_putInto s m args below meth c D cy ad b0 Q 7 81 σ [some (.ref (ad 5)), some (.ref (ad 6)), some (.ref (ad 4)), some (.int v3), some (.int v4), some (.int z5), none] []) (hK125 : ∀  (σ : Sg), K125 σ → gV p l e rm_X2_putInto s m args below meth c D cy ad b0 Q 7 125 σ [some (.ref (ad 5)), some (.ref (ad 6)), some (.ref (ad 4)), some (.int v3), none, none, none] []) (σ : Sg) (h : wb_X2_putInto_81 v3 v4 v5 K81 K125 Q σ) : gV p l e rm_X2_putInto s m args below meth c D cy ad b0 Q 7 81 σ [some (.ref (ad 5)), some (.ref (ad 6)), some (.ref (ad 4)), some (.int v3), some (.int v4), some (.int v5), none] [] := by
  refine g_iload C dX2_putInto_81 rfl ?_
  refine g_iconst C dX2_putInto_83 kc_4 ?_
  refine g_icmp_ge C 125 dX2_putInto_84 (by decide) (fun c84 => ?_) (fun c84 => ?_)
  · have h := h.1 c84
    refine g_mask [true, true, true, true, false, false, false] rfl ?_
    exact hK125 σ h
  · have h := h.2 c84
    refine g_aload_n C dX2_putInto_87 rfl ?_
    refine fget_5_0_X2_9 C rfl dX2_putInto_88 ?_
    refine g_aload_n C dX2_putInto_91 rfl ?_
    refine g_iload C dX2_putInto_92 rfl ?_
    refine g_iload C dX2_putInto_94 rfl ?_
    refine g_callVi C 4 [.int v4, .int v5] (c_X4_next l D cy ad b0 C.A v4 v5) cal_X4_next mw_448 (by decide) rfl rfl ⟨Nat.le_of_ble_eq_true rfl, Nat.le_of_ble_eq_true rfl⟩ ⟨rfl, rfl⟩ ⟨Nat.zero_le _, Nat.zero_le _⟩ (Nat.le_of_ble_eq_true rfl) rfl dX2_putInto_96 h (fun r1 σ2 h => ?_)
    refine g_callNi C [.ref (ad (gR σ 5 0)), .int r1] (c_X8_pick l D cy ad b0 C.A (gR σ 5 0) r1 h.1) cal_X8_pick nw_18 rfl ⟨Nat.le_of_ble_eq_true rfl, Nat.le_of_ble_eq_true rfl⟩ ⟨rfl, rfl⟩ ⟨Nat.zero_le _, Nat.zero_le _⟩ (Nat.le_of_ble_eq_true rfl) rfl dX2_putInto_99 h.2 (fun r3 σ4 h => ?_)
    refine g_istore C [some (.ref (ad 5)), some (.ref (ad 6)), some (.ref (ad 4)), some (.int v3), some (.int v4), some (.int v5), some (.int r3)] dX2_putInto_102 (by decide) rfl ?_
    refine g_aload_n C dX2_putInto_104 rfl ?_
    refine g_iload_n C dX2_putInto_105 rfl ?_
    refine g_iload C dX2_putInto_106 rfl ?_
    refine g_aload_n C dX2_putInto_108 rfl ?_
    refine g_aload_n C dX2_putInto_109 rfl ?_
    refine g_aload_n C dX2_putInto_110 rfl ?_
    refine g_iload C dX2_putInto_111 rfl ?_
    refine g_callVi C 5 [.ref (ad 6), .ref (ad 4), .int r3] (c_X2_meet l D cy ad b0 C.A r3) cal_X2_meet mw_464 (by decide) rfl rfl ⟨Nat.le_of_ble_eq_true rfl, Nat.le_of_ble_eq_true rfl⟩ ⟨rfl, rfl⟩ ⟨Nat.zero_le _, Nat.zero_le _⟩ (Nat.le_of_ble_eq_true rfl) rfl dX2_putInto_113 h (fun r5 σ6 h => ?_)
    refine g_callVv C 6 [.int v3, .int v5, .int r5] (c_X7_lead l D cy ad b0 C.A v3 v5 r5) cal_X7_lead mw_476 (by decide) rfl rfl ⟨Nat.le_of_ble_eq_true rfl, Nat.le_of_ble_eq_true rfl⟩ ⟨rfl, rfl⟩ ⟨Nat.zero_le _, Nat.zero_le _⟩ (Nat.le_of_ble_eq_true rfl) rfl dX2_putInto_116 h (fun σ7 h => ?_)
    obtain ⟨x119, e_x119⟩ : ∃ v : Int32, v = v5 + (nI 1) := ⟨_, rfl⟩
    have h := h x119 e_x119
    refine g_iinc C [some (.ref (ad 5)), some (.ref (ad 6)), some (.ref (ad 4)), some (.int v3), some (.int v4), some (.int x119), some (.int r3)] dX2_putInto_119 rfl e_x119.symm (by decide) rfl ?_
    refine g_goto C 81 dX2_putInto_122 (by decide) ?_
    refine g_mask [true, true, true, true, true, true, false] rfl ?_
    exact hK81 x119 σ7 h
def wl_X2_putInto_81 (v3 : Int32) (v4 : Int32) (K125 : Sg → Prop) (Q : Sg → Prop) : Nat → Int32 → Sg → Prop
  | 0, _, _ => False
  | n + 1, v5, σ => wb_X2_putInto_81 v3 v4 v5 (wl_X2_putInto_81 v3 v4 K125 Q n) K125 Q σ
set_option maxHeartbeats 4000000 in
set_option maxRecDepth 100000 in
theorem kl_X2_putInto_81 {Q : Sg → Prop} (C : Cx p s m args meth c D cy ad b0 yX2_putInto cX2_putInto 7 none) (v3 : Int32) (v4 : Int32) (K125 : Sg → Prop) (hK125 : ∀  (σ : Sg), K125 σ → gV p l e rm_X2_putInto s m args below meth c D cy ad b0 Q 7 125 σ [some (.ref (ad 5)), some (.ref (ad 6)), some (.ref (ad 4)), some (.int v3), none, none, none] []) : ∀ (n : Nat) (v5 : Int32) (σ : Sg), wl_X2_putInto_81 v3 v4 K125 Q n v5 σ → gV p l e rm_X2_putInto s m args below meth c D cy ad b0 Q 7 81 σ [some (.ref (ad 5)), some (.ref (ad 6)), some (.ref (ad 4)), some (.int v3), some (.int v4), some (.int v5), none] [] := by
  intro n
  induction n with
  | zero => intro v5 σ h; exact False.elim h
  | succ n ih =>
    intro v5 σ h
    exact kb_X2_putInto_81 C v3 v4 v5 (wl_X2_putInto_81 v3 v4 K125 Q n) K125 (fun z5 σ h => ih z5 σ h) hK125 σ h
def wb_X2_putInto_47 (v3 : Int32) (K47 : Int32 → Sg → Prop) (K131 : Sg → Prop) (Q : Sg → Prop) (σ : Sg) : Prop :=
  wp_X7_size σ (fun r1 σ2 => ((r1 ≤ v3 → K131 σ2) ∧ (¬ r1 ≤ v3 → (((nI 60) ≤ v3 → K131 σ2) ∧ (¬ (nI 60) ≤ v3 → wp_X8_pick 34 v3 σ2 (fun r3 σ4 => wp_X8_pick 32 r3 σ4 (fun r5 σ6 => ∃ n, wl_X2_putInto_81 v3 r5 (fun σ9 => wp_X2_putInto_125 v3 K47 Q σ9) Q n (nI 0) σ6)))))))
set_option maxHeartbeats 4000000 in
set_option maxRecDepth 100000 in
theorem kb_X2_putInto_47 {Q : Sg → Prop} (C : Cx p s m args meth c D cy ad b0 yX2_putInto cX2_putInto 7 none) (v3 : Int32) (K47 : Int32 → Sg → Prop) (K131 : Sg → Prop) (hK47 : ∀ (z3 : Int32) (σ : Sg), K47 z3 σ → gV p l e rm_X2_putInto s m args below meth c D cy ad b0 Q 7 47 σ [some (.ref (ad 5)), some (.ref (ad 6)), some (.ref (ad 4)), some (.int z3), none, none, none] []) (hK131 : ∀  (σ : Sg), K131 σ → gV p l e rm_X2_putInto s m args below meth c D cy ad b0 Q 7 131 σ [none, some (.ref (ad 6)), none, none, none, none, none] []) (σ : Sg) (h : wb_X2_putInto_47 v3 K47 K131 Q σ) : gV p l e rm_X2_putInto s m args below meth c D cy ad b0 Q 7 47 σ [some (.ref (ad 5)), some (.ref (ad 6)), some (.ref (ad 4)), some (.int v3), none, none, none] [] := by
  refine g_iload_n C dX2_putInto_47 rfl ?_
  refine g_aload_n C dX2_putInto_48 rfl ?_
  refine g_callVi C 6 [] (c_X7_size l D cy ad b0 C.A) cal_X7_size mw_472 (by decide) rfl rfl ⟨Nat.le_of_ble_eq_true rfl, Nat.le_of_ble_eq_true rfl⟩ ⟨rfl, rfl⟩ ⟨Nat.zero_le _, Nat.zero_le _⟩ (Nat.le_of_ble_eq_true rfl) rfl dX2_putInto_49 h (fun r1 σ2 h => ?_)
  refine g_icmp_ge C 131 dX2_putInto_52 (by decide) (fun c52 => ?_) (fun c52 => ?_)
  · have h := h.1 c52
    refine g_mask [false, true, false, false, false, false, false] rfl ?_
    exact hK131 σ2 h
  · have h := h.2 c52
    refine g_iload_n C dX2_putInto_55 rfl ?_
    refine g_bipush C dX2_putInto_56 kb_60 ?_
    refine g_icmp_ge C 131 dX2_putInto_58 (by decide) (fun c58 => ?_) (fun c58 => ?_)
    · have h := h.1 c58
      refine g_mask [false, true, false, false, false, false, false] rfl ?_
      exact hK131 σ2 h
    · have h := h.2 c58
      refine g_aload_n C dX2_putInto_61 rfl ?_
      refine fget_5_3_X2_21 C rfl dX2_putInto_62 ?_
      refine g_aload_n C dX2_putInto_65 rfl ?_
      refine fget_5_5_X2_27 C rfl dX2_putInto_66 ?_
      refine g_iload_n C dX2_putInto_69 rfl ?_
      refine g_callNi C [.ref (ad 34), .int v3] (c_X8_pick l D cy ad b0 C.A 34 v3 (by decide)) cal_X8_pick nw_18 rfl ⟨Nat.le_of_ble_eq_true rfl, Nat.le_of_ble_eq_true rfl⟩ ⟨rfl, rfl⟩ ⟨Nat.zero_le _, Nat.zero_le _⟩ (Nat.le_of_ble_eq_true rfl) rfl dX2_putInto_70 h (fun r3 σ4 h => ?_)
      refine g_callNi C [.ref (ad 32), .int r3] (c_X8_pick l D cy ad b0 C.A 32 r3 (by decide)) cal_X8_pick nw_18 rfl ⟨Nat.le_of_ble_eq_true rfl, Nat.le_of_ble_eq_true rfl⟩ ⟨rfl, rfl⟩ ⟨Nat.zero_le _, Nat.zero_le _⟩ (Nat.le_of_ble_eq_true rfl) rfl dX2_putInto_73 h (fun r5 σ6 h => ?_)
      refine g_istore C [some (.ref (ad 5)), some (.ref (ad 6)), some (.ref (ad 4)), some (.int v3), some (.int r5), none, none] dX2_putInto_76 (by decide) rfl ?_
      refine g_iconst C dX2_putInto_78 kc_0 ?_
      refine g_istore C [some (.ref (ad 5)), some (.ref (ad 6)), some (.ref (ad 4)), some (.int v3), some (.int r5), some (.int (nI 0)), none] dX2_putInto_79 (by decide) rfl ?_
      obtain ⟨n, h⟩ := h
      exact kl_X2_putInto_81 C v3 r5 _ (fun σ9 h => by exact k_X2_putInto_125 C v3 K47 hK47 σ9 h) n (nI 0) σ6 h
def wl_X2_putInto_47 (K131 : Sg → Prop) (Q : Sg → Prop) : Nat → Int32 → Sg → Prop
  | 0, _, _ => False
  | n + 1, v3, σ => wb_X2_putInto_47 v3 (wl_X2_putInto_47 K131 Q n) K131 Q σ
set_option maxHeartbeats 4000000 in
set_option maxRecDepth 100000 in
theorem kl_X2_putInto_47 {Q : Sg → Prop} (C : Cx p s m args meth c D cy ad b0 yX2_putInto cX2_putInto 7 none) (K131 : Sg → Prop) (hK131 : ∀  (σ : Sg), K131 σ → gV p l e rm_X2_putInto s m args below meth c D cy ad b0 Q 7 131 σ [none, some (.ref (ad 6)), none, none, none, none, none] []) : ∀ (n : Nat) (v3 : Int32) (σ : Sg), wl_X2_putInto_47 K131 Q n v3 σ → gV p l e rm_X2_putInto s m args below meth c D cy ad b0 Q 7 47 σ [some (.ref (ad 5)), some (.ref (ad 6)), some (.ref (ad 4)), some (.int v3), none, none, none] [] := by
  intro n
  induction n with
  | zero => intro v3 σ h; exact False.elim h
  | succ n ih =>
    intro v3 σ h
    exact kb_X2_putInto_47 C v3 (wl_X2_putInto_47 K131 Q n) K131 (fun z3 σ h => ih z3 σ h) hK131 σ h
def wp_X2_putInto_26 (Q : Sg → Prop) (σ : Sg) : Prop :=
  wp_X7_clear σ (fun σ1 => isK (gR σ1 5 0) 0 ∧ (wp_X8_pick (gR σ1 5 0) (nI 0) σ1 (fun r2 σ3 => wp_X2_meet r2 σ3 (fun r4 σ5 => ∃ n, wl_X2_putInto_47 (fun σ9 => wp_X2_putInto_131 Q σ9) Q n (nI 0) σ5))))
set_option maxHeartbeats 4000000 in
set_option maxRecDepth 100000 in
theorem k_X2_putInto_26 {Q : Sg → Prop} (C : Cx p s m args meth c D cy ad b0 yX2_putInto cX2_putInto 7 none) (σ : Sg) (h : wp_X2_putInto_26 Q σ) : gV p l e rm_X2_putInto s m args below meth c D cy ad b0 Q 7 26 σ [some (.ref (ad 5)), some (.ref (ad 6)), some (.ref (ad 4)), none, none, none, none] [] := by
  refine g_aload_n C dX2_putInto_26 rfl ?_
  refine g_callVv C 6 [] (c_X7_clear l D cy ad b0 C.A) cal_X7_clear mw_460 (by decide) rfl rfl ⟨Nat.le_of_ble_eq_true rfl, Nat.le_of_ble_eq_true rfl⟩ ⟨rfl, rfl⟩ ⟨Nat.zero_le _, Nat.zero_le _⟩ (Nat.le_of_ble_eq_true rfl) rfl dX2_putInto_27 h (fun σ1 h => ?_)
  refine g_aload_n C dX2_putInto_30 rfl ?_
  refine g_aload_n C dX2_putInto_31 rfl ?_
  refine g_aload_n C dX2_putInto_32 rfl ?_
  refine g_aload_n C dX2_putInto_33 rfl ?_
  refine fget_5_0_X2_9 C rfl dX2_putInto_34 ?_
  refine g_iconst C dX2_putInto_37 kc_0 ?_
  refine g_callNi C [.ref (ad (gR σ1 5 0)), .int (nI 0)] (c_X8_pick l D cy ad b0 C.A (gR σ1 5 0) (nI 0) h.1) cal_X8_pick nw_18 rfl ⟨Nat.le_of_ble_eq_true rfl, Nat.le_of_ble_eq_true rfl⟩ ⟨rfl, rfl⟩ ⟨Nat.zero_le _, Nat.zero_le _⟩ (Nat.le_of_ble_eq_true rfl) rfl dX2_putInto_38 h.2 (fun r2 σ3 h => ?_)
  refine g_callVi C 5 [.ref (ad 6), .ref (ad 4), .int r2] (c_X2_meet l D cy ad b0 C.A r2) cal_X2_meet mw_464 (by decide) rfl rfl ⟨Nat.le_of_ble_eq_true rfl, Nat.le_of_ble_eq_true rfl⟩ ⟨rfl, rfl⟩ ⟨Nat.zero_le _, Nat.zero_le _⟩ (Nat.le_of_ble_eq_true rfl) rfl dX2_putInto_41 h (fun r4 σ5 h => ?_)
  refine g_pop C dX2_putInto_44 rfl ?_
  refine g_iconst C dX2_putInto_45 kc_0 ?_
  refine g_istore_n C [some (.ref (ad 5)), some (.ref (ad 6)), some (.ref (ad 4)), some (.int (nI 0)), none, none, none] dX2_putInto_46 (by decide) rfl ?_
  obtain ⟨n, h⟩ := h
  exact kl_X2_putInto_47 C _ (fun σ9 h => by exact k_X2_putInto_131 C σ9 h) n (nI 0) σ5 h
def wb_X2_putInto_2 (v3 : Int32) (K2 : Int32 → Sg → Prop) (K26 : Sg → Prop) (Q : Sg → Prop) (σ : Sg) : Prop :=
  (((gF σ 5 6) ≤ v3 → K26 σ) ∧ (¬ (gF σ 5 6) ≤ v3 → wp_X8_put 33 v3 (-9 : Int32) σ (fun σ1 => ∀ x20 : Int32, x20 = v3 + (nI 1) → (K2 x20 σ1))))
set_option maxHeartbeats 4000000 in
set_option maxRecDepth 100000 in
theorem kb_X2_putInto_2 {Q : Sg → Prop} (C : Cx p s m args meth c D cy ad b0 yX2_putInto cX2_putInto 7 none) (v3 : Int32) (K2 : Int32 → Sg → Prop) (K26 : Sg → Prop) (hK2 : ∀ (z3 : Int32) (σ : Sg), K2 z3 σ → gV p l e rm_X2_putInto s m args below meth c D cy ad b0 Q 7 2 σ [some (.ref (ad 5)), some (.ref (ad 6)), some (.ref (ad 4)), some (.int z3), none, none, none] []) (hK26 : ∀  (σ : Sg), K26 σ → gV p l e rm_X2_putInto s m args below meth c D cy ad b0 Q 7 26 σ [some (.ref (ad 5)), some (.ref (ad 6)), some (.ref (ad 4)), none, none, none, none] []) (σ : Sg) (h : wb_X2_putInto_2 v3 K2 K26 Q σ) : gV p l e rm_X2_putInto s m args below meth c D cy ad b0 Q 7 2 σ [some (.ref (ad 5)), some (.ref (ad 6)), some (.ref (ad 4)), some (.int v3), none, none, none] [] := by
  refine g_iload_n C dX2_putInto_2 rfl ?_
  refine g_aload_n C dX2_putInto_3 rfl ?_
  refine fget_5_6_X2_30 C rfl dX2_putInto_4 ?_
  refine g_icmp_ge C 26 dX2_putInto_7 (by decide) (fun c7 => ?_) (fun c7 => ?_)
  · have h := h.1 c7
    refine g_mask [true, true, true, false, false, false, false] rfl ?_
    exact hK26 σ h
  · have h := h.2 c7
    refine g_aload_n C dX2_putInto_10 rfl ?_
    refine fget_5_4_X2_24 C rfl dX2_putInto_11 ?_
    refine g_iload_n C dX2_putInto_14 rfl ?_
    refine g_bipush C dX2_putInto_15 kb_m9 ?_
    refine g_callNv C [.ref (ad 33), .int v3, .int (-9 : Int32)] (c_X8_put l D cy ad b0 C.A 33 v3 (-9 : Int32) (by decide)) cal_X8_put nw_17 rfl ⟨Nat.le_of_ble_eq_true rfl, Nat.le_of_ble_eq_true rfl⟩ ⟨rfl, rfl⟩ ⟨Nat.zero_le _, Nat.zero_le _⟩ (Nat.le_of_ble_eq_true rfl) rfl dX2_putInto_17 h (fun σ1 h => ?_)
    obtain ⟨x20, e_x20⟩ : ∃ v : Int32, v = v3 + (nI 1) := ⟨_, rfl⟩
    have h := h x20 e_x20
    refine g_iinc C [some (.ref (ad 5)), some (.ref (ad 6)), some (.ref (ad 4)), some (.int x20), none, none, none] dX2_putInto_20 rfl e_x20.symm (by decide) rfl ?_
    refine g_goto C 2 dX2_putInto_23 (by decide) ?_
    exact hK2 x20 σ1 h
def wl_X2_putInto_2 (K26 : Sg → Prop) (Q : Sg → Prop) : Nat → Int32 → Sg → Prop
  | 0, _, _ => False
  | n + 1, v3, σ => wb_X2_putInto_2 v3 (wl_X2_putInto_2 K26 Q n) K26 Q σ
set_option maxHeartbeats 4000000 in
set_option maxRecDepth 100000 in
theorem kl_X2_putInto_2 {Q : Sg → Prop} (C : Cx p s m args meth c D cy ad b0 yX2_putInto cX2_putInto 7 none) (K26 : Sg → Prop) (hK26 : ∀  (σ : Sg), K26 σ → gV p l e rm_X2_putInto s m args below meth c D cy ad b0 Q 7 26 σ [some (.ref (ad 5)), some (.ref (ad 6)), some (.ref (ad 4)), none, none, none, none] []) : ∀ (n : Nat) (v3 : Int32) (σ : Sg), wl_X2_putInto_2 K26 Q n v3 σ → gV p l e rm_X2_putInto s m args below meth c D cy ad b0 Q 7 2 σ [some (.ref (ad 5)), some (.ref (ad 6)), some (.ref (ad 4)), some (.int v3), none, none, none] [] := by
  intro n
  induction n with
  | zero => intro v3 σ h; exact False.elim h
  | succ n ih =>
    intro v3 σ h
    exact kb_X2_putInto_2 C v3 (wl_X2_putInto_2 K26 Q n) K26 (fun z3 σ h => ih z3 σ h) hK26 σ h
def wp_X2_putInto (σ : Sg) (Q : Sg → Prop) : Prop :=
  ∃ n, wl_X2_putInto_2 (fun σ9 => wp_X2_putInto_26 Q σ9) Q n (nI 0) σ
set_option maxHeartbeats 4000000 in
set_option maxRecDepth 100000 in
theorem c_X2_putInto (l : Launch) (D : va_G) (cy : Nat → ClassId) (ad : Nat → Nat) (b0 : Nat) (hA : AdOk ad b0) : Ctv l D cy ad b0 yX2_putInto cX2_putInto 7 none rm_X2_putInto [.ref (ad 5), .ref (ad 6), .ref (ad 4)] (fun σ Q => wp_X2_putInto σ Q) := by
  intro σ Q h
  refine g_enter hA rfl (Nat.le_of_ble_eq_true rfl) [some (.ref (ad 5)), some (.ref (ad 6)), some (.ref (ad 4)), none, none, none, none] rfl ?_
  intro p e s m args below meth c C
  refine g_iconst C dX2_putInto_0 kc_0 ?_
  refine g_istore_n C [some (.ref (ad 5)), some (.ref (ad 6)), some (.ref (ad 4)), some (.int (nI 0)), none, none, none] dX2_putInto_1 (by decide) rfl ?_
  obtain ⟨n, h⟩ := h
  exact kl_X2_putInto_2 C _ (fun σ9 h => by exact k_X2_putInto_26 C σ9 h) n (nI 0) σ h
end
