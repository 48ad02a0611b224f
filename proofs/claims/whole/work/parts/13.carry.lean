section
variable {p : Program} {l : Launch} {e : Env} {s : State} {m : MethodId} {args : Array Value} {below : List Frame} {meth : Method} {c : Code} {D : va_G} {cy : Nat → ClassId} {ad : Nat → Nat} {b0 : Nat}
def rm_X0_all : Room := { frames := 1, cells := 0, slots := 0, locals := 21 }
def wp_X0_all (σ : Sg) (Q : Int32 → Sg → Prop) : Prop :=
  Q (if ((nI 1) <<< (((gF σ 3 3) + (gF σ 3 4)) &&& 31)) < (nI 256) then ((nI 1) <<< (((gF σ 3 3) + (gF σ 3 4)) &&& 31)) else (nI 256)) σ
set_option maxHeartbeats 4000000 in
set_option maxRecDepth 100000 in
theorem c_X0_all (l : Launch) (D : va_G) (cy : Nat → ClassId) (ad : Nat → Nat) (b0 : Nat) (hA : AdOk ad b0) : Cti l D cy ad b0 yX0_all cX0_all 1 (some .int) rm_X0_all [.ref (ad 3)] (fun σ Q => wp_X0_all σ Q) := by
  intro σ Q h
  refine g_enter hA rfl (Nat.le_of_ble_eq_true rfl) [some (.ref (ad 3))] rfl ?_
  intro p e s m args below meth c C
  refine g_sipush C dX0_all_0 ks_256 ?_
  refine g_iconst C dX0_all_3 kc_1 ?_
  refine g_aload_n C dX0_all_4 rfl ?_
  refine fget_3_3_X0_22 C rfl dX0_all_5 ?_
  refine g_aload_n C dX0_all_8 rfl ?_
  refine fget_3_4_X0_26 C rfl dX0_all_9 ?_
  refine g_iadd C dX0_all_12 ?_
  refine g_ishl C dX0_all_13 ?_
  refine g_mmin C mw_324 mw_325 mw_326 mw_973 ⟨Nat.le_of_ble_eq_true rfl, Nat.le_of_ble_eq_true rfl, Nat.zero_le _, Nat.zero_le _⟩ dX0_all_14 ?_
  exact g_iret C dX0_all_17 h
def rm_X0_futures : Room := { frames := 1, cells := 0, slots := 0, locals := 21 }
def wp_X0_futures (σ : Sg) (Q : Int32 → Sg → Prop) : Prop :=
  Q (if ((nI 1) <<< ((gF σ 3 3) &&& 31)) < (nI 256) then ((nI 1) <<< ((gF σ 3 3) &&& 31)) else (nI 256)) σ
set_option maxHeartbeats 4000000 in
set_option maxRecDepth 100000 in
theorem c_X0_futures (l : Launch) (D : va_G) (cy : Nat → ClassId) (ad : Nat → Nat) (b0 : Nat) (hA : AdOk ad b0) : Cti l D cy ad b0 yX0_futures cX0_futures 1 (some .int) rm_X0_futures [.ref (ad 3)] (fun σ Q => wp_X0_futures σ Q) := by
  intro σ Q h
  refine g_enter hA rfl (Nat.le_of_ble_eq_true rfl) [some (.ref (ad 3))] rfl ?_
  intro p e s m args below meth c C
  refine g_sipush C dX0_futures_0 ks_256 ?_
  refine g_iconst C dX0_futures_3 kc_1 ?_
  refine g_aload_n C dX0_futures_4 rfl ?_
  refine fget_3_3_X0_22 C rfl dX0_futures_5 ?_
  refine g_ishl C dX0_futures_8 ?_
  refine g_mmin C mw_324 mw_325 mw_326 mw_973 ⟨Nat.le_of_ble_eq_true rfl, Nat.le_of_ble_eq_true rfl, Nat.zero_le _, Nat.zero_le _⟩ dX0_futures_9 ?_
  exact g_iret C dX0_futures_12 h
def rm_X0_pasts : Room := { frames := 1, cells := 0, slots := 0, locals := 21 }
def wp_X0_pasts (σ : Sg) (Q : Int32 → Sg → Prop) : Prop :=
  Q (if ((nI 1) <<< ((gF σ 3 4) &&& 31)) < (nI 256) then ((nI 1) <<< ((gF σ 3 4) &&& 31)) else (nI 256)) σ
set_option maxHeartbeats 4000000 in
set_option maxRecDepth 100000 in
theorem c_X0_pasts (l : Launch) (D : va_G) (cy : Nat → ClassId) (ad : Nat → Nat) (b0 : Nat) (hA : AdOk ad b0) : Cti l D cy ad b0 yX0_pasts cX0_pasts 1 (some .int) rm_X0_pasts [.ref (ad 3)] (fun σ Q => wp_X0_pasts σ Q) := by
  intro σ Q h
  refine g_enter hA rfl (Nat.le_of_ble_eq_true rfl) [some (.ref (ad 3))] rfl ?_
  intro p e s m args below meth c C
  refine g_sipush C dX0_pasts_0 ks_256 ?_
  refine g_iconst C dX0_pasts_3 kc_1 ?_
  refine g_aload_n C dX0_pasts_4 rfl ?_
  refine fget_3_4_X0_26 C rfl dX0_pasts_5 ?_
  refine g_ishl C dX0_pasts_8 ?_
  refine g_mmin C mw_324 mw_325 mw_326 mw_973 ⟨Nat.le_of_ble_eq_true rfl, Nat.le_of_ble_eq_true rfl, Nat.zero_le _, Nat.zero_le _⟩ dX0_pasts_9 ?_
  exact g_iret C dX0_pasts_12 h
def rm_X0_futureOf : Room := { frames := 2, cells := 0, slots := 0, locals := 41 }
def wp_X0_futureOf (a0 : Int32) (σ : Sg) (Q : Int32 → Sg → Prop) : Prop :=
  wp_X0_futures σ (fun r1 σ2 => Q (a0 &&& (r1 - (nI 1))) σ2)
set_option maxHeartbeats 4000000 in
set_option maxRecDepth 100000 in
theorem c_X0_futureOf (l : Launch) (D : va_G) (cy : Nat → ClassId) (ad : Nat → Nat) (b0 : Nat) (hA : AdOk ad b0) (a0 : Int32) : Cti l D cy ad b0 yX0_futureOf cX0_futureOf 2 (some .int) rm_X0_futureOf [.ref (ad 3), .int a0] (fun σ Q => wp_X0_futureOf a0 σ Q) := by
  intro σ Q h
  refine g_enter hA rfl (Nat.le_of_ble_eq_true rfl) [some (.ref (ad 3)), some (.int a0)] rfl ?_
  intro p e s m args below meth c C
  refine g_iload_n C dX0_futureOf_0 rfl ?_
  refine g_aload_n C dX0_futureOf_1 rfl ?_
  refine g_callVi C 3 [] (c_X0_futures l D cy ad b0 C.A) cal_X0_futures mw_353 (by decide) rfl rfl ⟨Nat.le_of_ble_eq_true rfl, Nat.le_of_ble_eq_true rfl⟩ ⟨rfl, rfl⟩ ⟨Nat.zero_le _, Nat.zero_le _⟩ (Nat.le_of_ble_eq_true rfl) rfl dX0_futureOf_2 h (fun r1 σ2 h => ?_)
  refine g_iconst C dX0_futureOf_5 kc_1 ?_
  refine g_isub C dX0_futureOf_6 ?_
  refine g_iand C dX0_futureOf_7 ?_
  exact g_iret C dX0_futureOf_8 h
def rm_X0_pastOf : Room := { frames := 0, cells := 0, slots := 0, locals := 0 }
def wp_X0_pastOf (a0 : Int32) (σ : Sg) (Q : Int32 → Sg → Prop) : Prop :=
  Q (a0 >>> ((gF σ 3 3) &&& 31)) σ
set_option maxHeartbeats 4000000 in
set_option maxRecDepth 100000 in
theorem c_X0_pastOf (l : Launch) (D : va_G) (cy : Nat → ClassId) (ad : Nat → Nat) (b0 : Nat) (hA : AdOk ad b0) (a0 : Int32) : Cti l D cy ad b0 yX0_pastOf cX0_pastOf 2 (some .int) rm_X0_pastOf [.ref (ad 3), .int a0] (fun σ Q => wp_X0_pastOf a0 σ Q) := by
  intro σ Q h
  refine g_enter hA rfl (Nat.le_of_ble_eq_true rfl) [some (.ref (ad 3)), some (.int a0)] rfl ?_
  intro p e s m args below meth c C
  refine g_iload_n C dX0_pastOf_0 rfl ?_
  refine g_aload_n C dX0_pastOf_1 rfl ?_
  refine fget_3_3_X0_22 C rfl dX0_pastOf_2 ?_
  refine g_ishr C dX0_pastOf_5 ?_
  exact g_iret C dX0_pastOf_6 h
def rm_X0_both : Room := { frames := 0, cells := 0, slots := 0, locals := 0 }
def wp_X0_both (a0 : Int32) (a1 : Int32) (σ : Sg) (Q : Int32 → Sg → Prop) : Prop :=
  Q ((a0 <<< ((gF σ 3 3) &&& 31)) ||| a1) σ
set_option maxHeartbeats 4000000 in
set_option maxRecDepth 100000 in
theorem c_X0_both (l : Launch) (D : va_G) (cy : Nat → ClassId) (ad : Nat → Nat) (b0 : Nat) (hA : AdOk ad b0) (a0 : Int32) (a1 : Int32) : Cti l D cy ad b0 yX0_both cX0_both 3 (some .int) rm_X0_both [.ref (ad 3), .int a0, .int a1] (fun σ Q => wp_X0_both a0 a1 σ Q) := by
  intro σ Q h
  refine g_enter hA rfl (Nat.le_of_ble_eq_true rfl) [some (.ref (ad 3)), some (.int a0), some (.int a1)] rfl ?_
  intro p e s m args below meth c C
  refine g_iload_n C dX0_both_0 rfl ?_
  refine g_aload_n C dX0_both_1 rfl ?_
  refine fget_3_3_X0_22 C rfl dX0_both_2 ?_
  refine g_ishl C dX0_both_5 ?_
  refine g_iload_n C dX0_both_6 rfl ?_
  refine g_ior C dX0_both_7 ?_
  exact g_iret C dX0_both_8 h
def rm_X0_noPlace : Room := { frames := 0, cells := 0, slots := 0, locals := 0 }
def wp_X0_noPlace (σ : Sg) (Q : Int32 → Sg → Prop) : Prop :=
  Q (gF σ 3 5) σ
set_option maxHeartbeats 4000000 in
set_option maxRecDepth 100000 in
theorem c_X0_noPlace (l : Launch) (D : va_G) (cy : Nat → ClassId) (ad : Nat → Nat) (b0 : Nat) (hA : AdOk ad b0) : Cti l D cy ad b0 yX0_noPlace cX0_noPlace 1 (some .int) rm_X0_noPlace [.ref (ad 3)] (fun σ Q => wp_X0_noPlace σ Q) := by
  intro σ Q h
  refine g_enter hA rfl (Nat.le_of_ble_eq_true rfl) [some (.ref (ad 3))] rfl ?_
  intro p e s m args below meth c C
  refine g_aload_n C dX0_noPlace_0 rfl ?_
  refine fget_3_5_X0_29 C rfl dX0_noPlace_1 ?_
  exact g_iret C dX0_noPlace_4 h
def rm_X0_turn : Room := { frames := 1, cells := 0, slots := 0, locals := 21 }
def wp_X0_turn (a0 : Int32) (a1 : Int32) (σ : Sg) (Q : Int32 → Sg → Prop) : Prop :=
  wp_X8_pick 19 ((a0 * (nI 4)) + a1) σ (fun r1 σ2 => Q r1 σ2)
set_option maxHeartbeats 4000000 in
set_option maxRecDepth 100000 in
theorem c_X0_turn (l : Launch) (D : va_G) (cy : Nat → ClassId) (ad : Nat → Nat) (b0 : Nat) (hA : AdOk ad b0) (a0 : Int32) (a1 : Int32) : Cti l D cy ad b0 yX0_turn cX0_turn 3 (some .int) rm_X0_turn [.ref (ad 3), .int a0, .int a1] (fun σ Q => wp_X0_turn a0 a1 σ Q) := by
  intro σ Q h
  refine g_enter hA rfl (Nat.le_of_ble_eq_true rfl) [some (.ref (ad 3)), some (.int a0), some (.int a1)] rfl ?_
  intro p e s m args below meth c C
  refine g_aload_n C dX0_turn_0 rfl ?_
  refine fget_3_0_X0_9 C rfl dX0_turn_1 ?_
  refine g_iload_n C dX0_turn_4 rfl ?_
  refine g_iconst C dX0_turn_5 kc_4 ?_
  refine g_imul C dX0_turn_6 ?_
  refine g_iload_n C dX0_turn_7 rfl ?_
  refine g_iadd C dX0_turn_8 ?_
  refine g_callNi C [.ref (ad 19), .int ((a0 * (nI 4)) + a1)] (c_X8_pick l D cy ad b0 C.A 19 ((a0 * (nI 4)) + a1) (by decide)) cal_X8_pick nw_8 rfl ⟨Nat.le_of_ble_eq_true rfl, Nat.le_of_ble_eq_true rfl⟩ ⟨rfl, rfl⟩ ⟨Nat.zero_le _, Nat.zero_le _⟩ (Nat.le_of_ble_eq_true rfl) rfl dX0_turn_9 h (fun r1 σ2 h => ?_)
  exact g_iret C dX0_turn_12 h
def rm_X0_keeps : Room := { frames := 1, cells := 0, slots := 0, locals := 21 }
def wp_X0_keeps (a0 : Int32) (a1 : Int32) (σ : Sg) (Q : Int32 → Sg → Prop) : Prop :=
  wp_X8_isSet 20 ((a0 * (nI 4)) + a1) σ (fun r1 σ2 => (bl r1 ∧ Q r1 σ2))
set_option maxHeartbeats 4000000 in
set_option maxRecDepth 100000 in
theorem c_X0_keeps (l : Launch) (D : va_G) (cy : Nat → ClassId) (ad : Nat → Nat) (b0 : Nat) (hA : AdOk ad b0) (a0 : Int32) (a1 : Int32) : Cti l D cy ad b0 yX0_keeps cX0_keeps 3 (some .boolean) rm_X0_keeps [.ref (ad 3), .int a0, .int a1] (fun σ Q => wp_X0_keeps a0 a1 σ Q) := by
  intro σ Q h
  refine g_enter hA rfl (Nat.le_of_ble_eq_true rfl) [some (.ref (ad 3)), some (.int a0), some (.int a1)] rfl ?_
  intro p e s m args below meth c C
  refine g_aload_n C dX0_keeps_0 rfl ?_
  refine fget_3_1_X0_15 C rfl dX0_keeps_1 ?_
  refine g_iload_n C dX0_keeps_4 rfl ?_
  refine g_iconst C dX0_keeps_5 kc_4 ?_
  refine g_imul C dX0_keeps_6 ?_
  refine g_iload_n C dX0_keeps_7 rfl ?_
  refine g_iadd C dX0_keeps_8 ?_
  refine g_callNi C [.ref (ad 20), .int ((a0 * (nI 4)) + a1)] (c_X8_isSet l D cy ad b0 C.A 20 ((a0 * (nI 4)) + a1) (by decide)) cal_X8_isSet nw_9 rfl ⟨Nat.le_of_ble_eq_true rfl, Nat.le_of_ble_eq_true rfl⟩ ⟨rfl, rfl⟩ ⟨Nat.zero_le _, Nat.zero_le _⟩ (Nat.le_of_ble_eq_true rfl) rfl dX0_keeps_9 h (fun r1 σ2 h => ?_)
  exact g_zret C (narrow_bl h.1) dX0_keeps_12 h.2
def rm_X0_isPossible : Room := { frames := 1, cells := 0, slots := 0, locals := 21 }
def wp_X0_isPossible (a0 : Int32) (σ : Sg) (Q : Int32 → Sg → Prop) : Prop :=
  wp_X8_isSet 21 a0 σ (fun r1 σ2 => (bl r1 ∧ Q r1 σ2))
set_option maxHeartbeats 4000000 in
set_option maxRecDepth 100000 in
theorem c_X0_isPossible (l : Launch) (D : va_G) (cy : Nat → ClassId) (ad : Nat → Nat) (b0 : Nat) (hA : AdOk ad b0) (a0 : Int32) : Cti l D cy ad b0 yX0_isPossible cX0_isPossible 2 (some .boolean) rm_X0_isPossible [.ref (ad 3), .int a0] (fun σ Q => wp_X0_isPossible a0 σ Q) := by
  intro σ Q h
  refine g_enter hA rfl (Nat.le_of_ble_eq_true rfl) [some (.ref (ad 3)), some (.int a0)] rfl ?_
  intro p e s m args below meth c C
  refine g_aload_n C dX0_isPossible_0 rfl ?_
  refine fget_3_2_X0_19 C rfl dX0_isPossible_1 ?_
  refine g_iload_n C dX0_isPossible_4 rfl ?_
  refine g_callNi C [.ref (ad 21), .int a0] (c_X8_isSet l D cy ad b0 C.A 21 a0 (by decide)) cal_X8_isSet nw_9 rfl ⟨Nat.le_of_ble_eq_true rfl, Nat.le_of_ble_eq_true rfl⟩ ⟨rfl, rfl⟩ ⟨Nat.zero_le _, Nat.zero_le _⟩ (Nat.le_of_ble_eq_true rfl) rfl dX0_isPossible_5 h (fun r1 σ2 h => ?_)
  exact g_zret C (narrow_bl h.1) dX0_isPossible_8 h.2
def rm_X0_addPossible : Room := { frames := 3, cells := 0, slots := 0, locals := 62 }
def wp_X0_addPossible_81 (v1 : Int32) (v2 : Int32) (v3 : Int32) (K4 : Int32 → Int32 → Sg → Prop) (Q : Int32 → Sg → Prop) (σ : Sg) : Prop :=
  ∀ x81 : Int32, x81 = v3 + (nI 1) → (K4 v2 x81 σ)
set_option maxHeartbeats 4000000 in
set_option maxRecDepth 100000 in
theorem k_X0_addPossible_81 {Q : Int32 → Sg → Prop} (C : Cx p s m args meth c D cy ad b0 yX0_addPossible cX0_addPossible 7 (some .boolean)) (v1 : Int32) (v2 : Int32) (v3 : Int32) (K4 : Int32 → Int32 → Sg → Prop) (hK4 : ∀ (z2 : Int32) (z3 : Int32) (σ : Sg), K4 z2 z3 σ → gI p l e rm_X0_addPossible s m args below meth c D cy ad b0 Q 7 4 σ [some (.ref (ad 3)), some (.int v1), some (.int z2), some (.int z3), none, none, none] []) (σ : Sg) (h : wp_X0_addPossible_81 v1 v2 v3 K4 Q σ) : gI p l e rm_X0_addPossible s m args below meth c D cy ad b0 Q 7 81 σ [some (.ref (ad 3)), some (.int v1), some (.int v2), some (.int v3), none, none, none] [] := by
  obtain ⟨x81, e_x81⟩ : ∃ v : Int32, v = v3 + (nI 1) := ⟨_, rfl⟩
  have h := h x81 e_x81
  refine g_iinc C [some (.ref (ad 3)), some (.int v1), some (.int v2), some (.int x81), none, none, none] dX0_addPossible_81 rfl e_x81.symm (by decide) rfl ?_
  refine g_goto C 4 dX0_addPossible_84 (by decide) ?_
  exact hK4 v2 x81 σ h
def wb_X0_addPossible_4 (v1 : Int32) (v2 : Int32) (v3 : Int32) (K4 : Int32 → Int32 → Sg → Prop) (Q : Int32 → Sg → Prop) (σ : Sg) : Prop :=
  (((nI 4) ≤ v3 → (bl v2 ∧ Q v2 σ)) ∧ (¬ (nI 4) ≤ v3 → wp_X0_turn v1 v3 σ (fun r1 σ2 => wp_X0_pastOf r1 σ2 (fun r3 σ4 => wp_X0_futureOf v1 σ4 (fun r5 σ6 => wp_X0_both r3 r5 σ6 (fun r7 σ8 => wp_X0_pastOf v1 σ8 (fun r9 σ10 => wp_X0_futureOf r1 σ10 (fun r11 σ12 => wp_X0_both r9 r11 σ12 (fun r13 σ14 => wp_X0_isPossible r7 σ14 (fun r15 σ16 => ((r15 = (nI 0) → wp_X0_addPossible_81 v1 v2 v3 K4 Q σ16) ∧ (¬ r15 = (nI 0) → wp_X0_isPossible r13 σ16 (fun r17 σ18 => ((¬ r17 = (nI 0) → wp_X0_addPossible_81 v1 v2 v3 K4 Q σ18) ∧ (r17 = (nI 0) → wp_X8_set 21 r13 (nI 1) σ18 (fun σ19 => wp_X0_addPossible_81 v1 (nI 1) v3 K4 Q σ19))))))))))))))))
set_option maxHeartbeats 4000000 in
set_option maxRecDepth 100000 in
theorem kb_X0_addPossible_4 {Q : Int32 → Sg → Prop} (C : Cx p s m args meth c D cy ad b0 yX0_addPossible cX0_addPossible 7 (some .boolean)) (v1 : Int32) (v2 : Int32) (v3 : Int32) (K4 : Int32 → Int32 → Sg → Prop) (hK4 : ∀ (z2 : Int32) (z3 : Int32) (σ : Sg), K4 z2 z3 σ → gI p l e rm_X0_addPossible s m args below meth c D cy ad b0 Q 7 4 σ [some (.ref (ad 3)), some (.int v1), some (.int z2), some (.int z3), none, none, none] []) (σ : Sg) (h : wb_X0_addPossible_4 v1 v2 v3 K4 Q σ) : gI p l e rm_X0_addPossible s m args below meth c D cy ad b0 Q 7 4 σ [some (.ref (ad 3)), some (.int v1), some (.int v2), some (.int v3), none, none, none] [] := by
  refine g_iload_n C dX0_addPossible_4 rfl ?_
  refine g_iconst C dX0_addPossible_5 kc_4 ?_
  refine g_icmp_ge C 87 dX0_addPossible_6 (by decide) (fun c6 => ?_) (fun c6 => ?_)
  · have h := h.1 c6
    refine g_iload_n C dX0_addPossible_87 rfl ?_
    exact g_zret C (narrow_bl h.1) dX0_addPossible_88 h.2
  · have h := h.2 c6
    refine g_aload_n C dX0_addPossible_9 rfl ?_
    refine g_iload_n C dX0_addPossible_10 rfl ?_
    refine g_iload_n C dX0_addPossible_11 rfl ?_
    refine g_callVi C 3 [.int v1, .int v3] (c_X0_turn l D cy ad b0 C.A v1 v3) cal_X0_turn mw_361 (by decide) rfl rfl ⟨Nat.le_of_ble_eq_true rfl, Nat.le_of_ble_eq_true rfl⟩ ⟨rfl, rfl⟩ ⟨Nat.zero_le _, Nat.zero_le _⟩ (Nat.le_of_ble_eq_true rfl) rfl dX0_addPossible_12 h (fun r1 σ2 h => ?_)
    refine g_istore C [some (.ref (ad 3)), some (.int v1), some (.int v2), some (.int v3), some (.int r1), none, none] dX0_addPossible_15 (by decide) rfl ?_
    refine g_aload_n C dX0_addPossible_17 rfl ?_
    refine g_aload_n C dX0_addPossible_18 rfl ?_
    refine g_iload C dX0_addPossible_19 rfl ?_
    refine g_callVi C 3 [.int r1] (c_X0_pastOf l D cy ad b0 C.A r1) cal_X0_pastOf mw_365 (by decide) rfl rfl ⟨Nat.le_of_ble_eq_true rfl, Nat.le_of_ble_eq_true rfl⟩ ⟨rfl, rfl⟩ ⟨Nat.zero_le _, Nat.zero_le _⟩ (Nat.le_of_ble_eq_true rfl) rfl dX0_addPossible_21 h (fun r3 σ4 h => ?_)
    refine g_aload_n C dX0_addPossible_24 rfl ?_
    refine g_iload_n C dX0_addPossible_25 rfl ?_
    refine g_callVi C 3 [.int v1] (c_X0_futureOf l D cy ad b0 C.A v1) cal_X0_futureOf mw_349 (by decide) rfl rfl ⟨Nat.le_of_ble_eq_true rfl, Nat.le_of_ble_eq_true rfl⟩ ⟨rfl, rfl⟩ ⟨Nat.zero_le _, Nat.zero_le _⟩ (Nat.le_of_ble_eq_true rfl) rfl dX0_addPossible_26 h (fun r5 σ6 h => ?_)
    refine g_callVi C 3 [.int r3, .int r5] (c_X0_both l D cy ad b0 C.A r3 r5) cal_X0_both mw_369 (by decide) rfl rfl ⟨Nat.le_of_ble_eq_true rfl, Nat.le_of_ble_eq_true rfl⟩ ⟨rfl, rfl⟩ ⟨Nat.zero_le _, Nat.zero_le _⟩ (Nat.le_of_ble_eq_true rfl) rfl dX0_addPossible_29 h (fun r7 σ8 h => ?_)
    refine g_istore C [some (.ref (ad 3)), some (.int v1), some (.int v2), some (.int v3), some (.int r1), some (.int r7), none] dX0_addPossible_32 (by decide) rfl ?_
    refine g_aload_n C dX0_addPossible_34 rfl ?_
    refine g_aload_n C dX0_addPossible_35 rfl ?_
    refine g_iload_n C dX0_addPossible_36 rfl ?_
    refine g_callVi C 3 [.int v1] (c_X0_pastOf l D cy ad b0 C.A v1) cal_X0_pastOf mw_365 (by decide) rfl rfl ⟨Nat.le_of_ble_eq_true rfl, Nat.le_of_ble_eq_true rfl⟩ ⟨rfl, rfl⟩ ⟨Nat.zero_le _, Nat.zero_le _⟩ (Nat.le_of_ble_eq_true rfl) rfl dX0_addPossible_37 h (fun r9 σ10 h => ?_)
    refine g_aload_n C dX0_addPossible_40 rfl ?_
    refine g_iload C dX0_addPossible_41 rfl ?_
    refine g_callVi C 3 [.int r1] (c_X0_futureOf l D cy ad b0 C.A r1) cal_X0_futureOf mw_349 (by decide) rfl rfl ⟨Nat.le_of_ble_eq_true rfl, Nat.le_of_ble_eq_true rfl⟩ ⟨rfl, rfl⟩ ⟨Nat.zero_le _, Nat.zero_le _⟩ (Nat.le_of_ble_eq_true rfl) rfl dX0_addPossible_43 h (fun r11 σ12 h => ?_)
    refine g_callVi C 3 [.int r9, .int r11] (c_X0_both l D cy ad b0 C.A r9 r11) cal_X0_both mw_369 (by decide) rfl rfl ⟨Nat.le_of_ble_eq_true rfl, Nat.le_of_ble_eq_true rfl⟩ ⟨rfl, rfl⟩ ⟨Nat.zero_le _, Nat.zero_le _⟩ (Nat.le_of_ble_eq_true rfl) rfl dX0_addPossible_46 h (fun r13 σ14 h => ?_)
    refine g_istore C [some (.ref (ad 3)), some (.int v1), some (.int v2), some (.int v3), some (.int r1), some (.int r7), some (.int r13)] dX0_addPossible_49 (by decide) rfl ?_
    refine g_aload_n C dX0_addPossible_51 rfl ?_
    refine g_iload C dX0_addPossible_52 rfl ?_
    refine g_callVi C 3 [.int r7] (c_X0_isPossible l D cy ad b0 C.A r7) cal_X0_isPossible mw_373 (by decide) rfl rfl ⟨Nat.le_of_ble_eq_true rfl, Nat.le_of_ble_eq_true rfl⟩ ⟨rfl, rfl⟩ ⟨Nat.zero_le _, Nat.zero_le _⟩ (Nat.le_of_ble_eq_true rfl) rfl dX0_addPossible_54 h (fun r15 σ16 h => ?_)
    refine g_if_eq C 81 dX0_addPossible_57 (by decide) (fun c57 => ?_) (fun c57 => ?_)
    · have h := h.1 c57
      refine g_mask [true, true, true, true, false, false, false] rfl ?_
      exact k_X0_addPossible_81 C v1 v2 v3 K4 hK4 σ16 h
    · have h := h.2 c57
      refine g_aload_n C dX0_addPossible_60 rfl ?_
      refine g_iload C dX0_addPossible_61 rfl ?_
      refine g_callVi C 3 [.int r13] (c_X0_isPossible l D cy ad b0 C.A r13) cal_X0_isPossible mw_373 (by decide) rfl rfl ⟨Nat.le_of_ble_eq_true rfl, Nat.le_of_ble_eq_true rfl⟩ ⟨rfl, rfl⟩ ⟨Nat.zero_le _, Nat.zero_le _⟩ (Nat.le_of_ble_eq_true rfl) rfl dX0_addPossible_63 h (fun r17 σ18 h => ?_)
      refine g_if_ne C 81 dX0_addPossible_66 (by decide) (fun c66 => ?_) (fun c66 => ?_)
      · have h := h.1 c66
        refine g_mask [true, true, true, true, false, false, false] rfl ?_
        exact k_X0_addPossible_81 C v1 v2 v3 K4 hK4 σ18 h
      · have h := h.2 c66
        refine g_aload_n C dX0_addPossible_69 rfl ?_
        refine fget_3_2_X0_19 C rfl dX0_addPossible_70 ?_
        refine g_iload C dX0_addPossible_73 rfl ?_
        refine g_iconst C dX0_addPossible_75 kc_1 ?_
        refine g_callNv C [.ref (ad 21), .int r13, .int (nI 1)] (c_X8_set l D cy ad b0 C.A 21 r13 (nI 1) (by decide)) cal_X8_set nw_7 rfl ⟨Nat.le_of_ble_eq_true rfl, Nat.le_of_ble_eq_true rfl⟩ ⟨rfl, rfl⟩ ⟨Nat.zero_le _, Nat.zero_le _⟩ (Nat.le_of_ble_eq_true rfl) rfl dX0_addPossible_76 h (fun σ19 h => ?_)
        refine g_iconst C dX0_addPossible_79 kc_1 ?_
        refine g_istore_n C [some (.ref (ad 3)), some (.int v1), some (.int (nI 1)), some (.int v3), some (.int r1), some (.int r7), some (.int r13)] dX0_addPossible_80 (by decide) rfl ?_
        refine g_mask [true, true, true, true, false, false, false] rfl ?_
        exact k_X0_addPossible_81 C v1 (nI 1) v3 K4 hK4 σ19 h
def wl_X0_addPossible_4 (v1 : Int32) (Q : Int32 → Sg → Prop) : Nat → Int32 → Int32 → Sg → Prop
  | 0, _, _, _ => False
  | n + 1, v2, v3, σ => wb_X0_addPossible_4 v1 v2 v3 (wl_X0_addPossible_4 v1 Q n) Q σ
set_option maxHeartbeats 4000000 in
set_option maxRecDepth 100000 in
theorem kl_X0_addPossible_4 {Q : Int32 → Sg → Prop} (C : Cx p s m args meth c D cy ad b0 yX0_addPossible cX0_addPossible 7 (some .boolean)) (v1 : Int32) : ∀ (n : Nat) (v2 : Int32) (v3 : Int32) (σ : Sg), wl_X0_addPossible_4 v1 Q n v2 v3 σ → gI p l e rm_X0_addPossible s m args below meth c D cy ad b0 Q 7 4 σ [some (.ref (ad 3)), some (.int v1), some (.int v2), some (.int v3), none, none, none] [] := by
  intro n
  induction n with
  | zero => intro v2 v3 σ h; exact False.elim h
  | succ n ih =>
    intro v2 v3 σ h
    exact kb_X0_addPossible_4 C v1 v2 v3 (wl_X0_addPossible_4 v1 Q n) (fun z2 z3 σ h => ih z2 z3 σ h) σ h
def wp_X0_addPossible (a0 : Int32) (σ : Sg) (Q : Int32 → Sg → Prop) : Prop :=
  ∃ n, wl_X0_addPossible_4 a0 Q n (nI 0) (nI 0) σ
set_option maxHeartbeats 4000000 in
set_option maxRecDepth 100000 in
theorem c_X0_addPossible (l : Launch) (D : va_G) (cy : Nat → ClassId) (ad : Nat → Nat) (b0 : Nat) (hA : AdOk ad b0) (a0 : Int32) : Cti l D cy ad b0 yX0_addPossible cX0_addPossible 7 (some .boolean) rm_X0_addPossible [.ref (ad 3), .int a0] (fun σ Q => wp_X0_addPossible a0 σ Q) := by
  intro σ Q h
  refine g_enter hA rfl (Nat.le_of_ble_eq_true rfl) [some (.ref (ad 3)), some (.int a0), none, none, none, none, none] rfl ?_
  intro p e s m args below meth c C
  refine g_iconst C dX0_addPossible_0 kc_0 ?_
  refine g_istore_n C [some (.ref (ad 3)), some (.int a0), some (.int (nI 0)), none, none, none, none] dX0_addPossible_1 (by decide) rfl ?_
  refine g_iconst C dX0_addPossible_2 kc_0 ?_
  refine g_istore_n C [some (.ref (ad 3)), some (.int a0), some (.int (nI 0)), some (.int (nI 0)), none, none, none] dX0_addPossible_3 (by decide) rfl ?_
  obtain ⟨n, h⟩ := h
  exact kl_X0_addPossible_4 C a0 n (nI 0) (nI 0) σ h
def rm_X0_findPossible : Room := { frames := 4, cells := 0, slots := 0, locals := 88 }
def wp_X0_findPossible_86 (v1 : Int32) (v2 : Int32) (K49 : Int32 → Int32 → Sg → Prop) (Q : Sg → Prop) (σ : Sg) : Prop :=
  ∀ x86 : Int32, x86 = v2 + (nI 1) → (K49 v1 x86 σ)
set_option maxHeartbeats 4000000 in
set_option maxRecDepth 100000 in
theorem k_X0_findPossible_86 {Q : Sg → Prop} (C : Cx p s m args meth c D cy ad b0 yX0_findPossible cX0_findPossible 4 none) (v1 : Int32) (v2 : Int32) (K49 : Int32 → Int32 → Sg → Prop) (hK49 : ∀ (z1 : Int32) (z2 : Int32) (σ : Sg), K49 z1 z2 σ → gV p l e rm_X0_findPossible s m args below meth c D cy ad b0 Q 4 49 σ [some (.ref (ad 3)), some (.int z1), some (.int z2), none] []) (σ : Sg) (h : wp_X0_findPossible_86 v1 v2 K49 Q σ) : gV p l e rm_X0_findPossible s m args below meth c D cy ad b0 Q 4 86 σ [some (.ref (ad 3)), some (.int v1), some (.int v2), none] [] := by
  obtain ⟨x86, e_x86⟩ : ∃ v : Int32, v = v2 + (nI 1) := ⟨_, rfl⟩
  have h := h x86 e_x86
  refine g_iinc C [some (.ref (ad 3)), some (.int v1), some (.int x86), none] dX0_findPossible_86 rfl e_x86.symm (by decide) rfl ?_
  refine g_goto C 49 dX0_findPossible_89 (by decide) ?_
  exact hK49 v1 x86 σ h
def wb_X0_findPossible_64 (v1 : Int32) (v2 : Int32) (v3 : Int32) (K64 : Int32 → Int32 → Sg → Prop) (K86 : Int32 → Sg → Prop) (Q : Sg → Prop) (σ : Sg) : Prop :=
  wp_X0_all σ (fun r1 σ2 => ((r1 ≤ v3 → K86 v1 σ2) ∧ (¬ r1 ≤ v3 → wp_X0_addPossible v3 σ2 (fun r3 σ4 => ∀ x79 : Int32, x79 = (v1 ||| r3) → (∀ x80 : Int32, x80 = v3 + (nI 1) → (K64 x79 x80 σ4))))))
set_option maxHeartbeats 4000000 in
set_option maxRecDepth 100000 in
theorem kb_X0_findPossible_64 {Q : Sg → Prop} (C : Cx p s m args meth c D cy ad b0 yX0_findPossible cX0_findPossible 4 none) (v1 : Int32) (v2 : Int32) (v3 : Int32) (K64 : Int32 → Int32 → Sg → Prop) (K86 : Int32 → Sg → Prop) (hK64 : ∀ (z1 : Int32) (z3 : Int32) (σ : Sg), K64 z1 z3 σ → gV p l e rm_X0_findPossible s m args below meth c D cy ad b0 Q 4 64 σ [some (.ref (ad 3)), some (.int z1), some (.int v2), some (.int z3)] []) (hK86 : ∀ (z1 : Int32) (σ : Sg), K86 z1 σ → gV p l e rm_X0_findPossible s m args below meth c D cy ad b0 Q 4 86 σ [some (.ref (ad 3)), some (.int z1), some (.int v2), none] []) (σ : Sg) (h : wb_X0_findPossible_64 v1 v2 v3 K64 K86 Q σ) : gV p l e rm_X0_findPossible s m args below meth c D cy ad b0 Q 4 64 σ [some (.ref (ad 3)), some (.int v1), some (.int v2), some (.int v3)] [] := by
  refine g_iload_n C dX0_findPossible_64 rfl ?_
  refine g_aload_n C dX0_findPossible_65 rfl ?_
  refine g_callVi C 3 [] (c_X0_all l D cy ad b0 C.A) cal_X0_all mw_320 (by decide) rfl rfl ⟨Nat.le_of_ble_eq_true rfl, Nat.le_of_ble_eq_true rfl⟩ ⟨rfl, rfl⟩ ⟨Nat.zero_le _, Nat.zero_le _⟩ (Nat.le_of_ble_eq_true rfl) rfl dX0_findPossible_66 h (fun r1 σ2 h => ?_)
  refine g_icmp_ge C 86 dX0_findPossible_69 (by decide) (fun c69 => ?_) (fun c69 => ?_)
  · have h := h.1 c69
    refine g_mask [true, true, true, false] rfl ?_
    exact hK86 v1 σ2 h
  · have h := h.2 c69
    refine g_iload_n C dX0_findPossible_72 rfl ?_
    refine g_aload_n C dX0_findPossible_73 rfl ?_
    refine g_iload_n C dX0_findPossible_74 rfl ?_
    refine g_callVi C 3 [.int v3] (c_X0_addPossible l D cy ad b0 C.A v3) cal_X0_addPossible mw_357 (by decide) rfl rfl ⟨Nat.le_of_ble_eq_true rfl, Nat.le_of_ble_eq_true rfl⟩ ⟨rfl, rfl⟩ ⟨Nat.zero_le _, Nat.zero_le _⟩ (Nat.le_of_ble_eq_true rfl) rfl dX0_findPossible_75 h (fun r3 σ4 h => ?_)
    refine g_ior C dX0_findPossible_78 ?_
    refine g_topi (fun x79 e_x79 => ?_)
    have h := h x79 e_x79
    refine g_istore_n C [some (.ref (ad 3)), some (.int x79), some (.int v2), some (.int v3)] dX0_findPossible_79 (by decide) rfl ?_
    obtain ⟨x80, e_x80⟩ : ∃ v : Int32, v = v3 + (nI 1) := ⟨_, rfl⟩
    have h := h x80 e_x80
    refine g_iinc C [some (.ref (ad 3)), some (.int x79), some (.int v2), some (.int x80)] dX0_findPossible_80 rfl e_x80.symm (by decide) rfl ?_
    refine g_goto C 64 dX0_findPossible_83 (by decide) ?_
    exact hK64 x79 x80 σ4 h
def wl_X0_findPossible_64 (v2 : Int32) (K86 : Int32 → Sg → Prop) (Q : Sg → Prop) : Nat → Int32 → Int32 → Sg → Prop
  | 0, _, _, _ => False
  | n + 1, v1, v3, σ => wb_X0_findPossible_64 v1 v2 v3 (wl_X0_findPossible_64 v2 K86 Q n) K86 Q σ
set_option maxHeartbeats 4000000 in
set_option maxRecDepth 100000 in
theorem kl_X0_findPossible_64 {Q : Sg → Prop} (C : Cx p s m args meth c D cy ad b0 yX0_findPossible cX0_findPossible 4 none) (v2 : Int32) (K86 : Int32 → Sg → Prop) (hK86 : ∀ (z1 : Int32) (σ : Sg), K86 z1 σ → gV p l e rm_X0_findPossible s m args below meth c D cy ad b0 Q 4 86 σ [some (.ref (ad 3)), some (.int z1), some (.int v2), none] []) : ∀ (n : Nat) (v1 : Int32) (v3 : Int32) (σ : Sg), wl_X0_findPossible_64 v2 K86 Q n v1 v3 σ → gV p l e rm_X0_findPossible s m args below meth c D cy ad b0 Q 4 64 σ [some (.ref (ad 3)), some (.int v1), some (.int v2), some (.int v3)] [] := by
  intro n
  induction n with
  | zero => intro v1 v3 σ h; exact False.elim h
  | succ n ih =>
    intro v1 v3 σ h
    exact kb_X0_findPossible_64 C v1 v2 v3 (wl_X0_findPossible_64 v2 K86 Q n) K86 (fun z1 z3 σ h => ih z1 z3 σ h) hK86 σ h
def wb_X0_findPossible_49 (v1 : Int32) (v2 : Int32) (K49 : Int32 → Int32 → Sg → Prop) (Q : Sg → Prop) (σ : Sg) : Prop :=
  (((nI 256) ≤ v2 → Q σ) ∧ (¬ (nI 256) ≤ v2 → ((v1 = (nI 0) → Q σ) ∧ (¬ v1 = (nI 0) → ∃ n, wl_X0_findPossible_64 v2 (fun z1 σ9 => wp_X0_findPossible_86 z1 v2 K49 Q σ9) Q n (nI 0) (nI 0) σ))))
set_option maxHeartbeats 4000000 in
set_option maxRecDepth 100000 in
theorem kb_X0_findPossible_49 {Q : Sg → Prop} (C : Cx p s m args meth c D cy ad b0 yX0_findPossible cX0_findPossible 4 none) (v1 : Int32) (v2 : Int32) (K49 : Int32 → Int32 → Sg → Prop) (hK49 : ∀ (z1 : Int32) (z2 : Int32) (σ : Sg), K49 z1 z2 σ → gV p l e rm_X0_findPossible s m args below meth c D cy ad b0 Q 4 49 σ [some (.ref (ad 3)), some (.int z1), some (.int z2), none] []) (σ : Sg) (h : wb_X0_findPossible_49 v1 v2 K49 Q σ) : gV p l e rm_X0_findPossible s m args below meth c D cy ad b0 Q 4 49 σ [some (.ref (ad 3)), some (.int v1), some (.int v2), none] [] := by
  refine g_iload_n C dX0_findPossible_49 rfl ?_
  refine g_sipush C dX0_findPossible_50 ks_256 ?_
  refine g_icmp_ge C 92 dX0_findPossible_53 (by decide) (fun c53 => ?_) (fun c53 => ?_)
  · have h := h.1 c53
    exact g_vret C dX0_findPossible_92 h
  · have h := h.2 c53
    refine g_iload_n C dX0_findPossible_56 rfl ?_
    refine g_if_eq C 92 dX0_findPossible_57 (by decide) (fun c57 => ?_) (fun c57 => ?_)
    · have h := h.1 c57
      exact g_vret C dX0_findPossible_92 h
    · have h := h.2 c57
      refine g_iconst C dX0_findPossible_60 kc_0 ?_
      refine g_istore_n C [some (.ref (ad 3)), some (.int (nI 0)), some (.int v2), none] dX0_findPossible_61 (by decide) rfl ?_
      refine g_iconst C dX0_findPossible_62 kc_0 ?_
      refine g_istore_n C [some (.ref (ad 3)), some (.int (nI 0)), some (.int v2), some (.int (nI 0))] dX0_findPossible_63 (by decide) rfl ?_
      obtain ⟨n, h⟩ := h
      exact kl_X0_findPossible_64 C v2 _ (fun z1 σ9 h => by exact k_X0_findPossible_86 C z1 v2 K49 hK49 σ9 h) n (nI 0) (nI 0) σ h
def wl_X0_findPossible_49 (Q : Sg → Prop) : Nat → Int32 → Int32 → Sg → Prop
  | 0, _, _, _ => False
  | n + 1, v1, v2, σ => wb_X0_findPossible_49 v1 v2 (wl_X0_findPossible_49 Q n) Q σ
set_option maxHeartbeats 4000000 in
set_option maxRecDepth 100000 in
theorem kl_X0_findPossible_49 {Q : Sg → Prop} (C : Cx p s m args meth c D cy ad b0 yX0_findPossible cX0_findPossible 4 none) : ∀ (n : Nat) (v1 : Int32) (v2 : Int32) (σ : Sg), wl_X0_findPossible_49 Q n v1 v2 σ → gV p l e rm_X0_findPossible s m args below meth c D cy ad b0 Q 4 49 σ [some (.ref (ad 3)), some (.int v1), some (.int v2), none] [] := by
  intro n
  induction n with
  | zero => intro v1 v2 σ h; exact False.elim h
  | succ n ih =>
    intro v1 v2 σ h
    exact kb_X0_findPossible_49 C v1 v2 (wl_X0_findPossible_49 Q n) (fun z1 z2 σ h => ih z1 z2 σ h) σ h
def wp_X0_findPossible_45 (Q : Sg → Prop) (σ : Sg) : Prop :=
  ∃ n, wl_X0_findPossible_49 Q n (nI 1) (nI 0) σ
set_option maxHeartbeats 4000000 in
set_option maxRecDepth 100000 in
theorem k_X0_findPossible_45 {Q : Sg → Prop} (C : Cx p s m args meth c D cy ad b0 yX0_findPossible cX0_findPossible 4 none) (σ : Sg) (h : wp_X0_findPossible_45 Q σ) : gV p l e rm_X0_findPossible s m args below meth c D cy ad b0 Q 4 45 σ [some (.ref (ad 3)), none, none, none] [] := by
  refine g_iconst C dX0_findPossible_45 kc_1 ?_
  refine g_istore_n C [some (.ref (ad 3)), some (.int (nI 1)), none, none] dX0_findPossible_46 (by decide) rfl ?_
  refine g_iconst C dX0_findPossible_47 kc_0 ?_
  refine g_istore_n C [some (.ref (ad 3)), some (.int (nI 1)), some (.int (nI 0)), none] dX0_findPossible_48 (by decide) rfl ?_
  obtain ⟨n, h⟩ := h
  exact kl_X0_findPossible_49 C n (nI 1) (nI 0) σ h
def wp_X0_findPossible_36 (v1 : Int32) (s0 : Int32) (s1 : Int32) (K2 : Int32 → Sg → Prop) (Q : Sg → Prop) (σ : Sg) : Prop :=
  wp_X8_set 21 s1 s0 σ (fun σ1 => ∀ x39 : Int32, x39 = v1 + (nI 1) → (K2 x39 σ1))
set_option maxHeartbeats 4000000 in
set_option maxRecDepth 100000 in
theorem k_X0_findPossible_36 {Q : Sg → Prop} (C : Cx p s m args meth c D cy ad b0 yX0_findPossible cX0_findPossible 4 none) (v1 : Int32) (s0 : Int32) (s1 : Int32) (K2 : Int32 → Sg → Prop) (hK2 : ∀ (z1 : Int32) (σ : Sg), K2 z1 σ → gV p l e rm_X0_findPossible s m args below meth c D cy ad b0 Q 4 2 σ [some (.ref (ad 3)), some (.int z1), none, none] []) (σ : Sg) (h : wp_X0_findPossible_36 v1 s0 s1 K2 Q σ) : gV p l e rm_X0_findPossible s m args below meth c D cy ad b0 Q 4 36 σ [some (.ref (ad 3)), some (.int v1), none, none] [.int s0, .int s1, .ref (ad 21)] := by
  refine g_callNv C [.ref (ad 21), .int s1, .int s0] (c_X8_set l D cy ad b0 C.A 21 s1 s0 (by decide)) cal_X8_set nw_7 rfl ⟨Nat.le_of_ble_eq_true rfl, Nat.le_of_ble_eq_true rfl⟩ ⟨rfl, rfl⟩ ⟨Nat.zero_le _, Nat.zero_le _⟩ (Nat.le_of_ble_eq_true rfl) rfl dX0_findPossible_36 h (fun σ1 h => ?_)
  obtain ⟨x39, e_x39⟩ : ∃ v : Int32, v = v1 + (nI 1) := ⟨_, rfl⟩
  have h := h x39 e_x39
  refine g_iinc C [some (.ref (ad 3)), some (.int x39), none, none] dX0_findPossible_39 rfl e_x39.symm (by decide) rfl ?_
  refine g_goto C 2 dX0_findPossible_42 (by decide) ?_
  exact hK2 x39 σ1 h
def wb_X0_findPossible_2 (v1 : Int32) (K2 : Int32 → Sg → Prop) (K45 : Sg → Prop) (Q : Sg → Prop) (σ : Sg) : Prop :=
  wp_X0_all σ (fun r1 σ2 => ((r1 ≤ v1 → K45 σ2) ∧ (¬ r1 ≤ v1 → wp_X0_futureOf v1 σ2 (fun r3 σ4 => wp_X0_futureOf (gF σ4 3 5) σ4 (fun r5 σ6 => ((¬ r3 = r5 → wp_X0_findPossible_36 v1 (nI 0) v1 K2 Q σ6) ∧ (r3 = r5 → wp_X0_findPossible_36 v1 (nI 1) v1 K2 Q σ6)))))))
set_option maxHeartbeats 4000000 in
set_option maxRecDepth 100000 in
theorem kb_X0_findPossible_2 {Q : Sg → Prop} (C : Cx p s m args meth c D cy ad b0 yX0_findPossible cX0_findPossible 4 none) (v1 : Int32) (K2 : Int32 → Sg → Prop) (K45 : Sg → Prop) (hK2 : ∀ (z1 : Int32) (σ : Sg), K2 z1 σ → gV p l e rm_X0_findPossible s m args below meth c D cy ad b0 Q 4 2 σ [some (.ref (ad 3)), some (.int z1), none, none] []) (hK45 : ∀  (σ : Sg), K45 σ → gV p l e rm_X0_findPossible s m args below meth c D cy ad b0 Q 4 45 σ [some (.ref (ad 3)), none, none, none] []) (σ : Sg) (h : wb_X0_findPossible_2 v1 K2 K45 Q σ) : gV p l e rm_X0_findPossible s m args below meth c D cy ad b0 Q 4 2 σ [some (.ref (ad 3)), some (.int v1), none, none] [] := by
  refine g_iload_n C dX0_findPossible_2 rfl ?_
  refine g_aload_n C dX0_findPossible_3 rfl ?_
  refine g_callVi C 3 [] (c_X0_all l D cy ad b0 C.A) cal_X0_all mw_320 (by decide) rfl rfl ⟨Nat.le_of_ble_eq_true rfl, Nat.le_of_ble_eq_true rfl⟩ ⟨rfl, rfl⟩ ⟨Nat.zero_le _, Nat.zero_le _⟩ (Nat.le_of_ble_eq_true rfl) rfl dX0_findPossible_4 h (fun r1 σ2 h => ?_)
  refine g_icmp_ge C 45 dX0_findPossible_7 (by decide) (fun c7 => ?_) (fun c7 => ?_)
  · have h := h.1 c7
    refine g_mask [true, false, false, false] rfl ?_
    exact hK45 σ2 h
  · have h := h.2 c7
    refine g_aload_n C dX0_findPossible_10 rfl ?_
    refine fget_3_2_X0_19 C rfl dX0_findPossible_11 ?_
    refine g_iload_n C dX0_findPossible_14 rfl ?_
    refine g_aload_n C dX0_findPossible_15 rfl ?_
    refine g_iload_n C dX0_findPossible_16 rfl ?_
    refine g_callVi C 3 [.int v1] (c_X0_futureOf l D cy ad b0 C.A v1) cal_X0_futureOf mw_349 (by decide) rfl rfl ⟨Nat.le_of_ble_eq_true rfl, Nat.le_of_ble_eq_true rfl⟩ ⟨rfl, rfl⟩ ⟨Nat.zero_le _, Nat.zero_le _⟩ (Nat.le_of_ble_eq_true rfl) rfl dX0_findPossible_17 h (fun r3 σ4 h => ?_)
    refine g_aload_n C dX0_findPossible_20 rfl ?_
    refine g_aload_n C dX0_findPossible_21 rfl ?_
    refine fget_3_5_X0_29 C rfl dX0_findPossible_22 ?_
    refine g_callVi C 3 [.int (gF σ4 3 5)] (c_X0_futureOf l D cy ad b0 C.A (gF σ4 3 5)) cal_X0_futureOf mw_349 (by decide) rfl rfl ⟨Nat.le_of_ble_eq_true rfl, Nat.le_of_ble_eq_true rfl⟩ ⟨rfl, rfl⟩ ⟨Nat.zero_le _, Nat.zero_le _⟩ (Nat.le_of_ble_eq_true rfl) rfl dX0_findPossible_25 h (fun r5 σ6 h => ?_)
    refine g_icmp_ne C 35 dX0_findPossible_28 (by decide) (fun c28 => ?_) (fun c28 => ?_)
    · have h := h.1 c28
      refine g_iconst C dX0_findPossible_35 kc_0 ?_
      exact k_X0_findPossible_36 C v1 (nI 0) v1 K2 hK2 σ6 h
    · have h := h.2 c28
      refine g_iconst C dX0_findPossible_31 kc_1 ?_
      refine g_goto C 36 dX0_findPossible_32 (by decide) ?_
      exact k_X0_findPossible_36 C v1 (nI 1) v1 K2 hK2 σ6 h
def wl_X0_findPossible_2 (K45 : Sg → Prop) (Q : Sg → Prop) : Nat → Int32 → Sg → Prop
  | 0, _, _ => False
  | n + 1, v1, σ => wb_X0_findPossible_2 v1 (wl_X0_findPossible_2 K45 Q n) K45 Q σ
set_option maxHeartbeats 4000000 in
set_option maxRecDepth 100000 in
theorem kl_X0_findPossible_2 {Q : Sg → Prop} (C : Cx p s m args meth c D cy ad b0 yX0_findPossible cX0_findPossible 4 none) (K45 : Sg → Prop) (hK45 : ∀  (σ : Sg), K45 σ → gV p l e rm_X0_findPossible s m args below meth c D cy ad b0 Q 4 45 σ [some (.ref (ad 3)), none, none, none] []) : ∀ (n : Nat) (v1 : Int32) (σ : Sg), wl_X0_findPossible_2 K45 Q n v1 σ → gV p l e rm_X0_findPossible s m args below meth c D cy ad b0 Q 4 2 σ [some (.ref (ad 3)), some (.int v1), none, none] [] := by
  intro n
  induction n with
  | zero => intro v1 σ h; exact False.elim h
  | succ n ih =>
    intro v1 σ h
    exact kb_X0_findPossible_2 C v1 (wl_X0_findPossible_2 K45 Q n) K45 (fun z1 σ h => ih z1 σ h) hK45 σ h
def wp_X0_findPossible (σ : Sg) (Q : Sg → Prop) : Prop :=
  ∃ n, wl_X0_findPossible_2 (fun σ9 => wp_X0_findPossible_45 Q σ9) Q n (nI 0) σ
set_option maxHeartbeats 4000000 in
set_option maxRecDepth 100000 in
theorem c_X0_findPossible (l : Launch) (D : va_G) (cy : Nat → ClassId) (ad : Nat → Nat) (b0 : Nat) (hA : AdOk ad b0) : Ctv l D cy ad b0 yX0_findPossible cX0_findPossible 4 none rm_X0_findPossible [.ref (ad 3)] (fun σ Q => wp_X0_findPossible σ Q) := by
  intro σ Q h
  refine g_enter hA rfl (Nat.le_of_ble_eq_true rfl) [some (.ref (ad 3)), none, none, none] rfl ?_
  intro p e s m args below meth c C
  refine g_iconst C dX0_findPossible_0 kc_0 ?_
  refine g_istore_n C [some (.ref (ad 3)), some (.int (nI 0)), none, none] dX0_findPossible_1 (by decide) rfl ?_
  obtain ⟨n, h⟩ := h
  exact kl_X0_findPossible_2 C _ (fun σ9 h => by exact k_X0_findPossible_45 C σ9 h) n (nI 0) σ h
def rm_X0_make : Room := { frames := 5, cells := 0, slots := 0, locals := 111 }
def wp_X0_make_101 (Q : Sg → Prop) (σ : Sg) : Prop :=
  wp_X0_findPossible σ (fun σ1 => Q σ1)
set_option maxHeartbeats 4000000 in
set_option maxRecDepth 100000 in
theorem k_X0_make_101 {Q : Sg → Prop} (C : Cx p s m args meth c D cy ad b0 yX0_make cX0_make 5 none) (σ : Sg) (h : wp_X0_make_101 Q σ) : gV p l e rm_X0_make s m args below meth c D cy ad b0 Q 5 101 σ [some (.ref (ad 3)), none, none, none, none] [] := by
  refine g_aload_n C dX0_make_101 rfl ?_
  refine g_callVv C 3 [] (c_X0_findPossible l D cy ad b0 C.A) cal_X0_findPossible mw_345 (by decide) rfl rfl ⟨Nat.le_of_ble_eq_true rfl, Nat.le_of_ble_eq_true rfl⟩ ⟨rfl, rfl⟩ ⟨Nat.zero_le _, Nat.zero_le _⟩ (Nat.le_of_ble_eq_true rfl) rfl dX0_make_102 h (fun σ1 h => ?_)
  exact g_vret C dX0_make_105 h
def wp_X0_make_95 (v2 : Int32) (K30 : Int32 → Sg → Prop) (Q : Sg → Prop) (σ : Sg) : Prop :=
  ∀ x95 : Int32, x95 = v2 + (nI 1) → (K30 x95 σ)
set_option maxHeartbeats 4000000 in
set_option maxRecDepth 100000 in
theorem k_X0_make_95 {Q : Sg → Prop} (C : Cx p s m args meth c D cy ad b0 yX0_make cX0_make 5 none) (v2 : Int32) (K30 : Int32 → Sg → Prop) (hK30 : ∀ (z2 : Int32) (σ : Sg), K30 z2 σ → gV p l e rm_X0_make s m args below meth c D cy ad b0 Q 5 30 σ [some (.ref (ad 3)), some (.ref (ad 2)), some (.int z2), none, none] []) (σ : Sg) (h : wp_X0_make_95 v2 K30 Q σ) : gV p l e rm_X0_make s m args below meth c D cy ad b0 Q 5 95 σ [some (.ref (ad 3)), some (.ref (ad 2)), some (.int v2), none, none] [] := by
  obtain ⟨x95, e_x95⟩ : ∃ v : Int32, v = v2 + (nI 1) := ⟨_, rfl⟩
  have h := h x95 e_x95
  refine g_iinc C [some (.ref (ad 3)), some (.ref (ad 2)), some (.int x95), none, none] dX0_make_95 rfl e_x95.symm (by decide) rfl ?_
  refine g_goto C 30 dX0_make_98 (by decide) ?_
  exact hK30 x95 σ h
def wb_X0_make_40 (v2 : Int32) (v3 : Int32) (K40 : Int32 → Sg → Prop) (K95 : Sg → Prop) (Q : Sg → Prop) (σ : Sg) : Prop :=
  (((nI 4) ≤ v3 → K95 σ) ∧ (¬ (nI 4) ≤ v3 → wp_X6_valuesAt v3 v2 σ (fun r1 σ2 => wp_X6_bitsBeside r1 σ2 (fun r3 σ4 => wp_X8_put 19 ((v2 * (nI 4)) + v3) r3 σ4 (fun σ5 => wp_X6_wholeHolds r1 σ5 (fun r6 σ7 => wp_X8_set 20 ((v2 * (nI 4)) + v3) r6 σ7 (fun σ8 => ∀ x89 : Int32, x89 = v3 + (nI 1) → (K40 x89 σ8))))))))
set_option maxHeartbeats 4000000 in
set_option maxRecDepth 100000 in
theorem kb_X0_make_40 {Q : Sg → Prop} (C : Cx p s m args meth c D cy ad b0 yX0_make cX0_make 5 none) (v2 : Int32) (v3 : Int32) (K40 : Int32 → Sg → Prop) (K95 : Sg → Prop) (hK40 : ∀ (z3 : Int32) (σ : Sg), K40 z3 σ → gV p l e rm_X0_make s m args below meth c D cy ad b0 Q 5 40 σ [some (.ref (ad 3)), some (.ref (ad 2)), some (.int v2), some (.int z3), none] []) (hK95 : ∀  (σ : Sg), K95 σ → gV p l e rm_X0_make s m args below meth c D cy ad b0 Q 5 95 σ [some (.ref (ad 3)), some (.ref (ad 2)), some (.int v2), none, none] []) (σ : Sg) (h : wb_X0_make_40 v2 v3 K40 K95 Q σ) : gV p l e rm_X0_make s m args below meth c D cy ad b0 Q 5 40 σ [some (.ref (ad 3)), some (.ref (ad 2)), some (.int v2), some (.int v3), none] [] := by
  refine g_iload_n C dX0_make_40 rfl ?_
  refine g_iconst C dX0_make_41 kc_4 ?_
  refine g_icmp_ge C 95 dX0_make_42 (by decide) (fun c42 => ?_) (fun c42 => ?_)
  · have h := h.1 c42
    refine g_mask [true, true, true, false, false] rfl ?_
    exact hK95 σ h
  · have h := h.2 c42
    refine g_aload_n C dX0_make_45 rfl ?_
    refine g_iload_n C dX0_make_46 rfl ?_
    refine g_iload_n C dX0_make_47 rfl ?_
    refine g_callVi C 2 [.int v3, .int v2] (c_X6_valuesAt l D cy ad b0 C.A v3 v2) cal_X6_valuesAt mw_327 (by decide) rfl rfl ⟨Nat.le_of_ble_eq_true rfl, Nat.le_of_ble_eq_true rfl⟩ ⟨rfl, rfl⟩ ⟨Nat.zero_le _, Nat.zero_le _⟩ (Nat.le_of_ble_eq_true rfl) rfl dX0_make_48 h (fun r1 σ2 h => ?_)
    refine g_istore C [some (.ref (ad 3)), some (.ref (ad 2)), some (.int v2), some (.int v3), some (.int r1)] dX0_make_51 (by decide) rfl ?_
    refine g_aload_n C dX0_make_53 rfl ?_
    refine fget_3_0_X0_9 C rfl dX0_make_54 ?_
    refine g_iload_n C dX0_make_57 rfl ?_
    refine g_iconst C dX0_make_58 kc_4 ?_
    refine g_imul C dX0_make_59 ?_
    refine g_iload_n C dX0_make_60 rfl ?_
    refine g_iadd C dX0_make_61 ?_
    refine g_aload_n C dX0_make_62 rfl ?_
    refine g_iload C dX0_make_63 rfl ?_
    refine g_callVi C 2 [.int r1] (c_X6_bitsBeside l D cy ad b0 C.A r1) cal_X6_bitsBeside mw_337 (by decide) rfl rfl ⟨Nat.le_of_ble_eq_true rfl, Nat.le_of_ble_eq_true rfl⟩ ⟨rfl, rfl⟩ ⟨Nat.zero_le _, Nat.zero_le _⟩ (Nat.le_of_ble_eq_true rfl) rfl dX0_make_65 h (fun r3 σ4 h => ?_)
    refine g_callNv C [.ref (ad 19), .int ((v2 * (nI 4)) + v3), .int r3] (c_X8_put l D cy ad b0 C.A 19 ((v2 * (nI 4)) + v3) r3 (by decide)) cal_X8_put nw_6 rfl ⟨Nat.le_of_ble_eq_true rfl, Nat.le_of_ble_eq_true rfl⟩ ⟨rfl, rfl⟩ ⟨Nat.zero_le _, Nat.zero_le _⟩ (Nat.le_of_ble_eq_true rfl) rfl dX0_make_68 h (fun σ5 h => ?_)
    refine g_aload_n C dX0_make_71 rfl ?_
    refine fget_3_1_X0_15 C rfl dX0_make_72 ?_
    refine g_iload_n C dX0_make_75 rfl ?_
    refine g_iconst C dX0_make_76 kc_4 ?_
    refine g_imul C dX0_make_77 ?_
    refine g_iload_n C dX0_make_78 rfl ?_
    refine g_iadd C dX0_make_79 ?_
    refine g_aload_n C dX0_make_80 rfl ?_
    refine g_iload C dX0_make_81 rfl ?_
    refine g_callVi C 2 [.int r1] (c_X6_wholeHolds l D cy ad b0 C.A r1) cal_X6_wholeHolds mw_341 (by decide) rfl rfl ⟨Nat.le_of_ble_eq_true rfl, Nat.le_of_ble_eq_true rfl⟩ ⟨rfl, rfl⟩ ⟨Nat.zero_le _, Nat.zero_le _⟩ (Nat.le_of_ble_eq_true rfl) rfl dX0_make_83 h (fun r6 σ7 h => ?_)
    refine g_callNv C [.ref (ad 20), .int ((v2 * (nI 4)) + v3), .int r6] (c_X8_set l D cy ad b0 C.A 20 ((v2 * (nI 4)) + v3) r6 (by decide)) cal_X8_set nw_7 rfl ⟨Nat.le_of_ble_eq_true rfl, Nat.le_of_ble_eq_true rfl⟩ ⟨rfl, rfl⟩ ⟨Nat.zero_le _, Nat.zero_le _⟩ (Nat.le_of_ble_eq_true rfl) rfl dX0_make_86 h (fun σ8 h => ?_)
    obtain ⟨x89, e_x89⟩ : ∃ v : Int32, v = v3 + (nI 1) := ⟨_, rfl⟩
    have h := h x89 e_x89
    refine g_iinc C [some (.ref (ad 3)), some (.ref (ad 2)), some (.int v2), some (.int x89), some (.int r1)] dX0_make_89 rfl e_x89.symm (by decide) rfl ?_
    refine g_goto C 40 dX0_make_92 (by decide) ?_
    refine g_mask [true, true, true, true, false] rfl ?_
    exact hK40 x89 σ8 h
def wl_X0_make_40 (v2 : Int32) (K95 : Sg → Prop) (Q : Sg → Prop) : Nat → Int32 → Sg → Prop
  | 0, _, _ => False
  | n + 1, v3, σ => wb_X0_make_40 v2 v3 (wl_X0_make_40 v2 K95 Q n) K95 Q σ
set_option maxHeartbeats 4000000 in
set_option maxRecDepth 100000 in
theorem kl_X0_make_40 {Q : Sg → Prop} (C : Cx p s m args meth c D cy ad b0 yX0_make cX0_make 5 none) (v2 : Int32) (K95 : Sg → Prop) (hK95 : ∀  (σ : Sg), K95 σ → gV p l e rm_X0_make s m args below meth c D cy ad b0 Q 5 95 σ [some (.ref (ad 3)), some (.ref (ad 2)), some (.int v2), none, none] []) : ∀ (n : Nat) (v3 : Int32) (σ : Sg), wl_X0_make_40 v2 K95 Q n v3 σ → gV p l e rm_X0_make s m args below meth c D cy ad b0 Q 5 40 σ [some (.ref (ad 3)), some (.ref (ad 2)), some (.int v2), some (.int v3), none] [] := by
  intro n
  induction n with
  | zero => intro v3 σ h; exact False.elim h
  | succ n ih =>
    intro v3 σ h
    exact kb_X0_make_40 C v2 v3 (wl_X0_make_40 v2 K95 Q n) K95 (fun z3 σ h => ih z3 σ h) hK95 σ h
def wb_X0_make_30 (v2 : Int32) (K30 : Int32 → Sg → Prop) (K101 : Sg → Prop) (Q : Sg → Prop) (σ : Sg) : Prop :=
  wp_X0_all σ (fun r1 σ2 => ((r1 ≤ v2 → K101 σ2) ∧ (¬ r1 ≤ v2 → ∃ n, wl_X0_make_40 v2 (fun σ9 => wp_X0_make_95 v2 K30 Q σ9) Q n (nI 0) σ2)))
set_option maxHeartbeats 4000000 in
set_option maxRecDepth 100000 in
theorem kb_X0_make_30 {Q : Sg → Prop} (C : Cx p s m args meth c D cy ad b0 yX0_make cX0_make 5 none) (v2 : Int32) (K30 : Int32 → Sg → Prop) (K101 : Sg → Prop) (hK30 : ∀ (z2 : Int32) (σ : Sg), K30 z2 σ → gV p l e rm_X0_make s m args below meth c D cy ad b0 Q 5 30 σ [some (.ref (ad 3)), some (.ref (ad 2)), some (.int z2), none, none] []) (hK101 : ∀  (σ : Sg), K101 σ → gV p l e rm_X0_make s m args below meth c D cy ad b0 Q 5 101 σ [some (.ref (ad 3)), none, none, none, none] []) (σ : Sg) (h : wb_X0_make_30 v2 K30 K101 Q σ) : gV p l e rm_X0_make s m args below meth c D cy ad b0 Q 5 30 σ [some (.ref (ad 3)), some (.ref (ad 2)), some (.int v2), none, none] [] := by
  refine g_iload_n C dX0_make_30 rfl ?_
  refine g_aload_n C dX0_make_31 rfl ?_
  refine g_callVi C 3 [] (c_X0_all l D cy ad b0 C.A) cal_X0_all mw_320 (by decide) rfl rfl ⟨Nat.le_of_ble_eq_true rfl, Nat.le_of_ble_eq_true rfl⟩ ⟨rfl, rfl⟩ ⟨Nat.zero_le _, Nat.zero_le _⟩ (Nat.le_of_ble_eq_true rfl) rfl dX0_make_32 h (fun r1 σ2 h => ?_)
  refine g_icmp_ge C 101 dX0_make_35 (by decide) (fun c35 => ?_) (fun c35 => ?_)
  · have h := h.1 c35
    refine g_mask [true, false, false, false, false] rfl ?_
    exact hK101 σ2 h
  · have h := h.2 c35
    refine g_iconst C dX0_make_38 kc_0 ?_
    refine g_istore_n C [some (.ref (ad 3)), some (.ref (ad 2)), some (.int v2), some (.int (nI 0)), none] dX0_make_39 (by decide) rfl ?_
    obtain ⟨n, h⟩ := h
    exact kl_X0_make_40 C v2 _ (fun σ9 h => by exact k_X0_make_95 C v2 K30 hK30 σ9 h) n (nI 0) σ2 h
def wl_X0_make_30 (K101 : Sg → Prop) (Q : Sg → Prop) : Nat → Int32 → Sg → Prop
  | 0, _, _ => False
  | n + 1, v2, σ => wb_X0_make_30 v2 (wl_X0_make_30 K101 Q n) K101 Q σ
set_option maxHeartbeats 4000000 in
set_option maxRecDepth 100000 in
theorem kl_X0_make_30 {Q : Sg → Prop} (C : Cx p s m args meth c D cy ad b0 yX0_make cX0_make 5 none) (K101 : Sg → Prop) (hK101 : ∀  (σ : Sg), K101 σ → gV p l e rm_X0_make s m args below meth c D cy ad b0 Q 5 101 σ [some (.ref (ad 3)), none, none, none, none] []) : ∀ (n : Nat) (v2 : Int32) (σ : Sg), wl_X0_make_30 K101 Q n v2 σ → gV p l e rm_X0_make s m args below meth c D cy ad b0 Q 5 30 σ [some (.ref (ad 3)), some (.ref (ad 2)), some (.int v2), none, none] [] := by
  intro n
  induction n with
  | zero => intro v2 σ h; exact False.elim h
  | succ n ih =>
    intro v2 σ h
    exact kb_X0_make_30 C v2 (wl_X0_make_30 K101 Q n) K101 (fun z2 σ h => ih z2 σ h) hK101 σ h
def wp_X0_make (σ : Sg) (Q : Sg → Prop) : Prop :=
  wp_X6_giveBits σ (fun σ1 => wp_X6_futureBits σ1 (fun r2 σ3 => ∀ σ4 : Sg, σ4 = stF σ3 3 3 r2 → (wp_X6_pastBits σ4 (fun r5 σ6 => ∀ σ7 : Sg, σ7 = stF σ6 3 4 r5 → (wp_X6_bitsOfNoPlace σ7 (fun r8 σ9 => ∀ σ10 : Sg, σ10 = stF σ9 3 5 r8 → (∃ n, wl_X0_make_30 (fun σ9 => wp_X0_make_101 Q σ9) Q n (nI 0) σ10)))))))
set_option maxHeartbeats 4000000 in
set_option maxRecDepth 100000 in
theorem c_X0_make (l : Launch) (D : va_G) (cy : Nat → ClassId) (ad : Nat → Nat) (b0 : Nat) (hA : AdOk ad b0) : Ctv l D cy ad b0 yX0_make cX0_make 5 none rm_X0_make [.ref (ad 3), .ref (ad 2)] (fun σ Q => wp_X0_make σ Q) := by
  intro σ Q h
  refine g_enter hA rfl (Nat.le_of_ble_eq_true rfl) [some (.ref (ad 3)), some (.ref (ad 2)), none, none, none] rfl ?_
  intro p e s m args below meth c C
  refine g_aload_n C dX0_make_0 rfl ?_
  refine g_callVv C 2 [] (c_X6_giveBits l D cy ad b0 C.A) cal_X6_giveBits mw_304 (by decide) rfl rfl ⟨Nat.le_of_ble_eq_true rfl, Nat.le_of_ble_eq_true rfl⟩ ⟨rfl, rfl⟩ ⟨Nat.zero_le _, Nat.zero_le _⟩ (Nat.le_of_ble_eq_true rfl) rfl dX0_make_1 h (fun σ1 h => ?_)
  refine g_aload_n C dX0_make_4 rfl ?_
  refine g_aload_n C dX0_make_5 rfl ?_
  refine g_callVi C 2 [] (c_X6_futureBits l D cy ad b0 C.A) cal_X6_futureBits mw_308 (by decide) rfl rfl ⟨Nat.le_of_ble_eq_true rfl, Nat.le_of_ble_eq_true rfl⟩ ⟨rfl, rfl⟩ ⟨Nat.zero_le _, Nat.zero_le _⟩ (Nat.le_of_ble_eq_true rfl) rfl dX0_make_6 h (fun r2 σ3 h => ?_)
  refine fput_3_3_X0_22 C rfl dX0_make_9 (fun σ4 e_σ4 => ?_)
  have h := h σ4 e_σ4
  refine g_aload_n C dX0_make_12 rfl ?_
  refine g_aload_n C dX0_make_13 rfl ?_
  refine g_callVi C 2 [] (c_X6_pastBits l D cy ad b0 C.A) cal_X6_pastBits mw_312 (by decide) rfl rfl ⟨Nat.le_of_ble_eq_true rfl, Nat.le_of_ble_eq_true rfl⟩ ⟨rfl, rfl⟩ ⟨Nat.zero_le _, Nat.zero_le _⟩ (Nat.le_of_ble_eq_true rfl) rfl dX0_make_14 h (fun r5 σ6 h => ?_)
  refine fput_3_4_X0_26 C rfl dX0_make_17 (fun σ7 e_σ7 => ?_)
  have h := h σ7 e_σ7
  refine g_aload_n C dX0_make_20 rfl ?_
  refine g_aload_n C dX0_make_21 rfl ?_
  refine g_callVi C 2 [] (c_X6_bitsOfNoPlace l D cy ad b0 C.A) cal_X6_bitsOfNoPlace mw_316 (by decide) rfl rfl ⟨Nat.le_of_ble_eq_true rfl, Nat.le_of_ble_eq_true rfl⟩ ⟨rfl, rfl⟩ ⟨Nat.zero_le _, Nat.zero_le _⟩ (Nat.le_of_ble_eq_true rfl) rfl dX0_make_22 h (fun r8 σ9 h => ?_)
  refine fput_3_5_X0_29 C rfl dX0_make_25 (fun σ10 e_σ10 => ?_)
  have h := h σ10 e_σ10
  refine g_iconst C dX0_make_28 kc_0 ?_
  refine g_istore_n C [some (.ref (ad 3)), some (.ref (ad 2)), some (.int (nI 0)), none, none] dX0_make_29 (by decide) rfl ?_
  obtain ⟨n, h⟩ := h
  exact kl_X0_make_30 C _ (fun σ9 h => by exact k_X0_make_101 C σ9 h) n (nI 0) σ10 h
end
