section
variable {p : Program} {l : Launch} {e : Env} {s : State} {m : MethodId} {args : Array Value} {below : List Frame} {meth : Method} {c : Code} {D : va_G} {cy : Nat → ClassId} {ad : Nat → Nat} {b0 : Nat}
def rm_X8_refusalOfState : Room := { frames := 1, cells := 0, slots := 0, locals := 21 }
def wp_X8_refusalOfState (a0 : Int32) (σ : Sg) (Q : Int32 → Sg → Prop) : Prop :=
  wp_X7_isThere σ (fun r1 σ2 => ((¬ r1 = (nI 0) → wp_X7_has a0 σ2 (fun r3 σ4 => ((r3 = (nI 0) → Q (-1 : Int32) σ4) ∧ (¬ r3 = (nI 0) → Q (nI 0) σ4)))) ∧ (r1 = (nI 0) → Q (-3 : Int32) σ2)))
set_option maxHeartbeats 4000000 in
set_option maxRecDepth 100000 in
theorem c_X8_refusalOfState (l : Launch) (D : va_G) (cy : Nat → ClassId) (ad : Nat → Nat) (b0 : Nat) (hA : AdOk ad b0) (a0 : Int32) : Cti l D cy ad b0 yX8_refusalOfState cX8_refusalOfState 2 (some .int) rm_X8_refusalOfState [.ref (ad 0), .int a0] (fun σ Q => wp_X8_refusalOfState a0 σ Q) := by
  intro σ Q h
  refine g_enter hA rfl (Nat.le_of_ble_eq_true rfl) [some (.ref (ad 0)), some (.int a0)] rfl ?_
  intro p e s m args below meth c C
  refine g_aload_n C dX8_refusalOfState_0 rfl ?_
  refine fget_0_7_X8_51 C rfl dX8_refusalOfState_1 ?_
  refine g_callVi C 6 [] (c_X7_isThere l D cy ad b0 C.A) cal_X7_isThere mw_658 (by decide) rfl rfl ⟨Nat.le_of_ble_eq_true rfl, Nat.le_of_ble_eq_true rfl⟩ ⟨rfl, rfl⟩ ⟨Nat.zero_le _, Nat.zero_le _⟩ (Nat.le_of_ble_eq_true rfl) rfl dX8_refusalOfState_4 h (fun r1 σ2 h => ?_)
  refine g_if_ne C 13 dX8_refusalOfState_7 (by decide) (fun c7 => ?_) (fun c7 => ?_)
  · have h := h.1 c7
    refine g_aload_n C dX8_refusalOfState_13 rfl ?_
    refine fget_0_7_X8_51 C rfl dX8_refusalOfState_14 ?_
    refine g_iload_n C dX8_refusalOfState_17 rfl ?_
    refine g_callVi C 6 [.int a0] (c_X7_has l D cy ad b0 C.A a0) cal_X7_has mw_662 (by decide) rfl rfl ⟨Nat.le_of_ble_eq_true rfl, Nat.le_of_ble_eq_true rfl⟩ ⟨rfl, rfl⟩ ⟨Nat.zero_le _, Nat.zero_le _⟩ (Nat.le_of_ble_eq_true rfl) rfl dX8_refusalOfState_18 h (fun r3 σ4 h => ?_)
    refine g_if_eq C 28 dX8_refusalOfState_21 (by decide) (fun c21 => ?_) (fun c21 => ?_)
    · have h := h.1 c21
      refine g_iconst C dX8_refusalOfState_28 kc_m1 ?_
      exact g_iret C dX8_refusalOfState_29 h
    · have h := h.2 c21
      refine g_iconst C dX8_refusalOfState_24 kc_0 ?_
      refine g_goto C 29 dX8_refusalOfState_25 (by decide) ?_
      exact g_iret C dX8_refusalOfState_29 h
  · have h := h.2 c7
    refine g_bipush C dX8_refusalOfState_10 kb_m3 ?_
    exact g_iret C dX8_refusalOfState_12 h
def rm_X8_refusalOfKey : Room := { frames := 1, cells := 0, slots := 0, locals := 20 }
def wp_X8_refusalOfKey (a0 : Int32) (σ : Sg) (Q : Int32 → Sg → Prop) : Prop :=
  wp_X7_isThere σ (fun r1 σ2 => ((¬ r1 = (nI 0) → wp_X8_isKey a0 σ2 (fun r3 σ4 => ((r3 = (nI 0) → Q (-1 : Int32) σ4) ∧ (¬ r3 = (nI 0) → Q (nI 0) σ4)))) ∧ (r1 = (nI 0) → Q (-3 : Int32) σ2)))
set_option maxHeartbeats 4000000 in
set_option maxRecDepth 100000 in
theorem c_X8_refusalOfKey (l : Launch) (D : va_G) (cy : Nat → ClassId) (ad : Nat → Nat) (b0 : Nat) (hA : AdOk ad b0) (a0 : Int32) : Cti l D cy ad b0 yX8_refusalOfKey cX8_refusalOfKey 2 (some .int) rm_X8_refusalOfKey [.ref (ad 0), .int a0] (fun σ Q => wp_X8_refusalOfKey a0 σ Q) := by
  intro σ Q h
  refine g_enter hA rfl (Nat.le_of_ble_eq_true rfl) [some (.ref (ad 0)), some (.int a0)] rfl ?_
  intro p e s m args below meth c C
  refine g_aload_n C dX8_refusalOfKey_0 rfl ?_
  refine fget_0_7_X8_51 C rfl dX8_refusalOfKey_1 ?_
  refine g_callVi C 6 [] (c_X7_isThere l D cy ad b0 C.A) cal_X7_isThere mw_658 (by decide) rfl rfl ⟨Nat.le_of_ble_eq_true rfl, Nat.le_of_ble_eq_true rfl⟩ ⟨rfl, rfl⟩ ⟨Nat.zero_le _, Nat.zero_le _⟩ (Nat.le_of_ble_eq_true rfl) rfl dX8_refusalOfKey_4 h (fun r1 σ2 h => ?_)
  refine g_if_ne C 13 dX8_refusalOfKey_7 (by decide) (fun c7 => ?_) (fun c7 => ?_)
  · have h := h.1 c7
    refine g_iload_n C dX8_refusalOfKey_13 rfl ?_
    refine g_callSi C [.int a0] (c_X8_isKey l D cy ad b0 C.A a0) cal_X8_isKey mw_766 rfl ⟨Nat.le_of_ble_eq_true rfl, Nat.le_of_ble_eq_true rfl⟩ ⟨rfl, rfl⟩ ⟨Nat.zero_le _, Nat.zero_le _⟩ (Nat.le_of_ble_eq_true rfl) rfl dX8_refusalOfKey_14 h (fun r3 σ4 h => ?_)
    refine g_if_eq C 24 dX8_refusalOfKey_17 (by decide) (fun c17 => ?_) (fun c17 => ?_)
    · have h := h.1 c17
      refine g_iconst C dX8_refusalOfKey_24 kc_m1 ?_
      exact g_iret C dX8_refusalOfKey_25 h
    · have h := h.2 c17
      refine g_iconst C dX8_refusalOfKey_20 kc_0 ?_
      refine g_goto C 25 dX8_refusalOfKey_21 (by decide) ?_
      exact g_iret C dX8_refusalOfKey_25 h
  · have h := h.2 c7
    refine g_bipush C dX8_refusalOfKey_10 kb_m3 ?_
    exact g_iret C dX8_refusalOfKey_12 h
def rm_X8_feed : Room := { frames := 2, cells := 0, slots := 0, locals := 44 }
def wp_X8_feed_54 (v3 : Int32) (Q : Int32 → Sg → Prop) (σ : Sg) : Prop :=
  ∀ σ1 : Sg, σ1 = stF σ 0 1 ((gF σ 0 1) + v3) → (Q (gF σ1 0 1) σ1)
set_option maxHeartbeats 4000000 in
set_option maxRecDepth 100000 in
theorem k_X8_feed_54 {Q : Int32 → Sg → Prop} (C : Cx p s m args meth c D cy ad b0 yX8_feed cX8_feed 5 (some .int)) (v3 : Int32) (σ : Sg) (h : wp_X8_feed_54 v3 Q σ) : gI p l e rm_X8_feed s m args below meth c D cy ad b0 Q 5 54 σ [some (.ref (ad 0)), none, none, some (.int v3), none] [] := by
  refine g_aload_n C dX8_feed_54 rfl ?_
  refine g_dup C dX8_feed_55 rfl ?_
  refine fget_0_1_X8_13 C rfl dX8_feed_56 ?_
  refine g_iload_n C dX8_feed_59 rfl ?_
  refine g_iadd C dX8_feed_60 ?_
  refine fput_0_1_X8_13 C rfl dX8_feed_61 (fun σ1 e_σ1 => ?_)
  have h := h σ1 e_σ1
  refine g_aload_n C dX8_feed_64 rfl ?_
  refine fget_0_1_X8_13 C rfl dX8_feed_65 ?_
  exact g_iret C dX8_feed_68 h
def wb_X8_feed_22 (v1 : Int64) (v3 : Int32) (v4 : Int32) (K22 : Int32 → Sg → Prop) (K54 : Sg → Prop) (Q : Int32 → Sg → Prop) (σ : Sg) : Prop :=
  ((v3 ≤ v4 → K54 σ) ∧ (¬ v3 ≤ v4 → wp_X8_byteOf v1 v4 σ (fun r1 σ2 => wp_X8_put 11 ((gF σ 0 1) + v4) r1 σ2 (fun σ3 => ∀ x48 : Int32, x48 = v4 + (nI 1) → (K22 x48 σ3)))))
set_option maxHeartbeats 4000000 in
set_option maxRecDepth 100000 in
theorem kb_X8_feed_22 {Q : Int32 → Sg → Prop} (C : Cx p s m args meth c D cy ad b0 yX8_feed cX8_feed 5 (some .int)) (v1 : Int64) (v3 : Int32) (v4 : Int32) (K22 : Int32 → Sg → Prop) (K54 : Sg → Prop) (hK22 : ∀ (z4 : Int32) (σ : Sg), K22 z4 σ → gI p l e rm_X8_feed s m args below meth c D cy ad b0 Q 5 22 σ [some (.ref (ad 0)), some (.long v1), none, some (.int v3), some (.int z4)] []) (hK54 : ∀  (σ : Sg), K54 σ → gI p l e rm_X8_feed s m args below meth c D cy ad b0 Q 5 54 σ [some (.ref (ad 0)), none, none, some (.int v3), none] []) (σ : Sg) (h : wb_X8_feed_22 v1 v3 v4 K22 K54 Q σ) : gI p l e rm_X8_feed s m args below meth c D cy ad b0 Q 5 22 σ [some (.ref (ad 0)), some (.long v1), none, some (.int v3), some (.int v4)] [] := by
  refine g_iload C dX8_feed_22 rfl ?_
  refine g_iload_n C dX8_feed_24 rfl ?_
  refine g_icmp_ge C 54 dX8_feed_25 (by decide) (fun c25 => ?_) (fun c25 => ?_)
  · have h := h.1 c25
    refine g_mask [true, false, false, true, false] rfl ?_
    exact hK54 σ h
  · have h := h.2 c25
    refine g_aload_n C dX8_feed_28 rfl ?_
    refine fget_0_0_X8_9 C rfl dX8_feed_29 ?_
    refine g_aload_n C dX8_feed_32 rfl ?_
    refine fget_0_1_X8_13 C rfl dX8_feed_33 ?_
    refine g_iload C dX8_feed_36 rfl ?_
    refine g_iadd C dX8_feed_38 ?_
    refine g_lload_n C dX8_feed_39 rfl ?_
    refine g_iload C dX8_feed_40 rfl ?_
    refine g_callSi C [.long v1, .int v4] (c_X8_byteOf l D cy ad b0 C.A v1 v4) cal_X8_byteOf mw_191 rfl ⟨Nat.le_of_ble_eq_true rfl, Nat.le_of_ble_eq_true rfl⟩ ⟨rfl, rfl⟩ ⟨Nat.zero_le _, Nat.zero_le _⟩ (Nat.le_of_ble_eq_true rfl) rfl dX8_feed_42 h (fun r1 σ2 h => ?_)
    refine g_callSv C [.ref (ad 11), .int ((gF σ 0 1) + v4), .int r1] (c_X8_put l D cy ad b0 C.A 11 ((gF σ 0 1) + v4) r1 (by decide)) cal_X8_put mw_194 rfl ⟨Nat.le_of_ble_eq_true rfl, Nat.le_of_ble_eq_true rfl⟩ ⟨rfl, rfl⟩ ⟨Nat.zero_le _, Nat.zero_le _⟩ (Nat.le_of_ble_eq_true rfl) rfl dX8_feed_45 h (fun σ3 h => ?_)
    obtain ⟨x48, e_x48⟩ : ∃ v : Int32, v = v4 + (nI 1) := ⟨_, rfl⟩
    have h := h x48 e_x48
    refine g_iinc C [some (.ref (ad 0)), some (.long v1), none, some (.int v3), some (.int x48)] dX8_feed_48 rfl e_x48.symm (by decide) rfl ?_
    refine g_goto C 22 dX8_feed_51 (by decide) ?_
    exact hK22 x48 σ3 h
def wl_X8_feed_22 (v1 : Int64) (v3 : Int32) (K54 : Sg → Prop) (Q : Int32 → Sg → Prop) : Nat → Int32 → Sg → Prop
  | 0, _, _ => False
  | n + 1, v4, σ => wb_X8_feed_22 v1 v3 v4 (wl_X8_feed_22 v1 v3 K54 Q n) K54 Q σ
set_option maxHeartbeats 4000000 in
set_option maxRecDepth 100000 in
theorem kl_X8_feed_22 {Q : Int32 → Sg → Prop} (C : Cx p s m args meth c D cy ad b0 yX8_feed cX8_feed 5 (some .int)) (v1 : Int64) (v3 : Int32) (K54 : Sg → Prop) (hK54 : ∀  (σ : Sg), K54 σ → gI p l e rm_X8_feed s m args below meth c D cy ad b0 Q 5 54 σ [some (.ref (ad 0)), none, none, some (.int v3), none] []) : ∀ (n : Nat) (v4 : Int32) (σ : Sg), wl_X8_feed_22 v1 v3 K54 Q n v4 σ → gI p l e rm_X8_feed s m args below meth c D cy ad b0 Q 5 22 σ [some (.ref (ad 0)), some (.long v1), none, some (.int v3), some (.int v4)] [] := by
  intro n
  induction n with
  | zero => intro v4 σ h; exact False.elim h
  | succ n ih =>
    intro v4 σ h
    exact kb_X8_feed_22 C v1 v3 v4 (wl_X8_feed_22 v1 v3 K54 Q n) K54 (fun z4 σ h => ih z4 σ h) hK54 σ h
def wp_X8_feed (a0 : Int64) (σ : Sg) (Q : Int32 → Sg → Prop) : Prop :=
  wp_X8_bytesIn a0 σ (fun r1 σ2 => ((((gF σ2 0 1) + r1) ≤ (nI 60) → ∃ n, wl_X8_feed_22 a0 r1 (fun σ9 => wp_X8_feed_54 r1 Q σ9) Q n (nI 0) σ2) ∧ (¬ ((gF σ2 0 1) + r1) ≤ (nI 60) → Q (-4 : Int32) σ2)))
set_option maxHeartbeats 4000000 in
set_option maxRecDepth 100000 in
theorem c_X8_feed (l : Launch) (D : va_G) (cy : Nat → ClassId) (ad : Nat → Nat) (b0 : Nat) (hA : AdOk ad b0) (a0 : Int64) : Cti l D cy ad b0 yX8_feed cX8_feed 5 (some .int) rm_X8_feed [.ref (ad 0), .long a0] (fun σ Q => wp_X8_feed a0 σ Q) := by
  intro σ Q h
  refine g_enter hA rfl (Nat.le_of_ble_eq_true rfl) [some (.ref (ad 0)), some (.long a0), none, none, none] rfl ?_
  intro p e s m args below meth c C
  refine g_lload_n C dX8_feed_0 rfl ?_
  refine g_callSi C [.long a0] (c_X8_bytesIn l D cy ad b0 C.A a0) cal_X8_bytesIn mw_188 rfl ⟨Nat.le_of_ble_eq_true rfl, Nat.le_of_ble_eq_true rfl⟩ ⟨rfl, rfl⟩ ⟨Nat.zero_le _, Nat.zero_le _⟩ (Nat.le_of_ble_eq_true rfl) rfl dX8_feed_1 h (fun r1 σ2 h => ?_)
  refine g_istore_n C [some (.ref (ad 0)), some (.long a0), none, some (.int r1), none] dX8_feed_4 (by decide) rfl ?_
  refine g_aload_n C dX8_feed_5 rfl ?_
  refine fget_0_1_X8_13 C rfl dX8_feed_6 ?_
  refine g_iload_n C dX8_feed_9 rfl ?_
  refine g_iadd C dX8_feed_10 ?_
  refine g_bipush C dX8_feed_11 kb_60 ?_
  refine g_icmp_le C 19 dX8_feed_13 (by decide) (fun c13 => ?_) (fun c13 => ?_)
  · have h := h.1 c13
    refine g_iconst C dX8_feed_19 kc_0 ?_
    refine g_istore C [some (.ref (ad 0)), some (.long a0), none, some (.int r1), some (.int (nI 0))] dX8_feed_20 (by decide) rfl ?_
    obtain ⟨n, h⟩ := h
    exact kl_X8_feed_22 C a0 r1 _ (fun σ9 h => by exact k_X8_feed_54 C r1 σ9 h) n (nI 0) σ2 h
  · have h := h.2 c13
    refine g_bipush C dX8_feed_16 kb_m4 ?_
    exact g_iret C dX8_feed_18 h
def rm_X8_read : Room := { frames := 121, cells := 0, slots := 0, locals := 2823 }
def wp_X8_read (σ : Sg) (Q : Int32 → Sg → Prop) : Prop :=
  wp_X5_reads (gF σ 0 1) σ (fun r1 σ2 => wp_X5_faultKind σ2 (fun r3 σ4 => ∀ σ5 : Sg, σ5 = stF σ4 0 2 r3 → (((¬ r1 = (nI 0) → wp_X5_rule σ5 (fun σ6 => wp_X0_make σ6 (fun σ7 => wp_X4_make σ7 (fun r8 σ9 => ((r8 = (nI 0) → Q (-4 : Int32) σ9) ∧ (¬ r8 = (nI 0) → wp_X2_lessen σ9 (fun r10 σ11 => ((¬ r10 = (nI 0) → wp_X2_putInto σ11 (fun σ12 => wp_X1_restart σ12 (fun σ13 => ∀ σ14 : Sg, σ14 = stF σ13 0 1 (nI 0) → (wp_X7_size σ14 (fun r15 σ16 => Q r15 σ16))))) ∧ (r10 = (nI 0) → Q (-4 : Int32) σ11))))))))) ∧ (r1 = (nI 0) → wp_X5_faultByte σ5 (fun r17 σ18 => Q ((-100 : Int32) - r17) σ18))))))
set_option maxHeartbeats 4000000 in
set_option maxRecDepth 100000 in
theorem c_X8_read (l : Launch) (D : va_G) (cy : Nat → ClassId) (ad : Nat → Nat) (b0 : Nat) (hA : AdOk ad b0) : Cti l D cy ad b0 yX8_read cX8_read 2 (some .int) rm_X8_read [.ref (ad 0)] (fun σ Q => wp_X8_read σ Q) := by
  intro σ Q h
  refine g_enter hA rfl (Nat.le_of_ble_eq_true rfl) [some (.ref (ad 0)), none] rfl ?_
  intro p e s m args below meth c C
  refine g_aload_n C dX8_read_0 rfl ?_
  refine fget_0_3_X8_23 C rfl dX8_read_1 ?_
  refine g_aload_n C dX8_read_4 rfl ?_
  refine fget_0_0_X8_9 C rfl dX8_read_5 ?_
  refine g_aload_n C dX8_read_8 rfl ?_
  refine fget_0_1_X8_13 C rfl dX8_read_9 ?_
  refine g_callVi C 1 [.ref (ad 11), .int (gF σ 0 1)] (c_X5_reads l D cy ad b0 C.A (gF σ 0 1)) cal_X5_reads mw_207 (by decide) rfl rfl ⟨Nat.le_of_ble_eq_true rfl, Nat.le_of_ble_eq_true rfl⟩ ⟨rfl, rfl⟩ ⟨Nat.zero_le _, Nat.zero_le _⟩ (Nat.le_of_ble_eq_true rfl) rfl dX8_read_12 h (fun r1 σ2 h => ?_)
  refine g_istore_n C [some (.ref (ad 0)), some (.int r1)] dX8_read_15 (by decide) rfl ?_
  refine g_aload_n C dX8_read_16 rfl ?_
  refine g_aload_n C dX8_read_17 rfl ?_
  refine fget_0_3_X8_23 C rfl dX8_read_18 ?_
  refine g_callVi C 1 [] (c_X5_faultKind l D cy ad b0 C.A) cal_X5_faultKind mw_288 (by decide) rfl rfl ⟨Nat.le_of_ble_eq_true rfl, Nat.le_of_ble_eq_true rfl⟩ ⟨rfl, rfl⟩ ⟨Nat.zero_le _, Nat.zero_le _⟩ (Nat.le_of_ble_eq_true rfl) rfl dX8_read_21 h (fun r3 σ4 h => ?_)
  refine fput_0_2_X8_17 C rfl dX8_read_24 (fun σ5 e_σ5 => ?_)
  have h := h σ5 e_σ5
  refine g_iload_n C dX8_read_27 rfl ?_
  refine g_if_ne C 42 dX8_read_28 (by decide) (fun c28 => ?_) (fun c28 => ?_)
  · have h := h.1 c28
    refine g_aload_n C dX8_read_42 rfl ?_
    refine fget_0_4_X8_30 C rfl dX8_read_43 ?_
    refine g_aload_n C dX8_read_46 rfl ?_
    refine fget_0_3_X8_23 C rfl dX8_read_47 ?_
    refine g_callVr C 1 [] (c_X5_rule l D cy ad b0 C.A) cal_X5_rule mw_296 (by decide) rfl rfl ⟨Nat.le_of_ble_eq_true rfl, Nat.le_of_ble_eq_true rfl⟩ ⟨rfl, rfl⟩ ⟨Nat.zero_le _, Nat.zero_le _⟩ (Nat.le_of_ble_eq_true rfl) rfl dX8_read_50 h (fun σ6 h => ?_)
    refine g_callVv C 3 [.ref (ad 2)] (c_X0_make l D cy ad b0 C.A) cal_X0_make mw_300 (by decide) rfl rfl ⟨Nat.le_of_ble_eq_true rfl, Nat.le_of_ble_eq_true rfl⟩ ⟨rfl, rfl⟩ ⟨Nat.zero_le _, Nat.zero_le _⟩ (Nat.le_of_ble_eq_true rfl) rfl dX8_read_53 h (fun σ7 h => ?_)
    refine g_aload_n C dX8_read_56 rfl ?_
    refine fget_0_5_X8_37 C rfl dX8_read_57 ?_
    refine g_aload_n C dX8_read_60 rfl ?_
    refine fget_0_4_X8_30 C rfl dX8_read_61 ?_
    refine g_callVi C 4 [.ref (ad 3)] (c_X4_make l D cy ad b0 C.A) cal_X4_make mw_377 (by decide) rfl rfl ⟨Nat.le_of_ble_eq_true rfl, Nat.le_of_ble_eq_true rfl⟩ ⟨rfl, rfl⟩ ⟨Nat.zero_le _, Nat.zero_le _⟩ (Nat.le_of_ble_eq_true rfl) rfl dX8_read_64 h (fun r8 σ9 h => ?_)
    refine g_if_eq C 84 dX8_read_67 (by decide) (fun c67 => ?_) (fun c67 => ?_)
    · have h := h.1 c67
      refine g_bipush C dX8_read_84 kb_m4 ?_
      exact g_iret C dX8_read_86 h
    · have h := h.2 c67
      refine g_aload_n C dX8_read_70 rfl ?_
      refine fget_0_6_X8_44 C rfl dX8_read_71 ?_
      refine g_aload_n C dX8_read_74 rfl ?_
      refine fget_0_5_X8_37 C rfl dX8_read_75 ?_
      refine g_callVi C 5 [.ref (ad 4)] (c_X2_lessen l D cy ad b0 C.A) cal_X2_lessen mw_428 (by decide) rfl rfl ⟨Nat.le_of_ble_eq_true rfl, Nat.le_of_ble_eq_true rfl⟩ ⟨rfl, rfl⟩ ⟨Nat.zero_le _, Nat.zero_le _⟩ (Nat.le_of_ble_eq_true rfl) rfl dX8_read_78 h (fun r10 σ11 h => ?_)
      refine g_if_ne C 87 dX8_read_81 (by decide) (fun c81 => ?_) (fun c81 => ?_)
      · have h := h.1 c81
        refine g_aload_n C dX8_read_87 rfl ?_
        refine fget_0_6_X8_44 C rfl dX8_read_88 ?_
        refine g_aload_n C dX8_read_91 rfl ?_
        refine fget_0_7_X8_51 C rfl dX8_read_92 ?_
        refine g_aload_n C dX8_read_95 rfl ?_
        refine fget_0_5_X8_37 C rfl dX8_read_96 ?_
        refine g_callVv C 5 [.ref (ad 6), .ref (ad 4)] (c_X2_putInto l D cy ad b0 C.A) cal_X2_putInto mw_456 (by decide) rfl rfl ⟨Nat.le_of_ble_eq_true rfl, Nat.le_of_ble_eq_true rfl⟩ ⟨rfl, rfl⟩ ⟨Nat.zero_le _, Nat.zero_le _⟩ (Nat.le_of_ble_eq_true rfl) rfl dX8_read_99 h (fun σ12 h => ?_)
        refine g_aload_n C dX8_read_102 rfl ?_
        refine fget_0_10_X8_68 C rfl dX8_read_103 ?_
        refine g_callVv C 9 [] (c_X1_restart l D cy ad b0 C.A) cal_X1_restart mw_520 (by decide) rfl rfl ⟨Nat.le_of_ble_eq_true rfl, Nat.le_of_ble_eq_true rfl⟩ ⟨rfl, rfl⟩ ⟨Nat.zero_le _, Nat.zero_le _⟩ (Nat.le_of_ble_eq_true rfl) rfl dX8_read_106 h (fun σ13 h => ?_)
        refine g_aload_n C dX8_read_109 rfl ?_
        refine g_iconst C dX8_read_110 kc_0 ?_
        refine fput_0_1_X8_13 C rfl dX8_read_111 (fun σ14 e_σ14 => ?_)
        have h := h σ14 e_σ14
        refine g_aload_n C dX8_read_114 rfl ?_
        refine fget_0_7_X8_51 C rfl dX8_read_115 ?_
        refine g_callVi C 6 [] (c_X7_size l D cy ad b0 C.A) cal_X7_size mw_528 (by decide) rfl rfl ⟨Nat.le_of_ble_eq_true rfl, Nat.le_of_ble_eq_true rfl⟩ ⟨rfl, rfl⟩ ⟨Nat.zero_le _, Nat.zero_le _⟩ (Nat.le_of_ble_eq_true rfl) rfl dX8_read_118 h (fun r15 σ16 h => ?_)
        exact g_iret C dX8_read_121 h
      · have h := h.2 c81
        refine g_bipush C dX8_read_84 kb_m4 ?_
        exact g_iret C dX8_read_86 h
  · have h := h.2 c28
    refine g_bipush C dX8_read_31 kb_m100 ?_
    refine g_aload_n C dX8_read_33 rfl ?_
    refine fget_0_3_X8_23 C rfl dX8_read_34 ?_
    refine g_callVi C 1 [] (c_X5_faultByte l D cy ad b0 C.A) cal_X5_faultByte mw_292 (by decide) rfl rfl ⟨Nat.le_of_ble_eq_true rfl, Nat.le_of_ble_eq_true rfl⟩ ⟨rfl, rfl⟩ ⟨Nat.zero_le _, Nat.zero_le _⟩ (Nat.le_of_ble_eq_true rfl) rfl dX8_read_37 h (fun r17 σ18 h => ?_)
    refine g_isub C dX8_read_40 ?_
    exact g_iret C dX8_read_41 h
def rm_X8_fault : Room := { frames := 0, cells := 0, slots := 0, locals := 0 }
def wp_X8_fault (σ : Sg) (Q : Int32 → Sg → Prop) : Prop :=
  Q (gF σ 0 2) σ
set_option maxHeartbeats 4000000 in
set_option maxRecDepth 100000 in
theorem c_X8_fault (l : Launch) (D : va_G) (cy : Nat → ClassId) (ad : Nat → Nat) (b0 : Nat) (hA : AdOk ad b0) : Cti l D cy ad b0 yX8_fault cX8_fault 1 (some .int) rm_X8_fault [.ref (ad 0)] (fun σ Q => wp_X8_fault σ Q) := by
  intro σ Q h
  refine g_enter hA rfl (Nat.le_of_ble_eq_true rfl) [some (.ref (ad 0))] rfl ?_
  intro p e s m args below meth c C
  refine g_aload_n C dX8_fault_0 rfl ?_
  refine fget_0_2_X8_17 C rfl dX8_fault_1 ?_
  exact g_iret C dX8_fault_4 h
def rm_X8_cut : Room := { frames := 0, cells := 0, slots := 0, locals := 0 }
def wp_X8_cut (σ : Sg) (Q : Int32 → Sg → Prop) : Prop :=
  ∀ x4 : Int32, x4 = (gF σ 0 1) → (∀ σ1 : Sg, σ1 = stF σ 0 1 (nI 0) → (Q x4 σ1))
set_option maxHeartbeats 4000000 in
set_option maxRecDepth 100000 in
theorem c_X8_cut (l : Launch) (D : va_G) (cy : Nat → ClassId) (ad : Nat → Nat) (b0 : Nat) (hA : AdOk ad b0) : Cti l D cy ad b0 yX8_cut cX8_cut 2 (some .int) rm_X8_cut [.ref (ad 0)] (fun σ Q => wp_X8_cut σ Q) := by
  intro σ Q h
  refine g_enter hA rfl (Nat.le_of_ble_eq_true rfl) [some (.ref (ad 0)), none] rfl ?_
  intro p e s m args below meth c C
  refine g_aload_n C dX8_cut_0 rfl ?_
  refine fget_0_1_X8_13 C rfl dX8_cut_1 ?_
  refine g_topi (fun x4 e_x4 => ?_)
  have h := h x4 e_x4
  refine g_istore_n C [some (.ref (ad 0)), some (.int x4)] dX8_cut_4 (by decide) rfl ?_
  refine g_aload_n C dX8_cut_5 rfl ?_
  refine g_iconst C dX8_cut_6 kc_0 ?_
  refine fput_0_1_X8_13 C rfl dX8_cut_7 (fun σ1 e_σ1 => ?_)
  have h := h σ1 e_σ1
  refine g_iload_n C dX8_cut_10 rfl ?_
  exact g_iret C dX8_cut_11 h
def rm_X8_leads : Room := { frames := 2, cells := 0, slots := 0, locals := 43 }
def wp_X8_leads (a0 : Int32) (a1 : Int32) (σ : Sg) (Q : Int32 → Sg → Prop) : Prop :=
  wp_X7_isThere σ (fun r1 σ2 => ((¬ r1 = (nI 0) → wp_X7_has a0 σ2 (fun r3 σ4 => ((r3 = (nI 0) → Q (-1 : Int32) σ4) ∧ (¬ r3 = (nI 0) → wp_X8_isEvent a1 σ4 (fun r5 σ6 => ((¬ r5 = (nI 0) → wp_X7_next a0 a1 σ6 (fun r7 σ8 => Q r7 σ8)) ∧ (r5 = (nI 0) → Q (-1 : Int32) σ6))))))) ∧ (r1 = (nI 0) → Q (-3 : Int32) σ2)))
set_option maxHeartbeats 4000000 in
set_option maxRecDepth 100000 in
theorem c_X8_leads (l : Launch) (D : va_G) (cy : Nat → ClassId) (ad : Nat → Nat) (b0 : Nat) (hA : AdOk ad b0) (a0 : Int32) (a1 : Int32) : Cti l D cy ad b0 yX8_leads cX8_leads 3 (some .int) rm_X8_leads [.ref (ad 0), .int a0, .int a1] (fun σ Q => wp_X8_leads a0 a1 σ Q) := by
  intro σ Q h
  refine g_enter hA rfl (Nat.le_of_ble_eq_true rfl) [some (.ref (ad 0)), some (.int a0), some (.int a1)] rfl ?_
  intro p e s m args below meth c C
  refine g_aload_n C dX8_leads_0 rfl ?_
  refine fget_0_7_X8_51 C rfl dX8_leads_1 ?_
  refine g_callVi C 6 [] (c_X7_isThere l D cy ad b0 C.A) cal_X7_isThere mw_658 (by decide) rfl rfl ⟨Nat.le_of_ble_eq_true rfl, Nat.le_of_ble_eq_true rfl⟩ ⟨rfl, rfl⟩ ⟨Nat.zero_le _, Nat.zero_le _⟩ (Nat.le_of_ble_eq_true rfl) rfl dX8_leads_4 h (fun r1 σ2 h => ?_)
  refine g_if_ne C 13 dX8_leads_7 (by decide) (fun c7 => ?_) (fun c7 => ?_)
  · have h := h.1 c7
    refine g_aload_n C dX8_leads_13 rfl ?_
    refine fget_0_7_X8_51 C rfl dX8_leads_14 ?_
    refine g_iload_n C dX8_leads_17 rfl ?_
    refine g_callVi C 6 [.int a0] (c_X7_has l D cy ad b0 C.A a0) cal_X7_has mw_662 (by decide) rfl rfl ⟨Nat.le_of_ble_eq_true rfl, Nat.le_of_ble_eq_true rfl⟩ ⟨rfl, rfl⟩ ⟨Nat.zero_le _, Nat.zero_le _⟩ (Nat.le_of_ble_eq_true rfl) rfl dX8_leads_18 h (fun r3 σ4 h => ?_)
    refine g_if_eq C 31 dX8_leads_21 (by decide) (fun c21 => ?_) (fun c21 => ?_)
    · have h := h.1 c21
      refine g_iconst C dX8_leads_31 kc_m1 ?_
      exact g_iret C dX8_leads_32 h
    · have h := h.2 c21
      refine g_iload_n C dX8_leads_24 rfl ?_
      refine g_callSi C [.int a1] (c_X8_isEvent l D cy ad b0 C.A a1) cal_X8_isEvent mw_666 rfl ⟨Nat.le_of_ble_eq_true rfl, Nat.le_of_ble_eq_true rfl⟩ ⟨rfl, rfl⟩ ⟨Nat.zero_le _, Nat.zero_le _⟩ (Nat.le_of_ble_eq_true rfl) rfl dX8_leads_25 h (fun r5 σ6 h => ?_)
      refine g_if_ne C 33 dX8_leads_28 (by decide) (fun c28 => ?_) (fun c28 => ?_)
      · have h := h.1 c28
        refine g_aload_n C dX8_leads_33 rfl ?_
        refine fget_0_7_X8_51 C rfl dX8_leads_34 ?_
        refine g_iload_n C dX8_leads_37 rfl ?_
        refine g_iload_n C dX8_leads_38 rfl ?_
        refine g_callVi C 6 [.int a0, .int a1] (c_X7_next l D cy ad b0 C.A a0 a1) cal_X7_next mw_669 (by decide) rfl rfl ⟨Nat.le_of_ble_eq_true rfl, Nat.le_of_ble_eq_true rfl⟩ ⟨rfl, rfl⟩ ⟨Nat.zero_le _, Nat.zero_le _⟩ (Nat.le_of_ble_eq_true rfl) rfl dX8_leads_39 h (fun r7 σ8 h => ?_)
        exact g_iret C dX8_leads_42 h
      · have h := h.2 c28
        refine g_iconst C dX8_leads_31 kc_m1 ?_
        exact g_iret C dX8_leads_32 h
  · have h := h.2 c7
    refine g_bipush C dX8_leads_10 kb_m3 ?_
    exact g_iret C dX8_leads_12 h
def rm_X8_verdict : Room := { frames := 2, cells := 0, slots := 0, locals := 42 }
def wp_X8_verdict (a0 : Int32) (σ : Sg) (Q : Int32 → Sg → Prop) : Prop :=
  wp_X8_refusalOfState a0 σ (fun r1 σ2 => ((r1 = (nI 0) → wp_X7_verdictOf a0 σ2 (fun r3 σ4 => Q r3 σ4)) ∧ (¬ r1 = (nI 0) → Q r1 σ2)))
set_option maxHeartbeats 4000000 in
set_option maxRecDepth 100000 in
theorem c_X8_verdict (l : Launch) (D : va_G) (cy : Nat → ClassId) (ad : Nat → Nat) (b0 : Nat) (hA : AdOk ad b0) (a0 : Int32) : Cti l D cy ad b0 yX8_verdict cX8_verdict 3 (some .int) rm_X8_verdict [.ref (ad 0), .int a0] (fun σ Q => wp_X8_verdict a0 σ Q) := by
  intro σ Q h
  refine g_enter hA rfl (Nat.le_of_ble_eq_true rfl) [some (.ref (ad 0)), some (.int a0), none] rfl ?_
  intro p e s m args below meth c C
  refine g_aload_n C dX8_verdict_0 rfl ?_
  refine g_iload_n C dX8_verdict_1 rfl ?_
  refine g_callVi C 0 [.int a0] (c_X8_refusalOfState l D cy ad b0 C.A a0) cal_X8_refusalOfState mw_686 (by decide) rfl rfl ⟨Nat.le_of_ble_eq_true rfl, Nat.le_of_ble_eq_true rfl⟩ ⟨rfl, rfl⟩ ⟨Nat.zero_le _, Nat.zero_le _⟩ (Nat.le_of_ble_eq_true rfl) rfl dX8_verdict_2 h (fun r1 σ2 h => ?_)
  refine g_istore_n C [some (.ref (ad 0)), some (.int a0), some (.int r1)] dX8_verdict_5 (by decide) rfl ?_
  refine g_iload_n C dX8_verdict_6 rfl ?_
  refine g_if_eq C 14 dX8_verdict_7 (by decide) (fun c7 => ?_) (fun c7 => ?_)
  · have h := h.1 c7
    refine g_aload_n C dX8_verdict_14 rfl ?_
    refine fget_0_7_X8_51 C rfl dX8_verdict_15 ?_
    refine g_iload_n C dX8_verdict_18 rfl ?_
    refine g_callVi C 6 [.int a0] (c_X7_verdictOf l D cy ad b0 C.A a0) cal_X7_verdictOf mw_690 (by decide) rfl rfl ⟨Nat.le_of_ble_eq_true rfl, Nat.le_of_ble_eq_true rfl⟩ ⟨rfl, rfl⟩ ⟨Nat.zero_le _, Nat.zero_le _⟩ (Nat.le_of_ble_eq_true rfl) rfl dX8_verdict_19 h (fun r3 σ4 h => ?_)
    exact g_iret C dX8_verdict_22 h
  · have h := h.2 c7
    refine g_iload_n C dX8_verdict_10 rfl ?_
    refine g_goto C 22 dX8_verdict_11 (by decide) ?_
    exact g_iret C dX8_verdict_22 h
def rm_X8_far : Room := { frames := 2, cells := 0, slots := 0, locals := 43 }
def wp_X8_far (a0 : Int32) (a1 : Int32) (σ : Sg) (Q : Int32 → Sg → Prop) : Prop :=
  wp_X8_refusalOfState a0 σ (fun r1 σ2 => ((r1 = (nI 0) → wp_X8_isVerdict a1 σ2 (fun r3 σ4 => ((r3 = (nI 0) → Q (-2 : Int32) σ4) ∧ (¬ r3 = (nI 0) → wp_X7_distance a0 a1 σ4 (fun r5 σ6 => Q r5 σ6))))) ∧ (¬ r1 = (nI 0) → Q r1 σ2)))
set_option maxHeartbeats 4000000 in
set_option maxRecDepth 100000 in
theorem c_X8_far (l : Launch) (D : va_G) (cy : Nat → ClassId) (ad : Nat → Nat) (b0 : Nat) (hA : AdOk ad b0) (a0 : Int32) (a1 : Int32) : Cti l D cy ad b0 yX8_far cX8_far 4 (some .int) rm_X8_far [.ref (ad 0), .int a0, .int a1] (fun σ Q => wp_X8_far a0 a1 σ Q) := by
  intro σ Q h
  refine g_enter hA rfl (Nat.le_of_ble_eq_true rfl) [some (.ref (ad 0)), some (.int a0), some (.int a1), none] rfl ?_
  intro p e s m args below meth c C
  refine g_aload_n C dX8_far_0 rfl ?_
  refine g_iload_n C dX8_far_1 rfl ?_
  refine g_callVi C 0 [.int a0] (c_X8_refusalOfState l D cy ad b0 C.A a0) cal_X8_refusalOfState mw_686 (by decide) rfl rfl ⟨Nat.le_of_ble_eq_true rfl, Nat.le_of_ble_eq_true rfl⟩ ⟨rfl, rfl⟩ ⟨Nat.zero_le _, Nat.zero_le _⟩ (Nat.le_of_ble_eq_true rfl) rfl dX8_far_2 h (fun r1 σ2 h => ?_)
  refine g_istore_n C [some (.ref (ad 0)), some (.int a0), some (.int a1), some (.int r1)] dX8_far_5 (by decide) rfl ?_
  refine g_iload_n C dX8_far_6 rfl ?_
  refine g_if_eq C 12 dX8_far_7 (by decide) (fun c7 => ?_) (fun c7 => ?_)
  · have h := h.1 c7
    refine g_iload_n C dX8_far_12 rfl ?_
    refine g_callSi C [.int a1] (c_X8_isVerdict l D cy ad b0 C.A a1) cal_X8_isVerdict mw_699 rfl ⟨Nat.le_of_ble_eq_true rfl, Nat.le_of_ble_eq_true rfl⟩ ⟨rfl, rfl⟩ ⟨Nat.zero_le _, Nat.zero_le _⟩ (Nat.le_of_ble_eq_true rfl) rfl dX8_far_13 h (fun r3 σ4 h => ?_)
    refine g_if_eq C 31 dX8_far_16 (by decide) (fun c16 => ?_) (fun c16 => ?_)
    · have h := h.1 c16
      refine g_bipush C dX8_far_31 kb_m2 ?_
      exact g_iret C dX8_far_33 h
    · have h := h.2 c16
      refine g_aload_n C dX8_far_19 rfl ?_
      refine fget_0_7_X8_51 C rfl dX8_far_20 ?_
      refine g_iload_n C dX8_far_23 rfl ?_
      refine g_iload_n C dX8_far_24 rfl ?_
      refine g_callVi C 6 [.int a0, .int a1] (c_X7_distance l D cy ad b0 C.A a0 a1) cal_X7_distance mw_702 (by decide) rfl rfl ⟨Nat.le_of_ble_eq_true rfl, Nat.le_of_ble_eq_true rfl⟩ ⟨rfl, rfl⟩ ⟨Nat.zero_le _, Nat.zero_le _⟩ (Nat.le_of_ble_eq_true rfl) rfl dX8_far_25 h (fun r5 σ6 h => ?_)
      refine g_goto C 33 dX8_far_28 (by decide) ?_
      exact g_iret C dX8_far_33 h
  · have h := h.2 c7
    refine g_iload_n C dX8_far_10 rfl ?_
    exact g_iret C dX8_far_11 h
def rm_X8_toward : Room := { frames := 4, cells := 0, slots := 0, locals := 90 }
def wp_X8_toward (a0 : Int32) (a1 : Int32) (σ : Sg) (Q : Int32 → Sg → Prop) : Prop :=
  wp_X8_refusalOfState a0 σ (fun r1 σ2 => ((r1 = (nI 0) → wp_X8_isVerdict a1 σ2 (fun r3 σ4 => ((r3 = (nI 0) → Q (-2 : Int32) σ4) ∧ (¬ r3 = (nI 0) → wp_X7_firstStep a0 a1 σ4 (fun r5 σ6 => Q r5 σ6))))) ∧ (¬ r1 = (nI 0) → Q r1 σ2)))
set_option maxHeartbeats 4000000 in
set_option maxRecDepth 100000 in
theorem c_X8_toward (l : Launch) (D : va_G) (cy : Nat → ClassId) (ad : Nat → Nat) (b0 : Nat) (hA : AdOk ad b0) (a0 : Int32) (a1 : Int32) : Cti l D cy ad b0 yX8_toward cX8_toward 4 (some .int) rm_X8_toward [.ref (ad 0), .int a0, .int a1] (fun σ Q => wp_X8_toward a0 a1 σ Q) := by
  intro σ Q h
  refine g_enter hA rfl (Nat.le_of_ble_eq_true rfl) [some (.ref (ad 0)), some (.int a0), some (.int a1), none] rfl ?_
  intro p e s m args below meth c C
  refine g_aload_n C dX8_toward_0 rfl ?_
  refine g_iload_n C dX8_toward_1 rfl ?_
  refine g_callVi C 0 [.int a0] (c_X8_refusalOfState l D cy ad b0 C.A a0) cal_X8_refusalOfState mw_686 (by decide) rfl rfl ⟨Nat.le_of_ble_eq_true rfl, Nat.le_of_ble_eq_true rfl⟩ ⟨rfl, rfl⟩ ⟨Nat.zero_le _, Nat.zero_le _⟩ (Nat.le_of_ble_eq_true rfl) rfl dX8_toward_2 h (fun r1 σ2 h => ?_)
  refine g_istore_n C [some (.ref (ad 0)), some (.int a0), some (.int a1), some (.int r1)] dX8_toward_5 (by decide) rfl ?_
  refine g_iload_n C dX8_toward_6 rfl ?_
  refine g_if_eq C 12 dX8_toward_7 (by decide) (fun c7 => ?_) (fun c7 => ?_)
  · have h := h.1 c7
    refine g_iload_n C dX8_toward_12 rfl ?_
    refine g_callSi C [.int a1] (c_X8_isVerdict l D cy ad b0 C.A a1) cal_X8_isVerdict mw_699 rfl ⟨Nat.le_of_ble_eq_true rfl, Nat.le_of_ble_eq_true rfl⟩ ⟨rfl, rfl⟩ ⟨Nat.zero_le _, Nat.zero_le _⟩ (Nat.le_of_ble_eq_true rfl) rfl dX8_toward_13 h (fun r3 σ4 h => ?_)
    refine g_if_eq C 31 dX8_toward_16 (by decide) (fun c16 => ?_) (fun c16 => ?_)
    · have h := h.1 c16
      refine g_bipush C dX8_toward_31 kb_m2 ?_
      exact g_iret C dX8_toward_33 h
    · have h := h.2 c16
      refine g_aload_n C dX8_toward_19 rfl ?_
      refine fget_0_7_X8_51 C rfl dX8_toward_20 ?_
      refine g_iload_n C dX8_toward_23 rfl ?_
      refine g_iload_n C dX8_toward_24 rfl ?_
      refine g_callVi C 6 [.int a0, .int a1] (c_X7_firstStep l D cy ad b0 C.A a0 a1) cal_X7_firstStep mw_715 (by decide) rfl rfl ⟨Nat.le_of_ble_eq_true rfl, Nat.le_of_ble_eq_true rfl⟩ ⟨rfl, rfl⟩ ⟨Nat.zero_le _, Nat.zero_le _⟩ (Nat.le_of_ble_eq_true rfl) rfl dX8_toward_25 h (fun r5 σ6 h => ?_)
      refine g_goto C 33 dX8_toward_28 (by decide) ?_
      exact g_iret C dX8_toward_33 h
  · have h := h.2 c7
    refine g_iload_n C dX8_toward_10 rfl ?_
    exact g_iret C dX8_toward_11 h
def rm_X8_runs : Room := { frames := 2, cells := 0, slots := 0, locals := 43 }
def wp_X8_runs (a0 : Int32) (a1 : Int32) (σ : Sg) (Q : Int64 → Sg → Prop) : Prop :=
  wp_X8_refusalOfState a0 σ (fun r1 σ2 => ((r1 = (nI 0) → wp_X8_isRow a1 σ2 (fun r3 σ4 => ((r3 = (nI 0) → Q (-2 : Int64) σ4) ∧ (¬ r3 = (nI 0) → wp_X7_waysOf a0 a1 σ4 (fun r5 σ6 => Q r5 σ6))))) ∧ (¬ r1 = (nI 0) → Q (Int32.toInt64 r1) σ2)))
set_option maxHeartbeats 4000000 in
set_option maxRecDepth 100000 in
theorem c_X8_runs (l : Launch) (D : va_G) (cy : Nat → ClassId) (ad : Nat → Nat) (b0 : Nat) (hA : AdOk ad b0) (a0 : Int32) (a1 : Int32) : Ctl l D cy ad b0 yX8_runs cX8_runs 4 (some .long) rm_X8_runs [.ref (ad 0), .int a0, .int a1] (fun σ Q => wp_X8_runs a0 a1 σ Q) := by
  intro σ Q h
  refine g_enter hA rfl (Nat.le_of_ble_eq_true rfl) [some (.ref (ad 0)), some (.int a0), some (.int a1), none] rfl ?_
  intro p e s m args below meth c C
  refine g_aload_n C dX8_runs_0 rfl ?_
  refine g_iload_n C dX8_runs_1 rfl ?_
  refine g_callVi C 0 [.int a0] (c_X8_refusalOfState l D cy ad b0 C.A a0) cal_X8_refusalOfState mw_686 (by decide) rfl rfl ⟨Nat.le_of_ble_eq_true rfl, Nat.le_of_ble_eq_true rfl⟩ ⟨rfl, rfl⟩ ⟨Nat.zero_le _, Nat.zero_le _⟩ (Nat.le_of_ble_eq_true rfl) rfl dX8_runs_2 h (fun r1 σ2 h => ?_)
  refine g_istore_n C [some (.ref (ad 0)), some (.int a0), some (.int a1), some (.int r1)] dX8_runs_5 (by decide) rfl ?_
  refine g_iload_n C dX8_runs_6 rfl ?_
  refine g_if_eq C 13 dX8_runs_7 (by decide) (fun c7 => ?_) (fun c7 => ?_)
  · have h := h.1 c7
    refine g_iload_n C dX8_runs_13 rfl ?_
    refine g_callSi C [.int a1] (c_X8_isRow l D cy ad b0 C.A a1) cal_X8_isRow mw_729 rfl ⟨Nat.le_of_ble_eq_true rfl, Nat.le_of_ble_eq_true rfl⟩ ⟨rfl, rfl⟩ ⟨Nat.zero_le _, Nat.zero_le _⟩ (Nat.le_of_ble_eq_true rfl) rfl dX8_runs_14 h (fun r3 σ4 h => ?_)
    refine g_if_eq C 32 dX8_runs_17 (by decide) (fun c17 => ?_) (fun c17 => ?_)
    · have h := h.1 c17
      refine g_ldc2 C (v := (-2 : Int64)) mw_728 dX8_runs_32 ?_
      exact g_lret C dX8_runs_35 h
    · have h := h.2 c17
      refine g_aload_n C dX8_runs_20 rfl ?_
      refine fget_0_7_X8_51 C rfl dX8_runs_21 ?_
      refine g_iload_n C dX8_runs_24 rfl ?_
      refine g_iload_n C dX8_runs_25 rfl ?_
      refine g_callVl C 6 [.int a0, .int a1] (c_X7_waysOf l D cy ad b0 C.A a0 a1) cal_X7_waysOf mw_732 (by decide) rfl rfl ⟨Nat.le_of_ble_eq_true rfl, Nat.le_of_ble_eq_true rfl⟩ ⟨rfl, rfl⟩ ⟨Nat.zero_le _, Nat.zero_le _⟩ (Nat.le_of_ble_eq_true rfl) rfl dX8_runs_26 h (fun r5 σ6 h => ?_)
      refine g_goto C 35 dX8_runs_29 (by decide) ?_
      exact g_lret C dX8_runs_35 h
  · have h := h.2 c7
    refine g_iload_n C dX8_runs_10 rfl ?_
    refine g_i2l C dX8_runs_11 ?_
    exact g_lret C dX8_runs_12 h
def rm_X8_run : Room := { frames := 4, cells := 0, slots := 0, locals := 92 }
def wp_X8_run (a0 : Int32) (a1 : Int32) (a2 : Int32) (σ : Sg) (Q : Int32 → Sg → Prop) : Prop :=
  wp_X8_refusalOfState a0 σ (fun r1 σ2 => ((r1 = (nI 0) → wp_X8_isRow a1 σ2 (fun r3 σ4 => ((r3 = (nI 0) → Q (-2 : Int32) σ4) ∧ (¬ r3 = (nI 0) → wp_X7_eventOfFirstRow a0 a1 a2 σ4 (fun r5 σ6 => Q r5 σ6))))) ∧ (¬ r1 = (nI 0) → Q r1 σ2)))
set_option maxHeartbeats 4000000 in
set_option maxRecDepth 100000 in
theorem c_X8_run (l : Launch) (D : va_G) (cy : Nat → ClassId) (ad : Nat → Nat) (b0 : Nat) (hA : AdOk ad b0) (a0 : Int32) (a1 : Int32) (a2 : Int32) : Cti l D cy ad b0 yX8_run cX8_run 5 (some .int) rm_X8_run [.ref (ad 0), .int a0, .int a1, .int a2] (fun σ Q => wp_X8_run a0 a1 a2 σ Q) := by
  intro σ Q h
  refine g_enter hA rfl (Nat.le_of_ble_eq_true rfl) [some (.ref (ad 0)), some (.int a0), some (.int a1), some (.int a2), none] rfl ?_
  intro p e s m args below meth c C
  refine g_aload_n C dX8_run_0 rfl ?_
  refine g_iload_n C dX8_run_1 rfl ?_
  refine g_callVi C 0 [.int a0] (c_X8_refusalOfState l D cy ad b0 C.A a0) cal_X8_refusalOfState mw_686 (by decide) rfl rfl ⟨Nat.le_of_ble_eq_true rfl, Nat.le_of_ble_eq_true rfl⟩ ⟨rfl, rfl⟩ ⟨Nat.zero_le _, Nat.zero_le _⟩ (Nat.le_of_ble_eq_true rfl) rfl dX8_run_2 h (fun r1 σ2 h => ?_)
  refine g_istore C [some (.ref (ad 0)), some (.int a0), some (.int a1), some (.int a2), some (.int r1)] dX8_run_5 (by decide) rfl ?_
  refine g_iload C dX8_run_7 rfl ?_
  refine g_if_eq C 15 dX8_run_9 (by decide) (fun c9 => ?_) (fun c9 => ?_)
  · have h := h.1 c9
    refine g_iload_n C dX8_run_15 rfl ?_
    refine g_callSi C [.int a1] (c_X8_isRow l D cy ad b0 C.A a1) cal_X8_isRow mw_729 rfl ⟨Nat.le_of_ble_eq_true rfl, Nat.le_of_ble_eq_true rfl⟩ ⟨rfl, rfl⟩ ⟨Nat.zero_le _, Nat.zero_le _⟩ (Nat.le_of_ble_eq_true rfl) rfl dX8_run_16 h (fun r3 σ4 h => ?_)
    refine g_if_eq C 35 dX8_run_19 (by decide) (fun c19 => ?_) (fun c19 => ?_)
    · have h := h.1 c19
      refine g_bipush C dX8_run_35 kb_m2 ?_
      exact g_iret C dX8_run_37 h
    · have h := h.2 c19
      refine g_aload_n C dX8_run_22 rfl ?_
      refine fget_0_7_X8_51 C rfl dX8_run_23 ?_
      refine g_iload_n C dX8_run_26 rfl ?_
      refine g_iload_n C dX8_run_27 rfl ?_
      refine g_iload_n C dX8_run_28 rfl ?_
      refine g_callVi C 6 [.int a0, .int a1, .int a2] (c_X7_eventOfFirstRow l D cy ad b0 C.A a0 a1 a2) cal_X7_eventOfFirstRow mw_749 (by decide) rfl rfl ⟨Nat.le_of_ble_eq_true rfl, Nat.le_of_ble_eq_true rfl⟩ ⟨rfl, rfl⟩ ⟨Nat.zero_le _, Nat.zero_le _⟩ (Nat.le_of_ble_eq_true rfl) rfl dX8_run_29 h (fun r5 σ6 h => ?_)
      refine g_goto C 37 dX8_run_32 (by decide) ?_
      exact g_iret C dX8_run_37 h
  · have h := h.2 c9
    refine g_iload C dX8_run_12 rfl ?_
    exact g_iret C dX8_run_14 h
def rm_X8_event : Room := { frames := 6, cells := 0, slots := 0, locals := 139 }
def wp_X8_event (a0 : Int32) (a1 : Int32) (σ : Sg) (Q : Int32 → Sg → Prop) : Prop :=
  wp_X7_isThere σ (fun r1 σ2 => ((¬ r1 = (nI 0) → wp_X8_isEvent a0 σ2 (fun r3 σ4 => ((r3 = (nI 0) → Q (-1 : Int32) σ4) ∧ (¬ r3 = (nI 0) → wp_X8_isKey a1 σ4 (fun r5 σ6 => ((¬ r5 = (nI 0) → wp_X1_step a1 a0 σ6 (fun r7 σ8 => Q r7 σ8)) ∧ (r5 = (nI 0) → Q (-1 : Int32) σ6))))))) ∧ (r1 = (nI 0) → Q (-3 : Int32) σ2)))
set_option maxHeartbeats 4000000 in
set_option maxRecDepth 100000 in
theorem c_X8_event (l : Launch) (D : va_G) (cy : Nat → ClassId) (ad : Nat → Nat) (b0 : Nat) (hA : AdOk ad b0) (a0 : Int32) (a1 : Int32) : Cti l D cy ad b0 yX8_event cX8_event 3 (some .int) rm_X8_event [.ref (ad 0), .int a0, .int a1] (fun σ Q => wp_X8_event a0 a1 σ Q) := by
  intro σ Q h
  refine g_enter hA rfl (Nat.le_of_ble_eq_true rfl) [some (.ref (ad 0)), some (.int a0), some (.int a1)] rfl ?_
  intro p e s m args below meth c C
  refine g_aload_n C dX8_event_0 rfl ?_
  refine fget_0_7_X8_51 C rfl dX8_event_1 ?_
  refine g_callVi C 6 [] (c_X7_isThere l D cy ad b0 C.A) cal_X7_isThere mw_658 (by decide) rfl rfl ⟨Nat.le_of_ble_eq_true rfl, Nat.le_of_ble_eq_true rfl⟩ ⟨rfl, rfl⟩ ⟨Nat.zero_le _, Nat.zero_le _⟩ (Nat.le_of_ble_eq_true rfl) rfl dX8_event_4 h (fun r1 σ2 h => ?_)
  refine g_if_ne C 13 dX8_event_7 (by decide) (fun c7 => ?_) (fun c7 => ?_)
  · have h := h.1 c7
    refine g_iload_n C dX8_event_13 rfl ?_
    refine g_callSi C [.int a0] (c_X8_isEvent l D cy ad b0 C.A a0) cal_X8_isEvent mw_666 rfl ⟨Nat.le_of_ble_eq_true rfl, Nat.le_of_ble_eq_true rfl⟩ ⟨rfl, rfl⟩ ⟨Nat.zero_le _, Nat.zero_le _⟩ (Nat.le_of_ble_eq_true rfl) rfl dX8_event_14 h (fun r3 σ4 h => ?_)
    refine g_if_eq C 27 dX8_event_17 (by decide) (fun c17 => ?_) (fun c17 => ?_)
    · have h := h.1 c17
      refine g_iconst C dX8_event_27 kc_m1 ?_
      exact g_iret C dX8_event_28 h
    · have h := h.2 c17
      refine g_iload_n C dX8_event_20 rfl ?_
      refine g_callSi C [.int a1] (c_X8_isKey l D cy ad b0 C.A a1) cal_X8_isKey mw_766 rfl ⟨Nat.le_of_ble_eq_true rfl, Nat.le_of_ble_eq_true rfl⟩ ⟨rfl, rfl⟩ ⟨Nat.zero_le _, Nat.zero_le _⟩ (Nat.le_of_ble_eq_true rfl) rfl dX8_event_21 h (fun r5 σ6 h => ?_)
      refine g_if_ne C 29 dX8_event_24 (by decide) (fun c24 => ?_) (fun c24 => ?_)
      · have h := h.1 c24
        refine g_aload_n C dX8_event_29 rfl ?_
        refine fget_0_10_X8_68 C rfl dX8_event_30 ?_
        refine g_aload_n C dX8_event_33 rfl ?_
        refine fget_0_7_X8_51 C rfl dX8_event_34 ?_
        refine g_iload_n C dX8_event_37 rfl ?_
        refine g_iload_n C dX8_event_38 rfl ?_
        refine g_callVi C 9 [.ref (ad 6), .int a1, .int a0] (c_X1_step l D cy ad b0 C.A a1 a0) cal_X1_step mw_769 (by decide) rfl rfl ⟨Nat.le_of_ble_eq_true rfl, Nat.le_of_ble_eq_true rfl⟩ ⟨rfl, rfl⟩ ⟨Nat.zero_le _, Nat.zero_le _⟩ (Nat.le_of_ble_eq_true rfl) rfl dX8_event_39 h (fun r7 σ8 h => ?_)
        exact g_iret C dX8_event_42 h
      · have h := h.2 c24
        refine g_iconst C dX8_event_27 kc_m1 ?_
        exact g_iret C dX8_event_28 h
  · have h := h.2 c7
    refine g_bipush C dX8_event_10 kb_m3 ?_
    exact g_iret C dX8_event_12 h
def rm_X8_lost : Room := { frames := 5, cells := 0, slots := 0, locals := 123 }
def wp_X8_lost (a0 : Int32) (a1 : Int32) (σ : Sg) (Q : Int32 → Sg → Prop) : Prop :=
  wp_X8_refusalOfKey a0 σ (fun r1 σ2 => ((r1 = (nI 0) → ((a1 < (nI 1) → Q (-2 : Int32) σ2) ∧ (¬ a1 < (nI 1) → ((a1 ≤ (nI 100) → wp_X1_lose a0 a1 σ2 (fun r3 σ4 => Q r3 σ4)) ∧ (¬ a1 ≤ (nI 100) → Q (-2 : Int32) σ2))))) ∧ (¬ r1 = (nI 0) → Q r1 σ2)))
set_option maxHeartbeats 4000000 in
set_option maxRecDepth 100000 in
theorem c_X8_lost (l : Launch) (D : va_G) (cy : Nat → ClassId) (ad : Nat → Nat) (b0 : Nat) (hA : AdOk ad b0) (a0 : Int32) (a1 : Int32) : Cti l D cy ad b0 yX8_lost cX8_lost 4 (some .int) rm_X8_lost [.ref (ad 0), .int a0, .int a1] (fun σ Q => wp_X8_lost a0 a1 σ Q) := by
  intro σ Q h
  refine g_enter hA rfl (Nat.le_of_ble_eq_true rfl) [some (.ref (ad 0)), some (.int a0), some (.int a1), none] rfl ?_
  intro p e s m args below meth c C
  refine g_aload_n C dX8_lost_0 rfl ?_
  refine g_iload_n C dX8_lost_1 rfl ?_
  refine g_callVi C 0 [.int a0] (c_X8_refusalOfKey l D cy ad b0 C.A a0) cal_X8_refusalOfKey mw_812 (by decide) rfl rfl ⟨Nat.le_of_ble_eq_true rfl, Nat.le_of_ble_eq_true rfl⟩ ⟨rfl, rfl⟩ ⟨Nat.zero_le _, Nat.zero_le _⟩ (Nat.le_of_ble_eq_true rfl) rfl dX8_lost_2 h (fun r1 σ2 h => ?_)
  refine g_istore_n C [some (.ref (ad 0)), some (.int a0), some (.int a1), some (.int r1)] dX8_lost_5 (by decide) rfl ?_
  refine g_iload_n C dX8_lost_6 rfl ?_
  refine g_if_eq C 12 dX8_lost_7 (by decide) (fun c7 => ?_) (fun c7 => ?_)
  · have h := h.1 c7
    refine g_iload_n C dX8_lost_12 rfl ?_
    refine g_iconst C dX8_lost_13 kc_1 ?_
    refine g_icmp_lt C 23 dX8_lost_14 (by decide) (fun c14 => ?_) (fun c14 => ?_)
    · have h := h.1 c14
      refine g_bipush C dX8_lost_23 kb_m2 ?_
      exact g_iret C dX8_lost_25 h
    · have h := h.2 c14
      refine g_iload_n C dX8_lost_17 rfl ?_
      refine g_bipush C dX8_lost_18 kb_100 ?_
      refine g_icmp_le C 26 dX8_lost_20 (by decide) (fun c20 => ?_) (fun c20 => ?_)
      · have h := h.1 c20
        refine g_aload_n C dX8_lost_26 rfl ?_
        refine fget_0_10_X8_68 C rfl dX8_lost_27 ?_
        refine g_aload_n C dX8_lost_30 rfl ?_
        refine fget_0_7_X8_51 C rfl dX8_lost_31 ?_
        refine g_iload_n C dX8_lost_34 rfl ?_
        refine g_iload_n C dX8_lost_35 rfl ?_
        refine g_callVi C 9 [.ref (ad 6), .int a0, .int a1] (c_X1_lose l D cy ad b0 C.A a0 a1) cal_X1_lose mw_816 (by decide) rfl rfl ⟨Nat.le_of_ble_eq_true rfl, Nat.le_of_ble_eq_true rfl⟩ ⟨rfl, rfl⟩ ⟨Nat.zero_le _, Nat.zero_le _⟩ (Nat.le_of_ble_eq_true rfl) rfl dX8_lost_36 h (fun r3 σ4 h => ?_)
        exact g_iret C dX8_lost_39 h
      · have h := h.2 c20
        refine g_bipush C dX8_lost_23 kb_m2 ?_
        exact g_iret C dX8_lost_25 h
  · have h := h.2 c7
    refine g_iload_n C dX8_lost_10 rfl ?_
    exact g_iret C dX8_lost_11 h
def rm_X8_told : Room := { frames := 4, cells := 0, slots := 0, locals := 93 }
def wp_X8_told (a0 : Int32) (σ : Sg) (Q : Int32 → Sg → Prop) : Prop :=
  wp_X8_refusalOfKey a0 σ (fun r1 σ2 => ((r1 = (nI 0) → wp_X1_verdictOf a0 σ2 (fun r3 σ4 => Q r3 σ4)) ∧ (¬ r1 = (nI 0) → Q r1 σ2)))
set_option maxHeartbeats 4000000 in
set_option maxRecDepth 100000 in
theorem c_X8_told (l : Launch) (D : va_G) (cy : Nat → ClassId) (ad : Nat → Nat) (b0 : Nat) (hA : AdOk ad b0) (a0 : Int32) : Cti l D cy ad b0 yX8_told cX8_told 3 (some .int) rm_X8_told [.ref (ad 0), .int a0] (fun σ Q => wp_X8_told a0 σ Q) := by
  intro σ Q h
  refine g_enter hA rfl (Nat.le_of_ble_eq_true rfl) [some (.ref (ad 0)), some (.int a0), none] rfl ?_
  intro p e s m args below meth c C
  refine g_aload_n C dX8_told_0 rfl ?_
  refine g_iload_n C dX8_told_1 rfl ?_
  refine g_callVi C 0 [.int a0] (c_X8_refusalOfKey l D cy ad b0 C.A a0) cal_X8_refusalOfKey mw_812 (by decide) rfl rfl ⟨Nat.le_of_ble_eq_true rfl, Nat.le_of_ble_eq_true rfl⟩ ⟨rfl, rfl⟩ ⟨Nat.zero_le _, Nat.zero_le _⟩ (Nat.le_of_ble_eq_true rfl) rfl dX8_told_2 h (fun r1 σ2 h => ?_)
  refine g_istore_n C [some (.ref (ad 0)), some (.int a0), some (.int r1)] dX8_told_5 (by decide) rfl ?_
  refine g_iload_n C dX8_told_6 rfl ?_
  refine g_if_eq C 14 dX8_told_7 (by decide) (fun c7 => ?_) (fun c7 => ?_)
  · have h := h.1 c7
    refine g_aload_n C dX8_told_14 rfl ?_
    refine fget_0_10_X8_68 C rfl dX8_told_15 ?_
    refine g_aload_n C dX8_told_18 rfl ?_
    refine fget_0_7_X8_51 C rfl dX8_told_19 ?_
    refine g_iload_n C dX8_told_22 rfl ?_
    refine g_callVi C 9 [.ref (ad 6), .int a0] (c_X1_verdictOf l D cy ad b0 C.A a0) cal_X1_verdictOf mw_829 (by decide) rfl rfl ⟨Nat.le_of_ble_eq_true rfl, Nat.le_of_ble_eq_true rfl⟩ ⟨rfl, rfl⟩ ⟨Nat.zero_le _, Nat.zero_le _⟩ (Nat.le_of_ble_eq_true rfl) rfl dX8_told_23 h (fun r3 σ4 h => ?_)
    exact g_iret C dX8_told_26 h
  · have h := h.2 c7
    refine g_iload_n C dX8_told_10 rfl ?_
    refine g_goto C 26 dX8_told_11 (by decide) ?_
    exact g_iret C dX8_told_26 h
def rm_X8_may : Room := { frames := 2, cells := 0, slots := 0, locals := 42 }
def wp_X8_may (a0 : Int32) (σ : Sg) (Q : Int32 → Sg → Prop) : Prop :=
  wp_X8_refusalOfKey a0 σ (fun r1 σ2 => ((r1 = (nI 0) → wp_X1_statesOf a0 σ2 (fun r3 σ4 => Q r3 σ4)) ∧ (¬ r1 = (nI 0) → Q r1 σ2)))
set_option maxHeartbeats 4000000 in
set_option maxRecDepth 100000 in
theorem c_X8_may (l : Launch) (D : va_G) (cy : Nat → ClassId) (ad : Nat → Nat) (b0 : Nat) (hA : AdOk ad b0) (a0 : Int32) : Cti l D cy ad b0 yX8_may cX8_may 3 (some .int) rm_X8_may [.ref (ad 0), .int a0] (fun σ Q => wp_X8_may a0 σ Q) := by
  intro σ Q h
  refine g_enter hA rfl (Nat.le_of_ble_eq_true rfl) [some (.ref (ad 0)), some (.int a0), none] rfl ?_
  intro p e s m args below meth c C
  refine g_aload_n C dX8_may_0 rfl ?_
  refine g_iload_n C dX8_may_1 rfl ?_
  refine g_callVi C 0 [.int a0] (c_X8_refusalOfKey l D cy ad b0 C.A a0) cal_X8_refusalOfKey mw_812 (by decide) rfl rfl ⟨Nat.le_of_ble_eq_true rfl, Nat.le_of_ble_eq_true rfl⟩ ⟨rfl, rfl⟩ ⟨Nat.zero_le _, Nat.zero_le _⟩ (Nat.le_of_ble_eq_true rfl) rfl dX8_may_2 h (fun r1 σ2 h => ?_)
  refine g_istore_n C [some (.ref (ad 0)), some (.int a0), some (.int r1)] dX8_may_5 (by decide) rfl ?_
  refine g_iload_n C dX8_may_6 rfl ?_
  refine g_if_eq C 14 dX8_may_7 (by decide) (fun c7 => ?_) (fun c7 => ?_)
  · have h := h.1 c7
    refine g_aload_n C dX8_may_14 rfl ?_
    refine fget_0_10_X8_68 C rfl dX8_may_15 ?_
    refine g_iload_n C dX8_may_18 rfl ?_
    refine g_callVi C 9 [.int a0] (c_X1_statesOf l D cy ad b0 C.A a0) cal_X1_statesOf mw_838 (by decide) rfl rfl ⟨Nat.le_of_ble_eq_true rfl, Nat.le_of_ble_eq_true rfl⟩ ⟨rfl, rfl⟩ ⟨Nat.zero_le _, Nat.zero_le _⟩ (Nat.le_of_ble_eq_true rfl) rfl dX8_may_19 h (fun r3 σ4 h => ?_)
    exact g_iret C dX8_may_22 h
  · have h := h.2 c7
    refine g_iload_n C dX8_may_10 rfl ?_
    refine g_goto C 22 dX8_may_11 (by decide) ?_
    exact g_iret C dX8_may_22 h
def rm_X8_state : Room := { frames := 2, cells := 0, slots := 0, locals := 48 }
def wp_X8_state (a0 : Int32) (a1 : Int32) (σ : Sg) (Q : Int32 → Sg → Prop) : Prop :=
  wp_X8_refusalOfKey a0 σ (fun r1 σ2 => ((r1 = (nI 0) → wp_X1_stateAt a0 a1 σ2 (fun r3 σ4 => Q r3 σ4)) ∧ (¬ r1 = (nI 0) → Q r1 σ2)))
set_option maxHeartbeats 4000000 in
set_option maxRecDepth 100000 in
theorem c_X8_state (l : Launch) (D : va_G) (cy : Nat → ClassId) (ad : Nat → Nat) (b0 : Nat) (hA : AdOk ad b0) (a0 : Int32) (a1 : Int32) : Cti l D cy ad b0 yX8_state cX8_state 4 (some .int) rm_X8_state [.ref (ad 0), .int a0, .int a1] (fun σ Q => wp_X8_state a0 a1 σ Q) := by
  intro σ Q h
  refine g_enter hA rfl (Nat.le_of_ble_eq_true rfl) [some (.ref (ad 0)), some (.int a0), some (.int a1), none] rfl ?_
  intro p e s m args below meth c C
  refine g_aload_n C dX8_state_0 rfl ?_
  refine g_iload_n C dX8_state_1 rfl ?_
  refine g_callVi C 0 [.int a0] (c_X8_refusalOfKey l D cy ad b0 C.A a0) cal_X8_refusalOfKey mw_812 (by decide) rfl rfl ⟨Nat.le_of_ble_eq_true rfl, Nat.le_of_ble_eq_true rfl⟩ ⟨rfl, rfl⟩ ⟨Nat.zero_le _, Nat.zero_le _⟩ (Nat.le_of_ble_eq_true rfl) rfl dX8_state_2 h (fun r1 σ2 h => ?_)
  refine g_istore_n C [some (.ref (ad 0)), some (.int a0), some (.int a1), some (.int r1)] dX8_state_5 (by decide) rfl ?_
  refine g_iload_n C dX8_state_6 rfl ?_
  refine g_if_eq C 14 dX8_state_7 (by decide) (fun c7 => ?_) (fun c7 => ?_)
  · have h := h.1 c7
    refine g_aload_n C dX8_state_14 rfl ?_
    refine fget_0_10_X8_68 C rfl dX8_state_15 ?_
    refine g_iload_n C dX8_state_18 rfl ?_
    refine g_iload_n C dX8_state_19 rfl ?_
    refine g_callVi C 9 [.int a0, .int a1] (c_X1_stateAt l D cy ad b0 C.A a0 a1) cal_X1_stateAt mw_857 (by decide) rfl rfl ⟨Nat.le_of_ble_eq_true rfl, Nat.le_of_ble_eq_true rfl⟩ ⟨rfl, rfl⟩ ⟨Nat.zero_le _, Nat.zero_le _⟩ (Nat.le_of_ble_eq_true rfl) rfl dX8_state_20 h (fun r3 σ4 h => ?_)
    exact g_iret C dX8_state_23 h
  · have h := h.2 c7
    refine g_iload_n C dX8_state_10 rfl ?_
    refine g_goto C 23 dX8_state_11 (by decide) ?_
    exact g_iret C dX8_state_23 h
def rm_X8_events : Room := { frames := 2, cells := 0, slots := 0, locals := 42 }
def wp_X8_events (a0 : Int32) (σ : Sg) (Q : Int32 → Sg → Prop) : Prop :=
  wp_X8_refusalOfKey a0 σ (fun r1 σ2 => ((r1 = (nI 0) → wp_X1_eventsOf a0 σ2 (fun r3 σ4 => Q r3 σ4)) ∧ (¬ r1 = (nI 0) → Q r1 σ2)))
set_option maxHeartbeats 4000000 in
set_option maxRecDepth 100000 in
theorem c_X8_events (l : Launch) (D : va_G) (cy : Nat → ClassId) (ad : Nat → Nat) (b0 : Nat) (hA : AdOk ad b0) (a0 : Int32) : Cti l D cy ad b0 yX8_events cX8_events 3 (some .int) rm_X8_events [.ref (ad 0), .int a0] (fun σ Q => wp_X8_events a0 σ Q) := by
  intro σ Q h
  refine g_enter hA rfl (Nat.le_of_ble_eq_true rfl) [some (.ref (ad 0)), some (.int a0), none] rfl ?_
  intro p e s m args below meth c C
  refine g_aload_n C dX8_events_0 rfl ?_
  refine g_iload_n C dX8_events_1 rfl ?_
  refine g_callVi C 0 [.int a0] (c_X8_refusalOfKey l D cy ad b0 C.A a0) cal_X8_refusalOfKey mw_812 (by decide) rfl rfl ⟨Nat.le_of_ble_eq_true rfl, Nat.le_of_ble_eq_true rfl⟩ ⟨rfl, rfl⟩ ⟨Nat.zero_le _, Nat.zero_le _⟩ (Nat.le_of_ble_eq_true rfl) rfl dX8_events_2 h (fun r1 σ2 h => ?_)
  refine g_istore_n C [some (.ref (ad 0)), some (.int a0), some (.int r1)] dX8_events_5 (by decide) rfl ?_
  refine g_iload_n C dX8_events_6 rfl ?_
  refine g_if_eq C 14 dX8_events_7 (by decide) (fun c7 => ?_) (fun c7 => ?_)
  · have h := h.1 c7
    refine g_aload_n C dX8_events_14 rfl ?_
    refine fget_0_10_X8_68 C rfl dX8_events_15 ?_
    refine g_iload_n C dX8_events_18 rfl ?_
    refine g_callVi C 9 [.int a0] (c_X1_eventsOf l D cy ad b0 C.A a0) cal_X1_eventsOf mw_869 (by decide) rfl rfl ⟨Nat.le_of_ble_eq_true rfl, Nat.le_of_ble_eq_true rfl⟩ ⟨rfl, rfl⟩ ⟨Nat.zero_le _, Nat.zero_le _⟩ (Nat.le_of_ble_eq_true rfl) rfl dX8_events_19 h (fun r3 σ4 h => ?_)
    exact g_iret C dX8_events_22 h
  · have h := h.2 c7
    refine g_iload_n C dX8_events_10 rfl ?_
    refine g_goto C 22 dX8_events_11 (by decide) ?_
    exact g_iret C dX8_events_22 h
def rm_X8_anew : Room := { frames := 4, cells := 0, slots := 0, locals := 93 }
def wp_X8_anew (a0 : Int32) (σ : Sg) (Q : Int32 → Sg → Prop) : Prop :=
  wp_X8_refusalOfKey a0 σ (fun r1 σ2 => ((r1 = (nI 0) → wp_X1_verdictOf a0 σ2 (fun r3 σ4 => wp_X1_restart_ a0 σ4 (fun σ5 => Q r3 σ5))) ∧ (¬ r1 = (nI 0) → Q r1 σ2)))
set_option maxHeartbeats 4000000 in
set_option maxRecDepth 100000 in
theorem c_X8_anew (l : Launch) (D : va_G) (cy : Nat → ClassId) (ad : Nat → Nat) (b0 : Nat) (hA : AdOk ad b0) (a0 : Int32) : Cti l D cy ad b0 yX8_anew cX8_anew 4 (some .int) rm_X8_anew [.ref (ad 0), .int a0] (fun σ Q => wp_X8_anew a0 σ Q) := by
  intro σ Q h
  refine g_enter hA rfl (Nat.le_of_ble_eq_true rfl) [some (.ref (ad 0)), some (.int a0), none, none] rfl ?_
  intro p e s m args below meth c C
  refine g_aload_n C dX8_anew_0 rfl ?_
  refine g_iload_n C dX8_anew_1 rfl ?_
  refine g_callVi C 0 [.int a0] (c_X8_refusalOfKey l D cy ad b0 C.A a0) cal_X8_refusalOfKey mw_812 (by decide) rfl rfl ⟨Nat.le_of_ble_eq_true rfl, Nat.le_of_ble_eq_true rfl⟩ ⟨rfl, rfl⟩ ⟨Nat.zero_le _, Nat.zero_le _⟩ (Nat.le_of_ble_eq_true rfl) rfl dX8_anew_2 h (fun r1 σ2 h => ?_)
  refine g_istore_n C [some (.ref (ad 0)), some (.int a0), some (.int r1), none] dX8_anew_5 (by decide) rfl ?_
  refine g_iload_n C dX8_anew_6 rfl ?_
  refine g_if_eq C 12 dX8_anew_7 (by decide) (fun c7 => ?_) (fun c7 => ?_)
  · have h := h.1 c7
    refine g_aload_n C dX8_anew_12 rfl ?_
    refine fget_0_10_X8_68 C rfl dX8_anew_13 ?_
    refine g_aload_n C dX8_anew_16 rfl ?_
    refine fget_0_7_X8_51 C rfl dX8_anew_17 ?_
    refine g_iload_n C dX8_anew_20 rfl ?_
    refine g_callVi C 9 [.ref (ad 6), .int a0] (c_X1_verdictOf l D cy ad b0 C.A a0) cal_X1_verdictOf mw_829 (by decide) rfl rfl ⟨Nat.le_of_ble_eq_true rfl, Nat.le_of_ble_eq_true rfl⟩ ⟨rfl, rfl⟩ ⟨Nat.zero_le _, Nat.zero_le _⟩ (Nat.le_of_ble_eq_true rfl) rfl dX8_anew_21 h (fun r3 σ4 h => ?_)
    refine g_istore_n C [some (.ref (ad 0)), some (.int a0), some (.int r1), some (.int r3)] dX8_anew_24 (by decide) rfl ?_
    refine g_aload_n C dX8_anew_25 rfl ?_
    refine fget_0_10_X8_68 C rfl dX8_anew_26 ?_
    refine g_iload_n C dX8_anew_29 rfl ?_
    refine g_callVv C 9 [.int a0] (c_X1_restart_ l D cy ad b0 C.A a0) cal_X1_restart_ mw_881 (by decide) rfl rfl ⟨Nat.le_of_ble_eq_true rfl, Nat.le_of_ble_eq_true rfl⟩ ⟨rfl, rfl⟩ ⟨Nat.zero_le _, Nat.zero_le _⟩ (Nat.le_of_ble_eq_true rfl) rfl dX8_anew_30 h (fun σ5 h => ?_)
    refine g_iload_n C dX8_anew_33 rfl ?_
    exact g_iret C dX8_anew_34 h
  · have h := h.2 c7
    refine g_iload_n C dX8_anew_10 rfl ?_
    exact g_iret C dX8_anew_11 h
def rm_X8_keep : Room := { frames := 2, cells := 0, slots := 0, locals := 81 }
def wp_X8_keep (σ : Sg) (Q : Int32 → Sg → Prop) : Prop :=
  wp_X7_isThere σ (fun r1 σ2 => ((¬ r1 = (nI 0) → wp_X7_copyFromk σ2 (fun σ3 => wp_X7_sizek σ3 (fun r4 σ5 => Q r4 σ5))) ∧ (r1 = (nI 0) → Q (-3 : Int32) σ2)))
set_option maxHeartbeats 4000000 in
set_option maxRecDepth 100000 in
theorem c_X8_keep (l : Launch) (D : va_G) (cy : Nat → ClassId) (ad : Nat → Nat) (b0 : Nat) (hA : AdOk ad b0) : Cti l D cy ad b0 yX8_keep cX8_keep 1 (some .int) rm_X8_keep [.ref (ad 0)] (fun σ Q => wp_X8_keep σ Q) := by
  intro σ Q h
  refine g_enter hA rfl (Nat.le_of_ble_eq_true rfl) [some (.ref (ad 0))] rfl ?_
  intro p e s m args below meth c C
  refine g_aload_n C dX8_keep_0 rfl ?_
  refine fget_0_7_X8_51 C rfl dX8_keep_1 ?_
  refine g_callVi C 6 [] (c_X7_isThere l D cy ad b0 C.A) cal_X7_isThere mw_658 (by decide) rfl rfl ⟨Nat.le_of_ble_eq_true rfl, Nat.le_of_ble_eq_true rfl⟩ ⟨rfl, rfl⟩ ⟨Nat.zero_le _, Nat.zero_le _⟩ (Nat.le_of_ble_eq_true rfl) rfl dX8_keep_4 h (fun r1 σ2 h => ?_)
  refine g_if_ne C 13 dX8_keep_7 (by decide) (fun c7 => ?_) (fun c7 => ?_)
  · have h := h.1 c7
    refine g_aload_n C dX8_keep_13 rfl ?_
    refine fget_0_8_X8_55 C rfl dX8_keep_14 ?_
    refine g_aload_n C dX8_keep_17 rfl ?_
    refine fget_0_7_X8_51 C rfl dX8_keep_18 ?_
    refine g_callVv C 7 [.ref (ad 6)] (c_X7_copyFromk l D cy ad b0 C.A) cal_X7_copyFrom mw_890 (by decide) rfl rfl ⟨Nat.le_of_ble_eq_true rfl, Nat.le_of_ble_eq_true rfl⟩ ⟨rfl, rfl⟩ ⟨Nat.zero_le _, Nat.zero_le _⟩ (Nat.le_of_ble_eq_true rfl) rfl dX8_keep_21 h (fun σ3 h => ?_)
    refine g_aload_n C dX8_keep_24 rfl ?_
    refine fget_0_8_X8_55 C rfl dX8_keep_25 ?_
    refine g_callVi C 7 [] (c_X7_sizek l D cy ad b0 C.A) cal_X7_size mw_528 (by decide) rfl rfl ⟨Nat.le_of_ble_eq_true rfl, Nat.le_of_ble_eq_true rfl⟩ ⟨rfl, rfl⟩ ⟨Nat.zero_le _, Nat.zero_le _⟩ (Nat.le_of_ble_eq_true rfl) rfl dX8_keep_28 h (fun r4 σ5 h => ?_)
    exact g_iret C dX8_keep_31 h
  · have h := h.2 c7
    refine g_bipush C dX8_keep_10 kb_m3 ?_
    exact g_iret C dX8_keep_12 h
def rm_X8_against : Room := { frames := 5, cells := 0, slots := 0, locals := 115 }
def wp_X8_against (σ : Sg) (Q : Int32 → Sg → Prop) : Prop :=
  wp_X7_isThere σ (fun r1 σ2 => ((r1 = (nI 0) → Q (-3 : Int32) σ2) ∧ (¬ r1 = (nI 0) → wp_X7_isTherek σ2 (fun r3 σ4 => ((¬ r3 = (nI 0) → wp_X3_meet σ4 (fun σ5 => wp_X3_relation σ5 (fun r6 σ7 => Q r6 σ7))) ∧ (r3 = (nI 0) → Q (-3 : Int32) σ4))))))
set_option maxHeartbeats 4000000 in
set_option maxRecDepth 100000 in
theorem c_X8_against (l : Launch) (D : va_G) (cy : Nat → ClassId) (ad : Nat → Nat) (b0 : Nat) (hA : AdOk ad b0) : Cti l D cy ad b0 yX8_against cX8_against 1 (some .int) rm_X8_against [.ref (ad 0)] (fun σ Q => wp_X8_against σ Q) := by
  intro σ Q h
  refine g_enter hA rfl (Nat.le_of_ble_eq_true rfl) [some (.ref (ad 0))] rfl ?_
  intro p e s m args below meth c C
  refine g_aload_n C dX8_against_0 rfl ?_
  refine fget_0_7_X8_51 C rfl dX8_against_1 ?_
  refine g_callVi C 6 [] (c_X7_isThere l D cy ad b0 C.A) cal_X7_isThere mw_658 (by decide) rfl rfl ⟨Nat.le_of_ble_eq_true rfl, Nat.le_of_ble_eq_true rfl⟩ ⟨rfl, rfl⟩ ⟨Nat.zero_le _, Nat.zero_le _⟩ (Nat.le_of_ble_eq_true rfl) rfl dX8_against_4 h (fun r1 σ2 h => ?_)
  refine g_if_eq C 20 dX8_against_7 (by decide) (fun c7 => ?_) (fun c7 => ?_)
  · have h := h.1 c7
    refine g_bipush C dX8_against_20 kb_m3 ?_
    exact g_iret C dX8_against_22 h
  · have h := h.2 c7
    refine g_aload_n C dX8_against_10 rfl ?_
    refine fget_0_8_X8_55 C rfl dX8_against_11 ?_
    refine g_callVi C 7 [] (c_X7_isTherek l D cy ad b0 C.A) cal_X7_isThere mw_658 (by decide) rfl rfl ⟨Nat.le_of_ble_eq_true rfl, Nat.le_of_ble_eq_true rfl⟩ ⟨rfl, rfl⟩ ⟨Nat.zero_le _, Nat.zero_le _⟩ (Nat.le_of_ble_eq_true rfl) rfl dX8_against_14 h (fun r3 σ4 h => ?_)
    refine g_if_ne C 23 dX8_against_17 (by decide) (fun c17 => ?_) (fun c17 => ?_)
    · have h := h.1 c17
      refine g_aload_n C dX8_against_23 rfl ?_
      refine fget_0_9_X8_61 C rfl dX8_against_24 ?_
      refine g_aload_n C dX8_against_27 rfl ?_
      refine fget_0_7_X8_51 C rfl dX8_against_28 ?_
      refine g_aload_n C dX8_against_31 rfl ?_
      refine fget_0_8_X8_55 C rfl dX8_against_32 ?_
      refine g_callVv C 8 [.ref (ad 6), .ref (ad 7)] (c_X3_meet l D cy ad b0 C.A) cal_X3_meet mw_908 (by decide) rfl rfl ⟨Nat.le_of_ble_eq_true rfl, Nat.le_of_ble_eq_true rfl⟩ ⟨rfl, rfl⟩ ⟨Nat.zero_le _, Nat.zero_le _⟩ (Nat.le_of_ble_eq_true rfl) rfl dX8_against_35 h (fun σ5 h => ?_)
      refine g_aload_n C dX8_against_38 rfl ?_
      refine fget_0_9_X8_61 C rfl dX8_against_39 ?_
      refine g_callVi C 8 [] (c_X3_relation l D cy ad b0 C.A) cal_X3_relation mw_923 (by decide) rfl rfl ⟨Nat.le_of_ble_eq_true rfl, Nat.le_of_ble_eq_true rfl⟩ ⟨rfl, rfl⟩ ⟨Nat.zero_le _, Nat.zero_le _⟩ (Nat.le_of_ble_eq_true rfl) rfl dX8_against_42 h (fun r6 σ7 h => ?_)
      exact g_iret C dX8_against_45 h
    · have h := h.2 c17
      refine g_bipush C dX8_against_20 kb_m3 ?_
      exact g_iret C dX8_against_22 h
def rm_X8_apart : Room := { frames := 5, cells := 0, slots := 0, locals := 115 }
def wp_X8_apart (σ : Sg) (Q : Int32 → Sg → Prop) : Prop :=
  wp_X7_isThere σ (fun r1 σ2 => ((r1 = (nI 0) → Q (-3 : Int32) σ2) ∧ (¬ r1 = (nI 0) → wp_X7_isTherek σ2 (fun r3 σ4 => ((¬ r3 = (nI 0) → wp_X3_meet σ4 (fun σ5 => wp_X3_shortestApart σ5 (fun r6 σ7 => Q r6 σ7))) ∧ (r3 = (nI 0) → Q (-3 : Int32) σ4))))))
set_option maxHeartbeats 4000000 in
set_option maxRecDepth 100000 in
theorem c_X8_apart (l : Launch) (D : va_G) (cy : Nat → ClassId) (ad : Nat → Nat) (b0 : Nat) (hA : AdOk ad b0) : Cti l D cy ad b0 yX8_apart cX8_apart 1 (some .int) rm_X8_apart [.ref (ad 0)] (fun σ Q => wp_X8_apart σ Q) := by
  intro σ Q h
  refine g_enter hA rfl (Nat.le_of_ble_eq_true rfl) [some (.ref (ad 0))] rfl ?_
  intro p e s m args below meth c C
  refine g_aload_n C dX8_apart_0 rfl ?_
  refine fget_0_7_X8_51 C rfl dX8_apart_1 ?_
  refine g_callVi C 6 [] (c_X7_isThere l D cy ad b0 C.A) cal_X7_isThere mw_658 (by decide) rfl rfl ⟨Nat.le_of_ble_eq_true rfl, Nat.le_of_ble_eq_true rfl⟩ ⟨rfl, rfl⟩ ⟨Nat.zero_le _, Nat.zero_le _⟩ (Nat.le_of_ble_eq_true rfl) rfl dX8_apart_4 h (fun r1 σ2 h => ?_)
  refine g_if_eq C 20 dX8_apart_7 (by decide) (fun c7 => ?_) (fun c7 => ?_)
  · have h := h.1 c7
    refine g_bipush C dX8_apart_20 kb_m3 ?_
    exact g_iret C dX8_apart_22 h
  · have h := h.2 c7
    refine g_aload_n C dX8_apart_10 rfl ?_
    refine fget_0_8_X8_55 C rfl dX8_apart_11 ?_
    refine g_callVi C 7 [] (c_X7_isTherek l D cy ad b0 C.A) cal_X7_isThere mw_658 (by decide) rfl rfl ⟨Nat.le_of_ble_eq_true rfl, Nat.le_of_ble_eq_true rfl⟩ ⟨rfl, rfl⟩ ⟨Nat.zero_le _, Nat.zero_le _⟩ (Nat.le_of_ble_eq_true rfl) rfl dX8_apart_14 h (fun r3 σ4 h => ?_)
    refine g_if_ne C 23 dX8_apart_17 (by decide) (fun c17 => ?_) (fun c17 => ?_)
    · have h := h.1 c17
      refine g_aload_n C dX8_apart_23 rfl ?_
      refine fget_0_9_X8_61 C rfl dX8_apart_24 ?_
      refine g_aload_n C dX8_apart_27 rfl ?_
      refine fget_0_7_X8_51 C rfl dX8_apart_28 ?_
      refine g_aload_n C dX8_apart_31 rfl ?_
      refine fget_0_8_X8_55 C rfl dX8_apart_32 ?_
      refine g_callVv C 8 [.ref (ad 6), .ref (ad 7)] (c_X3_meet l D cy ad b0 C.A) cal_X3_meet mw_908 (by decide) rfl rfl ⟨Nat.le_of_ble_eq_true rfl, Nat.le_of_ble_eq_true rfl⟩ ⟨rfl, rfl⟩ ⟨Nat.zero_le _, Nat.zero_le _⟩ (Nat.le_of_ble_eq_true rfl) rfl dX8_apart_35 h (fun σ5 h => ?_)
      refine g_aload_n C dX8_apart_38 rfl ?_
      refine fget_0_9_X8_61 C rfl dX8_apart_39 ?_
      refine g_callVi C 8 [] (c_X3_shortestApart l D cy ad b0 C.A) cal_X3_shortestApart mw_944 (by decide) rfl rfl ⟨Nat.le_of_ble_eq_true rfl, Nat.le_of_ble_eq_true rfl⟩ ⟨rfl, rfl⟩ ⟨Nat.zero_le _, Nat.zero_le _⟩ (Nat.le_of_ble_eq_true rfl) rfl dX8_apart_42 h (fun r6 σ7 h => ?_)
      exact g_iret C dX8_apart_45 h
    · have h := h.2 c17
      refine g_bipush C dX8_apart_20 kb_m3 ?_
      exact g_iret C dX8_apart_22 h
def rm_X8_count : Room := { frames := 6, cells := 0, slots := 0, locals := 139 }
def wp_X8_count (a0 : Int32) (σ : Sg) (Q : Int32 → Sg → Prop) : Prop :=
  ((a0 = (nI 0) → wp_X7_size σ (fun r1 σ2 => Q r1 σ2)) ∧ (¬ a0 = (nI 0) → ((a0 = (nI 1) → wp_X7_sureStates σ (fun r3 σ4 => Q r3 σ4)) ∧ (¬ a0 = (nI 1) → ((a0 = (nI 2) → wp_X7_isThere σ (fun r5 σ6 => ((r5 = (nI 0) → Q (nI 0) σ6) ∧ (¬ r5 = (nI 0) → wp_X1_letGo σ6 (fun r7 σ8 => Q r7 σ8))))) ∧ (¬ a0 = (nI 2) → ((a0 = (nI 3) → Q (gF σ 0 1) σ) ∧ (¬ a0 = (nI 3) → ((a0 = (nI 4) → wp_X7_isTherek σ (fun r9 σ10 => ((r9 = (nI 0) → Q (nI 0) σ10) ∧ (¬ r9 = (nI 0) → Q (nI 1) σ10)))) ∧ (¬ a0 = (nI 4) → Q (-2 : Int32) σ))))))))))
set_option maxHeartbeats 4000000 in
set_option maxRecDepth 100000 in
theorem c_X8_count (l : Launch) (D : va_G) (cy : Nat → ClassId) (ad : Nat → Nat) (b0 : Nat) (hA : AdOk ad b0) (a0 : Int32) : Cti l D cy ad b0 yX8_count cX8_count 2 (some .int) rm_X8_count [.ref (ad 0), .int a0] (fun σ Q => wp_X8_count a0 σ Q) := by
  intro σ Q h
  refine g_enter hA rfl (Nat.le_of_ble_eq_true rfl) [some (.ref (ad 0)), some (.int a0)] rfl ?_
  intro p e s m args below meth c C
  refine g_iload_n C dX8_count_0 rfl ?_
  refine dite_case (a0 = (nI 0)) (fun c1_0 => ?_) (fun c1_0 => ?_)
  · have h := h.1 c1_0
    refine g_tsw C 36 (off := 35) dX8_count_1 (tsel_at c1_0 (by decide)) (by decide) ?_
    refine g_aload_n C dX8_count_36 rfl ?_
    refine fget_0_7_X8_51 C rfl dX8_count_37 ?_
    refine g_callVi C 6 [] (c_X7_size l D cy ad b0 C.A) cal_X7_size mw_528 (by decide) rfl rfl ⟨Nat.le_of_ble_eq_true rfl, Nat.le_of_ble_eq_true rfl⟩ ⟨rfl, rfl⟩ ⟨Nat.zero_le _, Nat.zero_le _⟩ (Nat.le_of_ble_eq_true rfl) rfl dX8_count_40 h (fun r1 σ2 h => ?_)
    exact g_iret C dX8_count_43 h
  · have h := h.2 c1_0
    refine dite_case (a0 = (nI 1)) (fun c1_1 => ?_) (fun c1_1 => ?_)
    · have h := h.1 c1_1
      refine g_tsw C 44 (off := 43) dX8_count_1 (tsel_at c1_1 (by decide)) (by decide) ?_
      refine g_aload_n C dX8_count_44 rfl ?_
      refine fget_0_7_X8_51 C rfl dX8_count_45 ?_
      refine g_callVi C 6 [] (c_X7_sureStates l D cy ad b0 C.A) cal_X7_sureStates mw_956 (by decide) rfl rfl ⟨Nat.le_of_ble_eq_true rfl, Nat.le_of_ble_eq_true rfl⟩ ⟨rfl, rfl⟩ ⟨Nat.zero_le _, Nat.zero_le _⟩ (Nat.le_of_ble_eq_true rfl) rfl dX8_count_48 h (fun r3 σ4 h => ?_)
      exact g_iret C dX8_count_51 h
    · have h := h.2 c1_1
      refine dite_case (a0 = (nI 2)) (fun c1_2 => ?_) (fun c1_2 => ?_)
      · have h := h.1 c1_2
        refine g_tsw C 52 (off := 51) dX8_count_1 (tsel_at c1_2 (by decide)) (by decide) ?_
        refine g_aload_n C dX8_count_52 rfl ?_
        refine fget_0_7_X8_51 C rfl dX8_count_53 ?_
        refine g_callVi C 6 [] (c_X7_isThere l D cy ad b0 C.A) cal_X7_isThere mw_658 (by decide) rfl rfl ⟨Nat.le_of_ble_eq_true rfl, Nat.le_of_ble_eq_true rfl⟩ ⟨rfl, rfl⟩ ⟨Nat.zero_le _, Nat.zero_le _⟩ (Nat.le_of_ble_eq_true rfl) rfl dX8_count_56 h (fun r5 σ6 h => ?_)
        refine g_if_eq C 76 dX8_count_59 (by decide) (fun c59 => ?_) (fun c59 => ?_)
        · have h := h.1 c59
          refine g_iconst C dX8_count_76 kc_0 ?_
          exact g_iret C dX8_count_77 h
        · have h := h.2 c59
          refine g_aload_n C dX8_count_62 rfl ?_
          refine fget_0_10_X8_68 C rfl dX8_count_63 ?_
          refine g_aload_n C dX8_count_66 rfl ?_
          refine fget_0_7_X8_51 C rfl dX8_count_67 ?_
          refine g_callVi C 9 [.ref (ad 6)] (c_X1_letGo l D cy ad b0 C.A) cal_X1_letGo mw_964 (by decide) rfl rfl ⟨Nat.le_of_ble_eq_true rfl, Nat.le_of_ble_eq_true rfl⟩ ⟨rfl, rfl⟩ ⟨Nat.zero_le _, Nat.zero_le _⟩ (Nat.le_of_ble_eq_true rfl) rfl dX8_count_70 h (fun r7 σ8 h => ?_)
          refine g_goto C 77 dX8_count_73 (by decide) ?_
          exact g_iret C dX8_count_77 h
      · have h := h.2 c1_2
        refine dite_case (a0 = (nI 3)) (fun c1_3 => ?_) (fun c1_3 => ?_)
        · have h := h.1 c1_3
          refine g_tsw C 78 (off := 77) dX8_count_1 (tsel_at c1_3 (by decide)) (by decide) ?_
          refine g_aload_n C dX8_count_78 rfl ?_
          refine fget_0_1_X8_13 C rfl dX8_count_79 ?_
          exact g_iret C dX8_count_82 h
        · have h := h.2 c1_3
          refine dite_case (a0 = (nI 4)) (fun c1_4 => ?_) (fun c1_4 => ?_)
          · have h := h.1 c1_4
            refine g_tsw C 83 (off := 82) dX8_count_1 (tsel_at c1_4 (by decide)) (by decide) ?_
            refine g_aload_n C dX8_count_83 rfl ?_
            refine fget_0_8_X8_55 C rfl dX8_count_84 ?_
            refine g_callVi C 7 [] (c_X7_isTherek l D cy ad b0 C.A) cal_X7_isThere mw_658 (by decide) rfl rfl ⟨Nat.le_of_ble_eq_true rfl, Nat.le_of_ble_eq_true rfl⟩ ⟨rfl, rfl⟩ ⟨Nat.zero_le _, Nat.zero_le _⟩ (Nat.le_of_ble_eq_true rfl) rfl dX8_count_87 h (fun r9 σ10 h => ?_)
            refine g_if_eq C 97 dX8_count_90 (by decide) (fun c90 => ?_) (fun c90 => ?_)
            · have h := h.1 c90
              refine g_iconst C dX8_count_97 kc_0 ?_
              exact g_iret C dX8_count_98 h
            · have h := h.2 c90
              refine g_iconst C dX8_count_93 kc_1 ?_
              refine g_goto C 98 dX8_count_94 (by decide) ?_
              exact g_iret C dX8_count_98 h
          · have h := h.2 c1_4
            refine g_tsw C 99 (off := 98) dX8_count_1 (tsel_df [0, 1, 2, 3, 4] (by decide) (by decide) (List.forall_mem_cons.mpr ⟨lv_neT c1_0 (by decide), List.forall_mem_cons.mpr ⟨lv_neT c1_1 (by decide), List.forall_mem_cons.mpr ⟨lv_neT c1_2 (by decide), List.forall_mem_cons.mpr ⟨lv_neT c1_3 (by decide), List.forall_mem_cons.mpr ⟨lv_neT c1_4 (by decide), fun _ h => absurd h List.not_mem_nil⟩⟩⟩⟩⟩)) (by decide) ?_
            refine g_bipush C dX8_count_99 kb_m2 ?_
            exact g_iret C dX8_count_101 h
end
