section
variable {p : Program} {l : Launch} {e : Env} {s : State} {m : MethodId} {args : Array Value} {below : List Frame} {meth : Method} {c : Code} {D : va_G} {cy : Nat → ClassId} {ad : Nat → Nat} {b0 : Nat}
def rm_X4_size : Room := { frames := 0, cells := 0, slots := 0, locals := 0 }
def wp_X4_size (σ : Sg) (Q : Int32 → Sg → Prop) : Prop :=
  Q (gF σ 4 10) σ
set_option maxHeartbeats 4000000 in
set_option maxRecDepth 100000 in
theorem c_X4_size (l : Launch) (D : va_G) (cy : Nat → ClassId) (ad : Nat → Nat) (b0 : Nat) (hA : AdOk ad b0) : Cti l D cy ad b0 yX4_size cX4_size 1 (some .int) rm_X4_size [.ref (ad 4)] (fun σ Q => wp_X4_size σ Q) := by
  intro σ Q h
  refine g_enter hA rfl (Nat.le_of_ble_eq_true rfl) [some (.ref (ad 4))] rfl ?_
  intro p e s m args below meth c C
  refine g_aload_n C dX4_size_0 rfl ?_
  refine fget_4_10_X4_45 C rfl dX4_size_1 ?_
  exact g_iret C dX4_size_4 h
def rm_X4_next : Room := { frames := 1, cells := 0, slots := 0, locals := 21 }
def wp_X4_next (a0 : Int32) (a1 : Int32) (σ : Sg) (Q : Int32 → Sg → Prop) : Prop :=
  wp_X8_pick 24 ((a0 * (nI 4)) + a1) σ (fun r1 σ2 => Q r1 σ2)
set_option maxHeartbeats 4000000 in
set_option maxRecDepth 100000 in
theorem c_X4_next (l : Launch) (D : va_G) (cy : Nat → ClassId) (ad : Nat → Nat) (b0 : Nat) (hA : AdOk ad b0) (a0 : Int32) (a1 : Int32) : Cti l D cy ad b0 yX4_next cX4_next 3 (some .int) rm_X4_next [.ref (ad 4), .int a0, .int a1] (fun σ Q => wp_X4_next a0 a1 σ Q) := by
  intro σ Q h
  refine g_enter hA rfl (Nat.le_of_ble_eq_true rfl) [some (.ref (ad 4)), some (.int a0), some (.int a1)] rfl ?_
  intro p e s m args below meth c C
  refine g_aload_n C dX4_next_0 rfl ?_
  refine fget_4_2_X4_19 C rfl dX4_next_1 ?_
  refine g_iload_n C dX4_next_4 rfl ?_
  refine g_iconst C dX4_next_5 kc_4 ?_
  refine g_imul C dX4_next_6 ?_
  refine g_iload_n C dX4_next_7 rfl ?_
  refine g_iadd C dX4_next_8 ?_
  refine g_callNi C [.ref (ad 24), .int ((a0 * (nI 4)) + a1)] (c_X8_pick l D cy ad b0 C.A 24 ((a0 * (nI 4)) + a1) (by decide)) cal_X8_pick nw_13 rfl ⟨Nat.le_of_ble_eq_true rfl, Nat.le_of_ble_eq_true rfl⟩ ⟨rfl, rfl⟩ ⟨Nat.zero_le _, Nat.zero_le _⟩ (Nat.le_of_ble_eq_true rfl) rfl dX4_next_9 h (fun r1 σ2 h => ?_)
  exact g_iret C dX4_next_12 h
def rm_X4_isKept : Room := { frames := 1, cells := 0, slots := 0, locals := 21 }
def wp_X4_isKept (a0 : Int32) (σ : Sg) (Q : Int32 → Sg → Prop) : Prop :=
  wp_X8_isSet 25 a0 σ (fun r1 σ2 => (bl r1 ∧ Q r1 σ2))
set_option maxHeartbeats 4000000 in
set_option maxRecDepth 100000 in
theorem c_X4_isKept (l : Launch) (D : va_G) (cy : Nat → ClassId) (ad : Nat → Nat) (b0 : Nat) (hA : AdOk ad b0) (a0 : Int32) : Cti l D cy ad b0 yX4_isKept cX4_isKept 2 (some .boolean) rm_X4_isKept [.ref (ad 4), .int a0] (fun σ Q => wp_X4_isKept a0 σ Q) := by
  intro σ Q h
  refine g_enter hA rfl (Nat.le_of_ble_eq_true rfl) [some (.ref (ad 4)), some (.int a0)] rfl ?_
  intro p e s m args below meth c C
  refine g_aload_n C dX4_isKept_0 rfl ?_
  refine fget_4_3_X4_22 C rfl dX4_isKept_1 ?_
  refine g_iload_n C dX4_isKept_4 rfl ?_
  refine g_callNi C [.ref (ad 25), .int a0] (c_X8_isSet l D cy ad b0 C.A 25 a0 (by decide)) cal_X8_isSet nw_16 rfl ⟨Nat.le_of_ble_eq_true rfl, Nat.le_of_ble_eq_true rfl⟩ ⟨rfl, rfl⟩ ⟨Nat.zero_le _, Nat.zero_le _⟩ (Nat.le_of_ble_eq_true rfl) rfl dX4_isKept_5 h (fun r1 σ2 h => ?_)
  exact g_zret C (narrow_bl h.1) dX4_isKept_8 h.2
def rm_X4_begin : Room := { frames := 2, cells := 0, slots := 0, locals := 41 }
def wp_X4_begin_63 (Q : Sg → Prop) (σ : Sg) : Prop :=
  ∀ σ1 : Sg, σ1 = stF σ 4 10 (nI 1) → (wp_X0_noPlace σ1 (fun r2 σ3 => wp_X0_pastOf r2 σ3 (fun r4 σ5 => wp_X8_put 22 (nI 0) r4 σ5 (fun σ6 => wp_X8_set 25 (nI 0) (nI 1) σ6 (fun σ7 => Q σ7)))))
set_option maxHeartbeats 4000000 in
set_option maxRecDepth 100000 in
theorem k_X4_begin_63 {Q : Sg → Prop} (C : Cx p s m args meth c D cy ad b0 yX4_begin cX4_begin 3 none) (σ : Sg) (h : wp_X4_begin_63 Q σ) : gV p l e rm_X4_begin s m args below meth c D cy ad b0 Q 3 63 σ [some (.ref (ad 4)), some (.ref (ad 3)), none] [] := by
  refine g_aload_n C dX4_begin_63 rfl ?_
  refine g_iconst C dX4_begin_64 kc_1 ?_
  refine fput_4_10_X4_45 C rfl dX4_begin_65 (fun σ1 e_σ1 => ?_)
  have h := h σ1 e_σ1
  refine g_aload_n C dX4_begin_68 rfl ?_
  refine fget_4_0_X4_9 C rfl dX4_begin_69 ?_
  refine g_iconst C dX4_begin_72 kc_0 ?_
  refine g_aload_n C dX4_begin_73 rfl ?_
  refine g_aload_n C dX4_begin_74 rfl ?_
  refine g_callVi C 3 [] (c_X0_noPlace l D cy ad b0 C.A) cal_X0_noPlace mw_391 (by decide) rfl rfl ⟨Nat.le_of_ble_eq_true rfl, Nat.le_of_ble_eq_true rfl⟩ ⟨rfl, rfl⟩ ⟨Nat.zero_le _, Nat.zero_le _⟩ (Nat.le_of_ble_eq_true rfl) rfl dX4_begin_75 h (fun r2 σ3 h => ?_)
  refine g_callVi C 3 [.int r2] (c_X0_pastOf l D cy ad b0 C.A r2) cal_X0_pastOf mw_395 (by decide) rfl rfl ⟨Nat.le_of_ble_eq_true rfl, Nat.le_of_ble_eq_true rfl⟩ ⟨rfl, rfl⟩ ⟨Nat.zero_le _, Nat.zero_le _⟩ (Nat.le_of_ble_eq_true rfl) rfl dX4_begin_78 h (fun r4 σ5 h => ?_)
  refine g_callNv C [.ref (ad 22), .int (nI 0), .int r4] (c_X8_put l D cy ad b0 C.A 22 (nI 0) r4 (by decide)) cal_X8_put nw_10 rfl ⟨Nat.le_of_ble_eq_true rfl, Nat.le_of_ble_eq_true rfl⟩ ⟨rfl, rfl⟩ ⟨Nat.zero_le _, Nat.zero_le _⟩ (Nat.le_of_ble_eq_true rfl) rfl dX4_begin_81 h (fun σ6 h => ?_)
  refine g_aload_n C dX4_begin_84 rfl ?_
  refine fget_4_3_X4_22 C rfl dX4_begin_85 ?_
  refine g_iconst C dX4_begin_88 kc_0 ?_
  refine g_iconst C dX4_begin_89 kc_1 ?_
  refine g_callNv C [.ref (ad 25), .int (nI 0), .int (nI 1)] (c_X8_set l D cy ad b0 C.A 25 (nI 0) (nI 1) (by decide)) cal_X8_set nw_11 rfl ⟨Nat.le_of_ble_eq_true rfl, Nat.le_of_ble_eq_true rfl⟩ ⟨rfl, rfl⟩ ⟨Nat.zero_le _, Nat.zero_le _⟩ (Nat.le_of_ble_eq_true rfl) rfl dX4_begin_90 h (fun σ7 h => ?_)
  exact g_vret C dX4_begin_93 h
def wb_X4_begin_39 (v2 : Int32) (K39 : Int32 → Sg → Prop) (K63 : Sg → Prop) (Q : Sg → Prop) (σ : Sg) : Prop :=
  wp_X0_pasts σ (fun r1 σ2 => ((r1 ≤ v2 → K63 σ2) ∧ (¬ r1 ≤ v2 → wp_X8_put 26 v2 (-9 : Int32) σ2 (fun σ3 => ∀ x57 : Int32, x57 = v2 + (nI 1) → (K39 x57 σ3)))))
set_option maxHeartbeats 4000000 in
set_option maxRecDepth 100000 in
theorem kb_X4_begin_39 {Q : Sg → Prop} (C : Cx p s m args meth c D cy ad b0 yX4_begin cX4_begin 3 none) (v2 : Int32) (K39 : Int32 → Sg → Prop) (K63 : Sg → Prop) (hK39 : ∀ (z2 : Int32) (σ : Sg), K39 z2 σ → gV p l e rm_X4_begin s m args below meth c D cy ad b0 Q 3 39 σ [some (.ref (ad 4)), some (.ref (ad 3)), some (.int z2)] []) (hK63 : ∀  (σ : Sg), K63 σ → gV p l e rm_X4_begin s m args below meth c D cy ad b0 Q 3 63 σ [some (.ref (ad 4)), some (.ref (ad 3)), none] []) (σ : Sg) (h : wb_X4_begin_39 v2 K39 K63 Q σ) : gV p l e rm_X4_begin s m args below meth c D cy ad b0 Q 3 39 σ [some (.ref (ad 4)), some (.ref (ad 3)), some (.int v2)] [] := by
  refine g_iload_n C dX4_begin_39 rfl ?_
  refine g_aload_n C dX4_begin_40 rfl ?_
  refine g_callVi C 3 [] (c_X0_pasts l D cy ad b0 C.A) cal_X0_pasts mw_387 (by decide) rfl rfl ⟨Nat.le_of_ble_eq_true rfl, Nat.le_of_ble_eq_true rfl⟩ ⟨rfl, rfl⟩ ⟨Nat.zero_le _, Nat.zero_le _⟩ (Nat.le_of_ble_eq_true rfl) rfl dX4_begin_41 h (fun r1 σ2 h => ?_)
  refine g_icmp_ge C 63 dX4_begin_44 (by decide) (fun c44 => ?_) (fun c44 => ?_)
  · have h := h.1 c44
    refine g_mask [true, true, false] rfl ?_
    exact hK63 σ2 h
  · have h := h.2 c44
    refine g_aload_n C dX4_begin_47 rfl ?_
    refine fget_4_4_X4_26 C rfl dX4_begin_48 ?_
    refine g_iload_n C dX4_begin_51 rfl ?_
    refine g_bipush C dX4_begin_52 kb_m9 ?_
    refine g_callNv C [.ref (ad 26), .int v2, .int (-9 : Int32)] (c_X8_put l D cy ad b0 C.A 26 v2 (-9 : Int32) (by decide)) cal_X8_put nw_10 rfl ⟨Nat.le_of_ble_eq_true rfl, Nat.le_of_ble_eq_true rfl⟩ ⟨rfl, rfl⟩ ⟨Nat.zero_le _, Nat.zero_le _⟩ (Nat.le_of_ble_eq_true rfl) rfl dX4_begin_54 h (fun σ3 h => ?_)
    obtain ⟨x57, e_x57⟩ : ∃ v : Int32, v = v2 + (nI 1) := ⟨_, rfl⟩
    have h := h x57 e_x57
    refine g_iinc C [some (.ref (ad 4)), some (.ref (ad 3)), some (.int x57)] dX4_begin_57 rfl e_x57.symm (by decide) rfl ?_
    refine g_goto C 39 dX4_begin_60 (by decide) ?_
    exact hK39 x57 σ3 h
def wl_X4_begin_39 (K63 : Sg → Prop) (Q : Sg → Prop) : Nat → Int32 → Sg → Prop
  | 0, _, _ => False
  | n + 1, v2, σ => wb_X4_begin_39 v2 (wl_X4_begin_39 K63 Q n) K63 Q σ
set_option maxHeartbeats 4000000 in
set_option maxRecDepth 100000 in
theorem kl_X4_begin_39 {Q : Sg → Prop} (C : Cx p s m args meth c D cy ad b0 yX4_begin cX4_begin 3 none) (K63 : Sg → Prop) (hK63 : ∀  (σ : Sg), K63 σ → gV p l e rm_X4_begin s m args below meth c D cy ad b0 Q 3 63 σ [some (.ref (ad 4)), some (.ref (ad 3)), none] []) : ∀ (n : Nat) (v2 : Int32) (σ : Sg), wl_X4_begin_39 K63 Q n v2 σ → gV p l e rm_X4_begin s m args below meth c D cy ad b0 Q 3 39 σ [some (.ref (ad 4)), some (.ref (ad 3)), some (.int v2)] [] := by
  intro n
  induction n with
  | zero => intro v2 σ h; exact False.elim h
  | succ n ih =>
    intro v2 σ h
    exact kb_X4_begin_39 C v2 (wl_X4_begin_39 K63 Q n) K63 (fun z2 σ h => ih z2 σ h) hK63 σ h
def wp_X4_begin (σ : Sg) (Q : Sg → Prop) : Prop :=
  wp_X0_futures σ (fun r1 σ2 => ∀ σ3 : Sg, σ3 = stF σ2 4 8 (if ((r1 + (nI 63)) / (nI 64)) < (nI 4) then ((r1 + (nI 63)) / (nI 64)) else (nI 4)) → (wp_X0_pasts σ3 (fun r4 σ5 => ∀ σ6 : Sg, σ6 = stF σ5 4 9 ((nI 1) + (if ((nI 60) * r4) < (nI 1920) then ((nI 60) * r4) else (nI 1920))) → (∃ n, wl_X4_begin_39 (fun σ9 => wp_X4_begin_63 Q σ9) Q n (nI 0) σ6))))
set_option maxHeartbeats 4000000 in
set_option maxRecDepth 100000 in
theorem c_X4_begin (l : Launch) (D : va_G) (cy : Nat → ClassId) (ad : Nat → Nat) (b0 : Nat) (hA : AdOk ad b0) : Ctv l D cy ad b0 yX4_begin cX4_begin 3 none rm_X4_begin [.ref (ad 4), .ref (ad 3)] (fun σ Q => wp_X4_begin σ Q) := by
  intro σ Q h
  refine g_enter hA rfl (Nat.le_of_ble_eq_true rfl) [some (.ref (ad 4)), some (.ref (ad 3)), none] rfl ?_
  intro p e s m args below meth c C
  refine g_aload_n C dX4_begin_0 rfl ?_
  refine g_iconst C dX4_begin_1 kc_4 ?_
  refine g_aload_n C dX4_begin_2 rfl ?_
  refine g_callVi C 3 [] (c_X0_futures l D cy ad b0 C.A) cal_X0_futures mw_386 (by decide) rfl rfl ⟨Nat.le_of_ble_eq_true rfl, Nat.le_of_ble_eq_true rfl⟩ ⟨rfl, rfl⟩ ⟨Nat.zero_le _, Nat.zero_le _⟩ (Nat.le_of_ble_eq_true rfl) rfl dX4_begin_3 h (fun r1 σ2 h => ?_)
  refine g_bipush C dX4_begin_6 kb_63 ?_
  refine g_iadd C dX4_begin_8 ?_
  refine g_bipush C dX4_begin_9 kb_64 ?_
  refine g_idiv C dX4_begin_11 (by decide) ?_
  refine g_mmin C mw_385 mw_325 mw_326 mw_973 ⟨Nat.le_of_ble_eq_true rfl, Nat.le_of_ble_eq_true rfl, Nat.zero_le _, Nat.zero_le _⟩ dX4_begin_12 ?_
  refine fput_4_8_X4_39 C rfl dX4_begin_15 (fun σ3 e_σ3 => ?_)
  have h := h σ3 e_σ3
  refine g_aload_n C dX4_begin_18 rfl ?_
  refine g_iconst C dX4_begin_19 kc_1 ?_
  refine g_sipush C dX4_begin_20 ks_1920 ?_
  refine g_bipush C dX4_begin_23 kb_60 ?_
  refine g_aload_n C dX4_begin_25 rfl ?_
  refine g_callVi C 3 [] (c_X0_pasts l D cy ad b0 C.A) cal_X0_pasts mw_387 (by decide) rfl rfl ⟨Nat.le_of_ble_eq_true rfl, Nat.le_of_ble_eq_true rfl⟩ ⟨rfl, rfl⟩ ⟨Nat.zero_le _, Nat.zero_le _⟩ (Nat.le_of_ble_eq_true rfl) rfl dX4_begin_26 h (fun r4 σ5 h => ?_)
  refine g_imul C dX4_begin_29 ?_
  refine g_mmin C mw_385 mw_325 mw_326 mw_973 ⟨Nat.le_of_ble_eq_true rfl, Nat.le_of_ble_eq_true rfl, Nat.zero_le _, Nat.zero_le _⟩ dX4_begin_30 ?_
  refine g_iadd C dX4_begin_33 ?_
  refine fput_4_9_X4_42 C rfl dX4_begin_34 (fun σ6 e_σ6 => ?_)
  have h := h σ6 e_σ6
  refine g_iconst C dX4_begin_37 kc_0 ?_
  refine g_istore_n C [some (.ref (ad 4)), some (.ref (ad 3)), some (.int (nI 0))] dX4_begin_38 (by decide) rfl ?_
  obtain ⟨n, h⟩ := h
  exact kl_X4_begin_39 C _ (fun σ9 h => by exact k_X4_begin_63 C σ9 h) n (nI 0) σ6 h
def rm_X4_isIn : Room := { frames := 1, cells := 0, slots := 0, locals := 22 }
def wp_X4_isIn (a0 : Int32) (a1 : Int32) (σ : Sg) (Q : Int32 → Sg → Prop) : Prop :=
  wp_X8_pickLong 23 ((a0 * (nI 4)) + (a1 / (nI 64))) σ (fun r1 σ2 => wp_X8_hasBit r1 (iREM a1 (nI 64)) σ2 (fun r3 σ4 => (bl r3 ∧ Q r3 σ4)))
set_option maxHeartbeats 4000000 in
set_option maxRecDepth 100000 in
theorem c_X4_isIn (l : Launch) (D : va_G) (cy : Nat → ClassId) (ad : Nat → Nat) (b0 : Nat) (hA : AdOk ad b0) (a0 : Int32) (a1 : Int32) : Cti l D cy ad b0 yX4_isIn cX4_isIn 3 (some .boolean) rm_X4_isIn [.ref (ad 4), .int a0, .int a1] (fun σ Q => wp_X4_isIn a0 a1 σ Q) := by
  intro σ Q h
  refine g_enter hA rfl (Nat.le_of_ble_eq_true rfl) [some (.ref (ad 4)), some (.int a0), some (.int a1)] rfl ?_
  intro p e s m args below meth c C
  refine g_aload_n C dX4_isIn_0 rfl ?_
  refine fget_4_1_X4_15 C rfl dX4_isIn_1 ?_
  refine g_iload_n C dX4_isIn_4 rfl ?_
  refine g_iconst C dX4_isIn_5 kc_4 ?_
  refine g_imul C dX4_isIn_6 ?_
  refine g_iload_n C dX4_isIn_7 rfl ?_
  refine g_bipush C dX4_isIn_8 kb_64 ?_
  refine g_idiv C dX4_isIn_10 (by decide) ?_
  refine g_iadd C dX4_isIn_11 ?_
  refine g_callNl C [.ref (ad 23), .int ((a0 * (nI 4)) + (a1 / (nI 64)))] (c_X8_pickLong l D cy ad b0 C.A 23 ((a0 * (nI 4)) + (a1 / (nI 64))) (by decide)) cal_X8_pickLong nw_14 rfl ⟨Nat.le_of_ble_eq_true rfl, Nat.le_of_ble_eq_true rfl⟩ ⟨rfl, rfl⟩ ⟨Nat.zero_le _, Nat.zero_le _⟩ (Nat.le_of_ble_eq_true rfl) rfl dX4_isIn_12 h (fun r1 σ2 h => ?_)
  refine g_iload_n C dX4_isIn_15 rfl ?_
  refine g_bipush C dX4_isIn_16 kb_64 ?_
  refine g_irem C dX4_isIn_18 (by decide) ?_
  refine g_callNi C [.long r1, .int (iREM a1 (nI 64))] (c_X8_hasBit l D cy ad b0 C.A r1 (iREM a1 (nI 64))) cal_X8_hasBit nw_15 rfl ⟨Nat.le_of_ble_eq_true rfl, Nat.le_of_ble_eq_true rfl⟩ ⟨rfl, rfl⟩ ⟨Nat.zero_le _, Nat.zero_le _⟩ (Nat.le_of_ble_eq_true rfl) rfl dX4_isIn_19 h (fun r3 σ4 h => ?_)
  exact g_zret C (narrow_bl h.1) dX4_isIn_22 h.2
def rm_X4_follow : Room := { frames := 3, cells := 0, slots := 0, locals := 62 }
def wp_X4_follow_172 (v2 : Int32) (v3 : Int32) (v4 : Int32) (v5 : Int32) (K61 : Int32 → Sg → Prop) (Q : Sg → Prop) (σ : Sg) : Prop :=
  ∀ x172 : Int32, x172 = v5 + (nI 1) → (K61 x172 σ)
set_option maxHeartbeats 4000000 in
set_option maxRecDepth 100000 in
theorem k_X4_follow_172 {Q : Sg → Prop} (C : Cx p s m args meth c D cy ad b0 yX4_follow cX4_follow 8 none) (v2 : Int32) (v3 : Int32) (v4 : Int32) (v5 : Int32) (K61 : Int32 → Sg → Prop) (hK61 : ∀ (z5 : Int32) (σ : Sg), K61 z5 σ → gV p l e rm_X4_follow s m args below meth c D cy ad b0 Q 8 61 σ [some (.ref (ad 4)), some (.ref (ad 3)), some (.int v2), some (.int v3), some (.int v4), some (.int z5), none, none] []) (σ : Sg) (h : wp_X4_follow_172 v2 v3 v4 v5 K61 Q σ) : gV p l e rm_X4_follow s m args below meth c D cy ad b0 Q 8 172 σ [some (.ref (ad 4)), some (.ref (ad 3)), some (.int v2), some (.int v3), some (.int v4), some (.int v5), none, none] [] := by
  obtain ⟨x172, e_x172⟩ : ∃ v : Int32, v = v5 + (nI 1) := ⟨_, rfl⟩
  have h := h x172 e_x172
  refine g_iinc C [some (.ref (ad 4)), some (.ref (ad 3)), some (.int v2), some (.int v3), some (.int v4), some (.int x172), none, none] dX4_follow_172 rfl e_x172.symm (by decide) rfl ?_
  refine g_goto C 61 dX4_follow_175 (by decide) ?_
  exact hK61 x172 σ h
def wp_X4_follow_140 (v2 : Int32) (v3 : Int32) (v4 : Int32) (v5 : Int32) (K61 : Int32 → Sg → Prop) (Q : Sg → Prop) (σ : Sg) : Prop :=
  wp_X8_pickLong 28 (v5 / (nI 64)) σ (fun r1 σ2 => wp_X8_putLong 28 (v5 / (nI 64)) (r1 ||| (lSHL (lN 1) (iREM v5 (nI 64)))) σ2 (fun σ3 => wp_X4_follow_172 v2 v3 v4 v5 K61 Q σ3))
set_option maxHeartbeats 4000000 in
set_option maxRecDepth 100000 in
theorem k_X4_follow_140 {Q : Sg → Prop} (C : Cx p s m args meth c D cy ad b0 yX4_follow cX4_follow 8 none) (v2 : Int32) (v3 : Int32) (v4 : Int32) (v5 : Int32) (K61 : Int32 → Sg → Prop) (hK61 : ∀ (z5 : Int32) (σ : Sg), K61 z5 σ → gV p l e rm_X4_follow s m args below meth c D cy ad b0 Q 8 61 σ [some (.ref (ad 4)), some (.ref (ad 3)), some (.int v2), some (.int v3), some (.int v4), some (.int z5), none, none] []) (σ : Sg) (h : wp_X4_follow_140 v2 v3 v4 v5 K61 Q σ) : gV p l e rm_X4_follow s m args below meth c D cy ad b0 Q 8 140 σ [some (.ref (ad 4)), some (.ref (ad 3)), some (.int v2), some (.int v3), some (.int v4), some (.int v5), none, none] [] := by
  refine g_aload_n C dX4_follow_140 rfl ?_
  refine fget_4_6_X4_32 C rfl dX4_follow_141 ?_
  refine g_iload C dX4_follow_144 rfl ?_
  refine g_bipush C dX4_follow_146 kb_64 ?_
  refine g_idiv C dX4_follow_148 (by decide) ?_
  refine g_aload_n C dX4_follow_149 rfl ?_
  refine fget_4_6_X4_32 C rfl dX4_follow_150 ?_
  refine g_iload C dX4_follow_153 rfl ?_
  refine g_bipush C dX4_follow_155 kb_64 ?_
  refine g_idiv C dX4_follow_157 (by decide) ?_
  refine g_callNl C [.ref (ad 28), .int (v5 / (nI 64))] (c_X8_pickLong l D cy ad b0 C.A 28 (v5 / (nI 64)) (by decide)) cal_X8_pickLong nw_14 rfl ⟨Nat.le_of_ble_eq_true rfl, Nat.le_of_ble_eq_true rfl⟩ ⟨rfl, rfl⟩ ⟨Nat.zero_le _, Nat.zero_le _⟩ (Nat.le_of_ble_eq_true rfl) rfl dX4_follow_158 h (fun r1 σ2 h => ?_)
  refine g_lconst C dX4_follow_161 kl_1 ?_
  refine g_iload C dX4_follow_162 rfl ?_
  refine g_bipush C dX4_follow_164 kb_64 ?_
  refine g_irem C dX4_follow_166 (by decide) ?_
  refine g_lshl C dX4_follow_167 ?_
  refine g_lor C dX4_follow_168 ?_
  refine g_callNv C [.ref (ad 28), .int (v5 / (nI 64)), .long (r1 ||| (lSHL (lN 1) (iREM v5 (nI 64))))] (c_X8_putLong l D cy ad b0 C.A 28 (v5 / (nI 64)) (r1 ||| (lSHL (lN 1) (iREM v5 (nI 64)))) (by decide)) cal_X8_putLong nw_12 rfl ⟨Nat.le_of_ble_eq_true rfl, Nat.le_of_ble_eq_true rfl⟩ ⟨rfl, rfl⟩ ⟨Nat.zero_le _, Nat.zero_le _⟩ (Nat.le_of_ble_eq_true rfl) rfl dX4_follow_169 h (fun σ3 h => ?_)
  exact k_X4_follow_172 C v2 v3 v4 v5 K61 hK61 σ3 h
def wb_X4_follow_61 (v2 : Int32) (v3 : Int32) (v4 : Int32) (v5 : Int32) (K61 : Int32 → Sg → Prop) (Q : Sg → Prop) (σ : Sg) : Prop :=
  wp_X0_futures σ (fun r1 σ2 => ((r1 ≤ v5 → Q σ2) ∧ (¬ r1 ≤ v5 → wp_X0_both v4 v5 σ2 (fun r3 σ4 => wp_X0_both (gF σ4 4 7) v5 σ4 (fun r5 σ6 => wp_X0_isPossible r5 σ6 (fun r7 σ8 => ((¬ r7 = (nI 0) → wp_X0_turn r3 v3 σ8 (fun r9 σ10 => wp_X0_futureOf r9 σ10 (fun r11 σ12 => ((¬ v2 = (nI 0) → wp_X4_isIn v2 r11 σ12 (fun r13 σ14 => ((r13 = (nI 0) → wp_X4_follow_172 v2 v3 v4 v5 K61 Q σ14) ∧ (¬ r13 = (nI 0) → wp_X4_follow_140 v2 v3 v4 v5 K61 Q σ14)))) ∧ (v2 = (nI 0) → wp_X0_keeps r3 v3 σ12 (fun r15 σ16 => ((r15 = (nI 0) → wp_X4_follow_172 v2 v3 v4 v5 K61 Q σ16) ∧ (¬ r15 = (nI 0) → wp_X4_follow_140 v2 v3 v4 v5 K61 Q σ16)))))))) ∧ (r7 = (nI 0) → wp_X4_follow_172 v2 v3 v4 v5 K61 Q σ8))))))))
set_option maxHeartbeats 4000000 in
set_option maxRecDepth 100000 in
theorem kb_X4_follow_61 {Q : Sg → Prop} (C : Cx p s m args meth c D cy ad b0 yX4_follow cX4_follow 8 none) (v2 : Int32) (v3 : Int32) (v4 : Int32) (v5 : Int32) (K61 : Int32 → Sg → Prop) (hK61 : ∀ (z5 : Int32) (σ : Sg), K61 z5 σ → gV p l e rm_X4_follow s m args below meth c D cy ad b0 Q 8 61 σ [some (.ref (ad 4)), some (.ref (ad 3)), some (.int v2), some (.int v3), some (.int v4), some (.int z5), none, none] []) (σ : Sg) (h : wb_X4_follow_61 v2 v3 v4 v5 K61 Q σ) : gV p l e rm_X4_follow s m args below meth c D cy ad b0 Q 8 61 σ [some (.ref (ad 4)), some (.ref (ad 3)), some (.int v2), some (.int v3), some (.int v4), some (.int v5), none, none] [] := by
  refine g_iload C dX4_follow_61 rfl ?_
  refine g_aload_n C dX4_follow_63 rfl ?_
  refine g_callVi C 3 [] (c_X0_futures l D cy ad b0 C.A) cal_X0_futures mw_386 (by decide) rfl rfl ⟨Nat.le_of_ble_eq_true rfl, Nat.le_of_ble_eq_true rfl⟩ ⟨rfl, rfl⟩ ⟨Nat.zero_le _, Nat.zero_le _⟩ (Nat.le_of_ble_eq_true rfl) rfl dX4_follow_64 h (fun r1 σ2 h => ?_)
  refine g_icmp_ge C 178 dX4_follow_67 (by decide) (fun c67 => ?_) (fun c67 => ?_)
  · have h := h.1 c67
    exact g_vret C dX4_follow_178 h
  · have h := h.2 c67
    refine g_aload_n C dX4_follow_70 rfl ?_
    refine g_iload C dX4_follow_71 rfl ?_
    refine g_iload C dX4_follow_73 rfl ?_
    refine g_callVi C 3 [.int v4, .int v5] (c_X0_both l D cy ad b0 C.A v4 v5) cal_X0_both mw_402 (by decide) rfl rfl ⟨Nat.le_of_ble_eq_true rfl, Nat.le_of_ble_eq_true rfl⟩ ⟨rfl, rfl⟩ ⟨Nat.zero_le _, Nat.zero_le _⟩ (Nat.le_of_ble_eq_true rfl) rfl dX4_follow_75 h (fun r3 σ4 h => ?_)
    refine g_istore C [some (.ref (ad 4)), some (.ref (ad 3)), some (.int v2), some (.int v3), some (.int v4), some (.int v5), some (.int r3), none] dX4_follow_78 (by decide) rfl ?_
    refine g_aload_n C dX4_follow_80 rfl ?_
    refine g_aload_n C dX4_follow_81 rfl ?_
    refine g_aload_n C dX4_follow_82 rfl ?_
    refine fget_4_7_X4_35 C rfl dX4_follow_83 ?_
    refine g_iload C dX4_follow_86 rfl ?_
    refine g_callVi C 3 [.int (gF σ4 4 7), .int v5] (c_X0_both l D cy ad b0 C.A (gF σ4 4 7) v5) cal_X0_both mw_402 (by decide) rfl rfl ⟨Nat.le_of_ble_eq_true rfl, Nat.le_of_ble_eq_true rfl⟩ ⟨rfl, rfl⟩ ⟨Nat.zero_le _, Nat.zero_le _⟩ (Nat.le_of_ble_eq_true rfl) rfl dX4_follow_88 h (fun r5 σ6 h => ?_)
    refine g_callVi C 3 [.int r5] (c_X0_isPossible l D cy ad b0 C.A r5) cal_X0_isPossible mw_404 (by decide) rfl rfl ⟨Nat.le_of_ble_eq_true rfl, Nat.le_of_ble_eq_true rfl⟩ ⟨rfl, rfl⟩ ⟨Nat.zero_le _, Nat.zero_le _⟩ (Nat.le_of_ble_eq_true rfl) rfl dX4_follow_91 h (fun r7 σ8 h => ?_)
    refine g_if_ne C 100 dX4_follow_94 (by decide) (fun c94 => ?_) (fun c94 => ?_)
    · have h := h.1 c94
      refine g_aload_n C dX4_follow_100 rfl ?_
      refine g_aload_n C dX4_follow_101 rfl ?_
      refine g_iload C dX4_follow_102 rfl ?_
      refine g_iload_n C dX4_follow_104 rfl ?_
      refine g_callVi C 3 [.int r3, .int v3] (c_X0_turn l D cy ad b0 C.A r3 v3) cal_X0_turn mw_403 (by decide) rfl rfl ⟨Nat.le_of_ble_eq_true rfl, Nat.le_of_ble_eq_true rfl⟩ ⟨rfl, rfl⟩ ⟨Nat.zero_le _, Nat.zero_le _⟩ (Nat.le_of_ble_eq_true rfl) rfl dX4_follow_105 h (fun r9 σ10 h => ?_)
      refine g_callVi C 3 [.int r9] (c_X0_futureOf l D cy ad b0 C.A r9) cal_X0_futureOf mw_405 (by decide) rfl rfl ⟨Nat.le_of_ble_eq_true rfl, Nat.le_of_ble_eq_true rfl⟩ ⟨rfl, rfl⟩ ⟨Nat.zero_le _, Nat.zero_le _⟩ (Nat.le_of_ble_eq_true rfl) rfl dX4_follow_108 h (fun r11 σ12 h => ?_)
      refine g_istore C [some (.ref (ad 4)), some (.ref (ad 3)), some (.int v2), some (.int v3), some (.int v4), some (.int v5), some (.int r3), some (.int r11)] dX4_follow_111 (by decide) rfl ?_
      refine g_iload_n C dX4_follow_113 rfl ?_
      refine g_if_ne C 130 dX4_follow_114 (by decide) (fun c114 => ?_) (fun c114 => ?_)
      · have h := h.1 c114
        refine g_aload_n C dX4_follow_130 rfl ?_
        refine g_iload_n C dX4_follow_131 rfl ?_
        refine g_iload C dX4_follow_132 rfl ?_
        refine g_callVi C 4 [.int v2, .int r11] (c_X4_isIn l D cy ad b0 C.A v2 r11) cal_X4_isIn mw_410 (by decide) rfl rfl ⟨Nat.le_of_ble_eq_true rfl, Nat.le_of_ble_eq_true rfl⟩ ⟨rfl, rfl⟩ ⟨Nat.zero_le _, Nat.zero_le _⟩ (Nat.le_of_ble_eq_true rfl) rfl dX4_follow_134 h (fun r13 σ14 h => ?_)
        refine g_if_eq C 172 dX4_follow_137 (by decide) (fun c137 => ?_) (fun c137 => ?_)
        · have h := h.1 c137
          refine g_mask [true, true, true, true, true, true, false, false] rfl ?_
          exact k_X4_follow_172 C v2 v3 v4 v5 K61 hK61 σ14 h
        · have h := h.2 c137
          refine g_mask [true, true, true, true, true, true, false, false] rfl ?_
          exact k_X4_follow_140 C v2 v3 v4 v5 K61 hK61 σ14 h
      · have h := h.2 c114
        refine g_aload_n C dX4_follow_117 rfl ?_
        refine g_iload C dX4_follow_118 rfl ?_
        refine g_iload_n C dX4_follow_120 rfl ?_
        refine g_callVi C 3 [.int r3, .int v3] (c_X0_keeps l D cy ad b0 C.A r3 v3) cal_X0_keeps mw_406 (by decide) rfl rfl ⟨Nat.le_of_ble_eq_true rfl, Nat.le_of_ble_eq_true rfl⟩ ⟨rfl, rfl⟩ ⟨Nat.zero_le _, Nat.zero_le _⟩ (Nat.le_of_ble_eq_true rfl) rfl dX4_follow_121 h (fun r15 σ16 h => ?_)
        refine g_if_eq C 172 dX4_follow_124 (by decide) (fun c124 => ?_) (fun c124 => ?_)
        · have h := h.1 c124
          refine g_mask [true, true, true, true, true, true, false, false] rfl ?_
          exact k_X4_follow_172 C v2 v3 v4 v5 K61 hK61 σ16 h
        · have h := h.2 c124
          refine g_goto C 140 dX4_follow_127 (by decide) ?_
          refine g_mask [true, true, true, true, true, true, false, false] rfl ?_
          exact k_X4_follow_140 C v2 v3 v4 v5 K61 hK61 σ16 h
    · have h := h.2 c94
      refine g_goto C 172 dX4_follow_97 (by decide) ?_
      refine g_mask [true, true, true, true, true, true, false, false] rfl ?_
      exact k_X4_follow_172 C v2 v3 v4 v5 K61 hK61 σ8 h
def wl_X4_follow_61 (v2 : Int32) (v3 : Int32) (v4 : Int32) (Q : Sg → Prop) : Nat → Int32 → Sg → Prop
  | 0, _, _ => False
  | n + 1, v5, σ => wb_X4_follow_61 v2 v3 v4 v5 (wl_X4_follow_61 v2 v3 v4 Q n) Q σ
set_option maxHeartbeats 4000000 in
set_option maxRecDepth 100000 in
theorem kl_X4_follow_61 {Q : Sg → Prop} (C : Cx p s m args meth c D cy ad b0 yX4_follow cX4_follow 8 none) (v2 : Int32) (v3 : Int32) (v4 : Int32) : ∀ (n : Nat) (v5 : Int32) (σ : Sg), wl_X4_follow_61 v2 v3 v4 Q n v5 σ → gV p l e rm_X4_follow s m args below meth c D cy ad b0 Q 8 61 σ [some (.ref (ad 4)), some (.ref (ad 3)), some (.int v2), some (.int v3), some (.int v4), some (.int v5), none, none] [] := by
  intro n
  induction n with
  | zero => intro v5 σ h; exact False.elim h
  | succ n ih =>
    intro v5 σ h
    exact kb_X4_follow_61 C v2 v3 v4 v5 (wl_X4_follow_61 v2 v3 v4 Q n) (fun z5 σ h => ih z5 σ h) σ h
def wp_X4_follow_28 (v2 : Int32) (v3 : Int32) (Q : Sg → Prop) (σ : Sg) : Prop :=
  wp_X8_pick 22 v2 σ (fun r1 σ2 => wp_X0_both r1 (nI 0) σ2 (fun r3 σ4 => wp_X0_turn r3 v3 σ4 (fun r5 σ6 => wp_X0_pastOf r5 σ6 (fun r7 σ8 => ∀ σ9 : Sg, σ9 = stF σ8 4 7 r7 → (∃ n, wl_X4_follow_61 v2 v3 r1 Q n (nI 0) σ9)))))
set_option maxHeartbeats 4000000 in
set_option maxRecDepth 100000 in
theorem k_X4_follow_28 {Q : Sg → Prop} (C : Cx p s m args meth c D cy ad b0 yX4_follow cX4_follow 8 none) (v2 : Int32) (v3 : Int32) (σ : Sg) (h : wp_X4_follow_28 v2 v3 Q σ) : gV p l e rm_X4_follow s m args below meth c D cy ad b0 Q 8 28 σ [some (.ref (ad 4)), some (.ref (ad 3)), some (.int v2), some (.int v3), none, none, none, none] [] := by
  refine g_aload_n C dX4_follow_28 rfl ?_
  refine fget_4_0_X4_9 C rfl dX4_follow_29 ?_
  refine g_iload_n C dX4_follow_32 rfl ?_
  refine g_callNi C [.ref (ad 22), .int v2] (c_X8_pick l D cy ad b0 C.A 22 v2 (by decide)) cal_X8_pick nw_13 rfl ⟨Nat.le_of_ble_eq_true rfl, Nat.le_of_ble_eq_true rfl⟩ ⟨rfl, rfl⟩ ⟨Nat.zero_le _, Nat.zero_le _⟩ (Nat.le_of_ble_eq_true rfl) rfl dX4_follow_33 h (fun r1 σ2 h => ?_)
  refine g_istore C [some (.ref (ad 4)), some (.ref (ad 3)), some (.int v2), some (.int v3), some (.int r1), none, none, none] dX4_follow_36 (by decide) rfl ?_
  refine g_aload_n C dX4_follow_38 rfl ?_
  refine g_aload_n C dX4_follow_39 rfl ?_
  refine g_aload_n C dX4_follow_40 rfl ?_
  refine g_aload_n C dX4_follow_41 rfl ?_
  refine g_iload C dX4_follow_42 rfl ?_
  refine g_iconst C dX4_follow_44 kc_0 ?_
  refine g_callVi C 3 [.int r1, .int (nI 0)] (c_X0_both l D cy ad b0 C.A r1 (nI 0)) cal_X0_both mw_402 (by decide) rfl rfl ⟨Nat.le_of_ble_eq_true rfl, Nat.le_of_ble_eq_true rfl⟩ ⟨rfl, rfl⟩ ⟨Nat.zero_le _, Nat.zero_le _⟩ (Nat.le_of_ble_eq_true rfl) rfl dX4_follow_45 h (fun r3 σ4 h => ?_)
  refine g_iload_n C dX4_follow_48 rfl ?_
  refine g_callVi C 3 [.int r3, .int v3] (c_X0_turn l D cy ad b0 C.A r3 v3) cal_X0_turn mw_403 (by decide) rfl rfl ⟨Nat.le_of_ble_eq_true rfl, Nat.le_of_ble_eq_true rfl⟩ ⟨rfl, rfl⟩ ⟨Nat.zero_le _, Nat.zero_le _⟩ (Nat.le_of_ble_eq_true rfl) rfl dX4_follow_49 h (fun r5 σ6 h => ?_)
  refine g_callVi C 3 [.int r5] (c_X0_pastOf l D cy ad b0 C.A r5) cal_X0_pastOf mw_395 (by decide) rfl rfl ⟨Nat.le_of_ble_eq_true rfl, Nat.le_of_ble_eq_true rfl⟩ ⟨rfl, rfl⟩ ⟨Nat.zero_le _, Nat.zero_le _⟩ (Nat.le_of_ble_eq_true rfl) rfl dX4_follow_52 h (fun r7 σ8 h => ?_)
  refine fput_4_7_X4_35 C rfl dX4_follow_55 (fun σ9 e_σ9 => ?_)
  have h := h σ9 e_σ9
  refine g_iconst C dX4_follow_58 kc_0 ?_
  refine g_istore C [some (.ref (ad 4)), some (.ref (ad 3)), some (.int v2), some (.int v3), some (.int r1), some (.int (nI 0)), none, none] dX4_follow_59 (by decide) rfl ?_
  obtain ⟨n, h⟩ := h
  exact kl_X4_follow_61 C v2 v3 r1 n (nI 0) σ9 h
def wb_X4_follow_3 (v2 : Int32) (v3 : Int32) (v4 : Int32) (K3 : Int32 → Sg → Prop) (K28 : Sg → Prop) (Q : Sg → Prop) (σ : Sg) : Prop :=
  (((gF σ 4 8) ≤ v4 → K28 σ) ∧ (¬ (gF σ 4 8) ≤ v4 → wp_X8_putLong 28 v4 (lN 0) σ (fun σ1 => ∀ x22 : Int32, x22 = v4 + (nI 1) → (K3 x22 σ1))))
set_option maxHeartbeats 4000000 in
set_option maxRecDepth 100000 in
theorem kb_X4_follow_3 {Q : Sg → Prop} (C : Cx p s m args meth c D cy ad b0 yX4_follow cX4_follow 8 none) (v2 : Int32) (v3 : Int32) (v4 : Int32) (K3 : Int32 → Sg → Prop) (K28 : Sg → Prop) (hK3 : ∀ (z4 : Int32) (σ : Sg), K3 z4 σ → gV p l e rm_X4_follow s m args below meth c D cy ad b0 Q 8 3 σ [some (.ref (ad 4)), some (.ref (ad 3)), some (.int v2), some (.int v3), some (.int z4), none, none, none] []) (hK28 : ∀  (σ : Sg), K28 σ → gV p l e rm_X4_follow s m args below meth c D cy ad b0 Q 8 28 σ [some (.ref (ad 4)), some (.ref (ad 3)), some (.int v2), some (.int v3), none, none, none, none] []) (σ : Sg) (h : wb_X4_follow_3 v2 v3 v4 K3 K28 Q σ) : gV p l e rm_X4_follow s m args below meth c D cy ad b0 Q 8 3 σ [some (.ref (ad 4)), some (.ref (ad 3)), some (.int v2), some (.int v3), some (.int v4), none, none, none] [] := by
  refine g_iload C dX4_follow_3 rfl ?_
  refine g_aload_n C dX4_follow_5 rfl ?_
  refine fget_4_8_X4_39 C rfl dX4_follow_6 ?_
  refine g_icmp_ge C 28 dX4_follow_9 (by decide) (fun c9 => ?_) (fun c9 => ?_)
  · have h := h.1 c9
    refine g_mask [true, true, true, true, false, false, false, false] rfl ?_
    exact hK28 σ h
  · have h := h.2 c9
    refine g_aload_n C dX4_follow_12 rfl ?_
    refine fget_4_6_X4_32 C rfl dX4_follow_13 ?_
    refine g_iload C dX4_follow_16 rfl ?_
    refine g_lconst C dX4_follow_18 kl_0 ?_
    refine g_callNv C [.ref (ad 28), .int v4, .long (lN 0)] (c_X8_putLong l D cy ad b0 C.A 28 v4 (lN 0) (by decide)) cal_X8_putLong nw_12 rfl ⟨Nat.le_of_ble_eq_true rfl, Nat.le_of_ble_eq_true rfl⟩ ⟨rfl, rfl⟩ ⟨Nat.zero_le _, Nat.zero_le _⟩ (Nat.le_of_ble_eq_true rfl) rfl dX4_follow_19 h (fun σ1 h => ?_)
    obtain ⟨x22, e_x22⟩ : ∃ v : Int32, v = v4 + (nI 1) := ⟨_, rfl⟩
    have h := h x22 e_x22
    refine g_iinc C [some (.ref (ad 4)), some (.ref (ad 3)), some (.int v2), some (.int v3), some (.int x22), none, none, none] dX4_follow_22 rfl e_x22.symm (by decide) rfl ?_
    refine g_goto C 3 dX4_follow_25 (by decide) ?_
    exact hK3 x22 σ1 h
def wl_X4_follow_3 (v2 : Int32) (v3 : Int32) (K28 : Sg → Prop) (Q : Sg → Prop) : Nat → Int32 → Sg → Prop
  | 0, _, _ => False
  | n + 1, v4, σ => wb_X4_follow_3 v2 v3 v4 (wl_X4_follow_3 v2 v3 K28 Q n) K28 Q σ
set_option maxHeartbeats 4000000 in
set_option maxRecDepth 100000 in
theorem kl_X4_follow_3 {Q : Sg → Prop} (C : Cx p s m args meth c D cy ad b0 yX4_follow cX4_follow 8 none) (v2 : Int32) (v3 : Int32) (K28 : Sg → Prop) (hK28 : ∀  (σ : Sg), K28 σ → gV p l e rm_X4_follow s m args below meth c D cy ad b0 Q 8 28 σ [some (.ref (ad 4)), some (.ref (ad 3)), some (.int v2), some (.int v3), none, none, none, none] []) : ∀ (n : Nat) (v4 : Int32) (σ : Sg), wl_X4_follow_3 v2 v3 K28 Q n v4 σ → gV p l e rm_X4_follow s m args below meth c D cy ad b0 Q 8 3 σ [some (.ref (ad 4)), some (.ref (ad 3)), some (.int v2), some (.int v3), some (.int v4), none, none, none] [] := by
  intro n
  induction n with
  | zero => intro v4 σ h; exact False.elim h
  | succ n ih =>
    intro v4 σ h
    exact kb_X4_follow_3 C v2 v3 v4 (wl_X4_follow_3 v2 v3 K28 Q n) K28 (fun z4 σ h => ih z4 σ h) hK28 σ h
def wp_X4_follow (a1 : Int32) (a2 : Int32) (σ : Sg) (Q : Sg → Prop) : Prop :=
  ∃ n, wl_X4_follow_3 a1 a2 (fun σ9 => wp_X4_follow_28 a1 a2 Q σ9) Q n (nI 0) σ
set_option maxHeartbeats 4000000 in
set_option maxRecDepth 100000 in
theorem c_X4_follow (l : Launch) (D : va_G) (cy : Nat → ClassId) (ad : Nat → Nat) (b0 : Nat) (hA : AdOk ad b0) (a1 : Int32) (a2 : Int32) : Ctv l D cy ad b0 yX4_follow cX4_follow 8 none rm_X4_follow [.ref (ad 4), .ref (ad 3), .int a1, .int a2] (fun σ Q => wp_X4_follow a1 a2 σ Q) := by
  intro σ Q h
  refine g_enter hA rfl (Nat.le_of_ble_eq_true rfl) [some (.ref (ad 4)), some (.ref (ad 3)), some (.int a1), some (.int a2), none, none, none, none] rfl ?_
  intro p e s m args below meth c C
  refine g_iconst C dX4_follow_0 kc_0 ?_
  refine g_istore C [some (.ref (ad 4)), some (.ref (ad 3)), some (.int a1), some (.int a2), some (.int (nI 0)), none, none, none] dX4_follow_1 (by decide) rfl ?_
  obtain ⟨n, h⟩ := h
  exact kl_X4_follow_3 C a1 a2 _ (fun σ9 h => by exact k_X4_follow_28 C a1 a2 σ9 h) n (nI 0) σ h
def rm_X4_isWork : Room := { frames := 1, cells := 0, slots := 0, locals := 21 }
def wb_X4_isWork_2 (v1 : Int32) (v2 : Int32) (K2 : Int32 → Sg → Prop) (Q : Int32 → Sg → Prop) (σ : Sg) : Prop :=
  (((gF σ 4 8) ≤ v2 → Q (nI 1) σ) ∧ (¬ (gF σ 4 8) ≤ v2 → wp_X8_pickLong 23 ((v1 * (nI 4)) + v2) σ (fun r1 σ2 => wp_X8_pickLong 28 v2 σ2 (fun r3 σ4 => (((lg_cmp r1 r3) = (nI 0) → ∀ x36 : Int32, x36 = v2 + (nI 1) → (K2 x36 σ4)) ∧ (¬ (lg_cmp r1 r3) = (nI 0) → Q (nI 0) σ4))))))
set_option maxHeartbeats 4000000 in
set_option maxRecDepth 100000 in
theorem kb_X4_isWork_2 {Q : Int32 → Sg → Prop} (C : Cx p s m args meth c D cy ad b0 yX4_isWork cX4_isWork 3 (some .boolean)) (v1 : Int32) (v2 : Int32) (K2 : Int32 → Sg → Prop) (hK2 : ∀ (z2 : Int32) (σ : Sg), K2 z2 σ → gI p l e rm_X4_isWork s m args below meth c D cy ad b0 Q 3 2 σ [some (.ref (ad 4)), some (.int v1), some (.int z2)] []) (σ : Sg) (h : wb_X4_isWork_2 v1 v2 K2 Q σ) : gI p l e rm_X4_isWork s m args below meth c D cy ad b0 Q 3 2 σ [some (.ref (ad 4)), some (.int v1), some (.int v2)] [] := by
  refine g_iload_n C dX4_isWork_2 rfl ?_
  refine g_aload_n C dX4_isWork_3 rfl ?_
  refine fget_4_8_X4_39 C rfl dX4_isWork_4 ?_
  refine g_icmp_ge C 42 dX4_isWork_7 (by decide) (fun c7 => ?_) (fun c7 => ?_)
  · have h := h.1 c7
    refine g_iconst C dX4_isWork_42 kc_1 ?_
    exact g_zret C (narrow_bl bl_1) dX4_isWork_43 h
  · have h := h.2 c7
    refine g_aload_n C dX4_isWork_10 rfl ?_
    refine fget_4_1_X4_15 C rfl dX4_isWork_11 ?_
    refine g_iload_n C dX4_isWork_14 rfl ?_
    refine g_iconst C dX4_isWork_15 kc_4 ?_
    refine g_imul C dX4_isWork_16 ?_
    refine g_iload_n C dX4_isWork_17 rfl ?_
    refine g_iadd C dX4_isWork_18 ?_
    refine g_callNl C [.ref (ad 23), .int ((v1 * (nI 4)) + v2)] (c_X8_pickLong l D cy ad b0 C.A 23 ((v1 * (nI 4)) + v2) (by decide)) cal_X8_pickLong nw_14 rfl ⟨Nat.le_of_ble_eq_true rfl, Nat.le_of_ble_eq_true rfl⟩ ⟨rfl, rfl⟩ ⟨Nat.zero_le _, Nat.zero_le _⟩ (Nat.le_of_ble_eq_true rfl) rfl dX4_isWork_19 h (fun r1 σ2 h => ?_)
    refine g_aload_n C dX4_isWork_22 rfl ?_
    refine fget_4_6_X4_32 C rfl dX4_isWork_23 ?_
    refine g_iload_n C dX4_isWork_26 rfl ?_
    refine g_callNl C [.ref (ad 28), .int v2] (c_X8_pickLong l D cy ad b0 C.A 28 v2 (by decide)) cal_X8_pickLong nw_14 rfl ⟨Nat.le_of_ble_eq_true rfl, Nat.le_of_ble_eq_true rfl⟩ ⟨rfl, rfl⟩ ⟨Nat.zero_le _, Nat.zero_le _⟩ (Nat.le_of_ble_eq_true rfl) rfl dX4_isWork_27 h (fun r3 σ4 h => ?_)
    refine g_lcmp C dX4_isWork_30 ?_
    refine g_if_eq C 36 dX4_isWork_31 (by decide) (fun c31 => ?_) (fun c31 => ?_)
    · have h := h.1 c31
      obtain ⟨x36, e_x36⟩ : ∃ v : Int32, v = v2 + (nI 1) := ⟨_, rfl⟩
      have h := h x36 e_x36
      refine g_iinc C [some (.ref (ad 4)), some (.int v1), some (.int x36)] dX4_isWork_36 rfl e_x36.symm (by decide) rfl ?_
      refine g_goto C 2 dX4_isWork_39 (by decide) ?_
      exact hK2 x36 σ4 h
    · have h := h.2 c31
      refine g_iconst C dX4_isWork_34 kc_0 ?_
      exact g_zret C (narrow_bl bl_0) dX4_isWork_35 h
def wl_X4_isWork_2 (v1 : Int32) (Q : Int32 → Sg → Prop) : Nat → Int32 → Sg → Prop
  | 0, _, _ => False
  | n + 1, v2, σ => wb_X4_isWork_2 v1 v2 (wl_X4_isWork_2 v1 Q n) Q σ
set_option maxHeartbeats 4000000 in
set_option maxRecDepth 100000 in
theorem kl_X4_isWork_2 {Q : Int32 → Sg → Prop} (C : Cx p s m args meth c D cy ad b0 yX4_isWork cX4_isWork 3 (some .boolean)) (v1 : Int32) : ∀ (n : Nat) (v2 : Int32) (σ : Sg), wl_X4_isWork_2 v1 Q n v2 σ → gI p l e rm_X4_isWork s m args below meth c D cy ad b0 Q 3 2 σ [some (.ref (ad 4)), some (.int v1), some (.int v2)] [] := by
  intro n
  induction n with
  | zero => intro v2 σ h; exact False.elim h
  | succ n ih =>
    intro v2 σ h
    exact kb_X4_isWork_2 C v1 v2 (wl_X4_isWork_2 v1 Q n) (fun z2 σ h => ih z2 σ h) σ h
def wp_X4_isWork (a0 : Int32) (σ : Sg) (Q : Int32 → Sg → Prop) : Prop :=
  ∃ n, wl_X4_isWork_2 a0 Q n (nI 0) σ
set_option maxHeartbeats 4000000 in
set_option maxRecDepth 100000 in
theorem c_X4_isWork (l : Launch) (D : va_G) (cy : Nat → ClassId) (ad : Nat → Nat) (b0 : Nat) (hA : AdOk ad b0) (a0 : Int32) : Cti l D cy ad b0 yX4_isWork cX4_isWork 3 (some .boolean) rm_X4_isWork [.ref (ad 4), .int a0] (fun σ Q => wp_X4_isWork a0 σ Q) := by
  intro σ Q h
  refine g_enter hA rfl (Nat.le_of_ble_eq_true rfl) [some (.ref (ad 4)), some (.int a0), none] rfl ?_
  intro p e s m args below meth c C
  refine g_iconst C dX4_isWork_0 kc_0 ?_
  refine g_istore_n C [some (.ref (ad 4)), some (.int a0), some (.int (nI 0))] dX4_isWork_1 (by decide) rfl ?_
  obtain ⟨n, h⟩ := h
  exact kl_X4_isWork_2 C a0 n (nI 0) σ h
def rm_X4_findWork : Room := { frames := 2, cells := 0, slots := 0, locals := 43 }
def wb_X4_findWork_14 (v1 : Int32) (v2 : Int32) (K14 : Int32 → Int32 → Sg → Prop) (Q : Int32 → Sg → Prop) (σ : Sg) : Prop :=
  (((nI 1921) ≤ v2 → Q (-9 : Int32) σ) ∧ (¬ (nI 1921) ≤ v2 → ((v1 = (-9 : Int32) → Q (-9 : Int32) σ) ∧ (¬ v1 = (-9 : Int32) → wp_X4_isWork v1 σ (fun r1 σ2 => ((r1 = (nI 0) → wp_X8_pick 27 v1 σ2 (fun r3 σ4 => ∀ x46 : Int32, x46 = v2 + (nI 1) → (K14 r3 x46 σ4))) ∧ (¬ r1 = (nI 0) → Q v1 σ2)))))))
set_option maxHeartbeats 4000000 in
set_option maxRecDepth 100000 in
theorem kb_X4_findWork_14 {Q : Int32 → Sg → Prop} (C : Cx p s m args meth c D cy ad b0 yX4_findWork cX4_findWork 3 (some .int)) (v1 : Int32) (v2 : Int32) (K14 : Int32 → Int32 → Sg → Prop) (hK14 : ∀ (z1 : Int32) (z2 : Int32) (σ : Sg), K14 z1 z2 σ → gI p l e rm_X4_findWork s m args below meth c D cy ad b0 Q 3 14 σ [some (.ref (ad 4)), some (.int z1), some (.int z2)] []) (σ : Sg) (h : wb_X4_findWork_14 v1 v2 K14 Q σ) : gI p l e rm_X4_findWork s m args below meth c D cy ad b0 Q 3 14 σ [some (.ref (ad 4)), some (.int v1), some (.int v2)] [] := by
  refine g_iload_n C dX4_findWork_14 rfl ?_
  refine g_sipush C dX4_findWork_15 ks_1921 ?_
  refine g_icmp_ge C 52 dX4_findWork_18 (by decide) (fun c18 => ?_) (fun c18 => ?_)
  · have h := h.1 c18
    refine g_bipush C dX4_findWork_52 kb_m9 ?_
    exact g_iret C dX4_findWork_54 h
  · have h := h.2 c18
    refine g_iload_n C dX4_findWork_21 rfl ?_
    refine g_bipush C dX4_findWork_22 kb_m9 ?_
    refine g_icmp_eq C 52 dX4_findWork_24 (by decide) (fun c24 => ?_) (fun c24 => ?_)
    · have h := h.1 c24
      refine g_bipush C dX4_findWork_52 kb_m9 ?_
      exact g_iret C dX4_findWork_54 h
    · have h := h.2 c24
      refine g_aload_n C dX4_findWork_27 rfl ?_
      refine g_iload_n C dX4_findWork_28 rfl ?_
      refine g_callVi C 4 [.int v1] (c_X4_isWork l D cy ad b0 C.A v1) cal_X4_isWork mw_420 (by decide) rfl rfl ⟨Nat.le_of_ble_eq_true rfl, Nat.le_of_ble_eq_true rfl⟩ ⟨rfl, rfl⟩ ⟨Nat.zero_le _, Nat.zero_le _⟩ (Nat.le_of_ble_eq_true rfl) rfl dX4_findWork_29 h (fun r1 σ2 h => ?_)
      refine g_if_eq C 37 dX4_findWork_32 (by decide) (fun c32 => ?_) (fun c32 => ?_)
      · have h := h.1 c32
        refine g_aload_n C dX4_findWork_37 rfl ?_
        refine fget_4_5_X4_29 C rfl dX4_findWork_38 ?_
        refine g_iload_n C dX4_findWork_41 rfl ?_
        refine g_callNi C [.ref (ad 27), .int v1] (c_X8_pick l D cy ad b0 C.A 27 v1 (by decide)) cal_X8_pick nw_13 rfl ⟨Nat.le_of_ble_eq_true rfl, Nat.le_of_ble_eq_true rfl⟩ ⟨rfl, rfl⟩ ⟨Nat.zero_le _, Nat.zero_le _⟩ (Nat.le_of_ble_eq_true rfl) rfl dX4_findWork_42 h (fun r3 σ4 h => ?_)
        refine g_istore_n C [some (.ref (ad 4)), some (.int r3), some (.int v2)] dX4_findWork_45 (by decide) rfl ?_
        obtain ⟨x46, e_x46⟩ : ∃ v : Int32, v = v2 + (nI 1) := ⟨_, rfl⟩
        have h := h x46 e_x46
        refine g_iinc C [some (.ref (ad 4)), some (.int r3), some (.int x46)] dX4_findWork_46 rfl e_x46.symm (by decide) rfl ?_
        refine g_goto C 14 dX4_findWork_49 (by decide) ?_
        exact hK14 r3 x46 σ4 h
      · have h := h.2 c32
        refine g_iload_n C dX4_findWork_35 rfl ?_
        exact g_iret C dX4_findWork_36 h
def wl_X4_findWork_14 (Q : Int32 → Sg → Prop) : Nat → Int32 → Int32 → Sg → Prop
  | 0, _, _, _ => False
  | n + 1, v1, v2, σ => wb_X4_findWork_14 v1 v2 (wl_X4_findWork_14 Q n) Q σ
set_option maxHeartbeats 4000000 in
set_option maxRecDepth 100000 in
theorem kl_X4_findWork_14 {Q : Int32 → Sg → Prop} (C : Cx p s m args meth c D cy ad b0 yX4_findWork cX4_findWork 3 (some .int)) : ∀ (n : Nat) (v1 : Int32) (v2 : Int32) (σ : Sg), wl_X4_findWork_14 Q n v1 v2 σ → gI p l e rm_X4_findWork s m args below meth c D cy ad b0 Q 3 14 σ [some (.ref (ad 4)), some (.int v1), some (.int v2)] [] := by
  intro n
  induction n with
  | zero => intro v1 v2 σ h; exact False.elim h
  | succ n ih =>
    intro v1 v2 σ h
    exact kb_X4_findWork_14 C v1 v2 (wl_X4_findWork_14 Q n) (fun z1 z2 σ h => ih z1 z2 σ h) σ h
def wp_X4_findWork (σ : Sg) (Q : Int32 → Sg → Prop) : Prop :=
  wp_X8_pick 26 (gF σ 4 7) σ (fun r1 σ2 => ∃ n, wl_X4_findWork_14 Q n r1 (nI 0) σ2)
set_option maxHeartbeats 4000000 in
set_option maxRecDepth 100000 in
theorem c_X4_findWork (l : Launch) (D : va_G) (cy : Nat → ClassId) (ad : Nat → Nat) (b0 : Nat) (hA : AdOk ad b0) : Cti l D cy ad b0 yX4_findWork cX4_findWork 3 (some .int) rm_X4_findWork [.ref (ad 4)] (fun σ Q => wp_X4_findWork σ Q) := by
  intro σ Q h
  refine g_enter hA rfl (Nat.le_of_ble_eq_true rfl) [some (.ref (ad 4)), none, none] rfl ?_
  intro p e s m args below meth c C
  refine g_aload_n C dX4_findWork_0 rfl ?_
  refine fget_4_4_X4_26 C rfl dX4_findWork_1 ?_
  refine g_aload_n C dX4_findWork_4 rfl ?_
  refine fget_4_7_X4_35 C rfl dX4_findWork_5 ?_
  refine g_callNi C [.ref (ad 26), .int (gF σ 4 7)] (c_X8_pick l D cy ad b0 C.A 26 (gF σ 4 7) (by decide)) cal_X8_pick nw_13 rfl ⟨Nat.le_of_ble_eq_true rfl, Nat.le_of_ble_eq_true rfl⟩ ⟨rfl, rfl⟩ ⟨Nat.zero_le _, Nat.zero_le _⟩ (Nat.le_of_ble_eq_true rfl) rfl dX4_findWork_8 h (fun r1 σ2 h => ?_)
  refine g_istore_n C [some (.ref (ad 4)), some (.int r1), none] dX4_findWork_11 (by decide) rfl ?_
  refine g_iconst C dX4_findWork_12 kc_0 ?_
  refine g_istore_n C [some (.ref (ad 4)), some (.int r1), some (.int (nI 0))] dX4_findWork_13 (by decide) rfl ?_
  obtain ⟨n, h⟩ := h
  exact kl_X4_findWork_14 C n r1 (nI 0) σ2 h
def rm_X4_addWork : Room := { frames := 3, cells := 0, slots := 0, locals := 62 }
def wp_X4_addWork_67 (v2 : Int32) (Q : Int32 → Sg → Prop) (σ : Sg) : Prop :=
  wp_X0_noPlace σ (fun r1 σ2 => wp_X0_futureOf r1 σ2 (fun r3 σ4 => wp_X4_isIn v2 r3 σ4 (fun r5 σ6 => wp_X8_set 25 v2 r5 σ6 (fun σ7 => wp_X8_pick 26 (gF σ7 4 7) σ7 (fun r8 σ9 => wp_X8_put 27 v2 r8 σ9 (fun σ10 => wp_X8_put 26 (gF σ10 4 7) v2 σ10 (fun σ11 => ∀ σ12 : Sg, σ12 = stF σ11 4 10 ((gF σ11 4 10) + (nI 1)) → (Q v2 σ12))))))))
set_option maxHeartbeats 4000000 in
set_option maxRecDepth 100000 in
theorem k_X4_addWork_67 {Q : Int32 → Sg → Prop} (C : Cx p s m args meth c D cy ad b0 yX4_addWork cX4_addWork 4 (some .int)) (v2 : Int32) (σ : Sg) (h : wp_X4_addWork_67 v2 Q σ) : gI p l e rm_X4_addWork s m args below meth c D cy ad b0 Q 4 67 σ [some (.ref (ad 4)), some (.ref (ad 3)), some (.int v2), none] [] := by
  refine g_aload_n C dX4_addWork_67 rfl ?_
  refine fget_4_3_X4_22 C rfl dX4_addWork_68 ?_
  refine g_iload_n C dX4_addWork_71 rfl ?_
  refine g_aload_n C dX4_addWork_72 rfl ?_
  refine g_iload_n C dX4_addWork_73 rfl ?_
  refine g_aload_n C dX4_addWork_74 rfl ?_
  refine g_aload_n C dX4_addWork_75 rfl ?_
  refine g_callVi C 3 [] (c_X0_noPlace l D cy ad b0 C.A) cal_X0_noPlace mw_391 (by decide) rfl rfl ⟨Nat.le_of_ble_eq_true rfl, Nat.le_of_ble_eq_true rfl⟩ ⟨rfl, rfl⟩ ⟨Nat.zero_le _, Nat.zero_le _⟩ (Nat.le_of_ble_eq_true rfl) rfl dX4_addWork_76 h (fun r1 σ2 h => ?_)
  refine g_callVi C 3 [.int r1] (c_X0_futureOf l D cy ad b0 C.A r1) cal_X0_futureOf mw_405 (by decide) rfl rfl ⟨Nat.le_of_ble_eq_true rfl, Nat.le_of_ble_eq_true rfl⟩ ⟨rfl, rfl⟩ ⟨Nat.zero_le _, Nat.zero_le _⟩ (Nat.le_of_ble_eq_true rfl) rfl dX4_addWork_79 h (fun r3 σ4 h => ?_)
  refine g_callVi C 4 [.int v2, .int r3] (c_X4_isIn l D cy ad b0 C.A v2 r3) cal_X4_isIn mw_410 (by decide) rfl rfl ⟨Nat.le_of_ble_eq_true rfl, Nat.le_of_ble_eq_true rfl⟩ ⟨rfl, rfl⟩ ⟨Nat.zero_le _, Nat.zero_le _⟩ (Nat.le_of_ble_eq_true rfl) rfl dX4_addWork_82 h (fun r5 σ6 h => ?_)
  refine g_callNv C [.ref (ad 25), .int v2, .int r5] (c_X8_set l D cy ad b0 C.A 25 v2 r5 (by decide)) cal_X8_set nw_11 rfl ⟨Nat.le_of_ble_eq_true rfl, Nat.le_of_ble_eq_true rfl⟩ ⟨rfl, rfl⟩ ⟨Nat.zero_le _, Nat.zero_le _⟩ (Nat.le_of_ble_eq_true rfl) rfl dX4_addWork_85 h (fun σ7 h => ?_)
  refine g_aload_n C dX4_addWork_88 rfl ?_
  refine fget_4_5_X4_29 C rfl dX4_addWork_89 ?_
  refine g_iload_n C dX4_addWork_92 rfl ?_
  refine g_aload_n C dX4_addWork_93 rfl ?_
  refine fget_4_4_X4_26 C rfl dX4_addWork_94 ?_
  refine g_aload_n C dX4_addWork_97 rfl ?_
  refine fget_4_7_X4_35 C rfl dX4_addWork_98 ?_
  refine g_callNi C [.ref (ad 26), .int (gF σ7 4 7)] (c_X8_pick l D cy ad b0 C.A 26 (gF σ7 4 7) (by decide)) cal_X8_pick nw_13 rfl ⟨Nat.le_of_ble_eq_true rfl, Nat.le_of_ble_eq_true rfl⟩ ⟨rfl, rfl⟩ ⟨Nat.zero_le _, Nat.zero_le _⟩ (Nat.le_of_ble_eq_true rfl) rfl dX4_addWork_101 h (fun r8 σ9 h => ?_)
  refine g_callNv C [.ref (ad 27), .int v2, .int r8] (c_X8_put l D cy ad b0 C.A 27 v2 r8 (by decide)) cal_X8_put nw_10 rfl ⟨Nat.le_of_ble_eq_true rfl, Nat.le_of_ble_eq_true rfl⟩ ⟨rfl, rfl⟩ ⟨Nat.zero_le _, Nat.zero_le _⟩ (Nat.le_of_ble_eq_true rfl) rfl dX4_addWork_104 h (fun σ10 h => ?_)
  refine g_aload_n C dX4_addWork_107 rfl ?_
  refine fget_4_4_X4_26 C rfl dX4_addWork_108 ?_
  refine g_aload_n C dX4_addWork_111 rfl ?_
  refine fget_4_7_X4_35 C rfl dX4_addWork_112 ?_
  refine g_iload_n C dX4_addWork_115 rfl ?_
  refine g_callNv C [.ref (ad 26), .int (gF σ10 4 7), .int v2] (c_X8_put l D cy ad b0 C.A 26 (gF σ10 4 7) v2 (by decide)) cal_X8_put nw_10 rfl ⟨Nat.le_of_ble_eq_true rfl, Nat.le_of_ble_eq_true rfl⟩ ⟨rfl, rfl⟩ ⟨Nat.zero_le _, Nat.zero_le _⟩ (Nat.le_of_ble_eq_true rfl) rfl dX4_addWork_116 h (fun σ11 h => ?_)
  refine g_aload_n C dX4_addWork_119 rfl ?_
  refine g_dup C dX4_addWork_120 rfl ?_
  refine fget_4_10_X4_45 C rfl dX4_addWork_121 ?_
  refine g_iconst C dX4_addWork_124 kc_1 ?_
  refine g_iadd C dX4_addWork_125 ?_
  refine fput_4_10_X4_45 C rfl dX4_addWork_126 (fun σ12 e_σ12 => ?_)
  have h := h σ12 e_σ12
  refine g_iload_n C dX4_addWork_129 rfl ?_
  exact g_iret C dX4_addWork_130 h
def wb_X4_addWork_33 (v2 : Int32) (v3 : Int32) (K33 : Int32 → Sg → Prop) (K67 : Sg → Prop) (Q : Int32 → Sg → Prop) (σ : Sg) : Prop :=
  (((gF σ 4 8) ≤ v3 → K67 σ) ∧ (¬ (gF σ 4 8) ≤ v3 → wp_X8_pickLong 28 v3 σ (fun r1 σ2 => wp_X8_putLong 23 ((v2 * (nI 4)) + v3) r1 σ2 (fun σ3 => ∀ x61 : Int32, x61 = v3 + (nI 1) → (K33 x61 σ3)))))
set_option maxHeartbeats 4000000 in
set_option maxRecDepth 100000 in
theorem kb_X4_addWork_33 {Q : Int32 → Sg → Prop} (C : Cx p s m args meth c D cy ad b0 yX4_addWork cX4_addWork 4 (some .int)) (v2 : Int32) (v3 : Int32) (K33 : Int32 → Sg → Prop) (K67 : Sg → Prop) (hK33 : ∀ (z3 : Int32) (σ : Sg), K33 z3 σ → gI p l e rm_X4_addWork s m args below meth c D cy ad b0 Q 4 33 σ [some (.ref (ad 4)), some (.ref (ad 3)), some (.int v2), some (.int z3)] []) (hK67 : ∀  (σ : Sg), K67 σ → gI p l e rm_X4_addWork s m args below meth c D cy ad b0 Q 4 67 σ [some (.ref (ad 4)), some (.ref (ad 3)), some (.int v2), none] []) (σ : Sg) (h : wb_X4_addWork_33 v2 v3 K33 K67 Q σ) : gI p l e rm_X4_addWork s m args below meth c D cy ad b0 Q 4 33 σ [some (.ref (ad 4)), some (.ref (ad 3)), some (.int v2), some (.int v3)] [] := by
  refine g_iload_n C dX4_addWork_33 rfl ?_
  refine g_aload_n C dX4_addWork_34 rfl ?_
  refine fget_4_8_X4_39 C rfl dX4_addWork_35 ?_
  refine g_icmp_ge C 67 dX4_addWork_38 (by decide) (fun c38 => ?_) (fun c38 => ?_)
  · have h := h.1 c38
    refine g_mask [true, true, true, false] rfl ?_
    exact hK67 σ h
  · have h := h.2 c38
    refine g_aload_n C dX4_addWork_41 rfl ?_
    refine fget_4_1_X4_15 C rfl dX4_addWork_42 ?_
    refine g_iload_n C dX4_addWork_45 rfl ?_
    refine g_iconst C dX4_addWork_46 kc_4 ?_
    refine g_imul C dX4_addWork_47 ?_
    refine g_iload_n C dX4_addWork_48 rfl ?_
    refine g_iadd C dX4_addWork_49 ?_
    refine g_aload_n C dX4_addWork_50 rfl ?_
    refine fget_4_6_X4_32 C rfl dX4_addWork_51 ?_
    refine g_iload_n C dX4_addWork_54 rfl ?_
    refine g_callNl C [.ref (ad 28), .int v3] (c_X8_pickLong l D cy ad b0 C.A 28 v3 (by decide)) cal_X8_pickLong nw_14 rfl ⟨Nat.le_of_ble_eq_true rfl, Nat.le_of_ble_eq_true rfl⟩ ⟨rfl, rfl⟩ ⟨Nat.zero_le _, Nat.zero_le _⟩ (Nat.le_of_ble_eq_true rfl) rfl dX4_addWork_55 h (fun r1 σ2 h => ?_)
    refine g_callNv C [.ref (ad 23), .int ((v2 * (nI 4)) + v3), .long r1] (c_X8_putLong l D cy ad b0 C.A 23 ((v2 * (nI 4)) + v3) r1 (by decide)) cal_X8_putLong nw_12 rfl ⟨Nat.le_of_ble_eq_true rfl, Nat.le_of_ble_eq_true rfl⟩ ⟨rfl, rfl⟩ ⟨Nat.zero_le _, Nat.zero_le _⟩ (Nat.le_of_ble_eq_true rfl) rfl dX4_addWork_58 h (fun σ3 h => ?_)
    obtain ⟨x61, e_x61⟩ : ∃ v : Int32, v = v3 + (nI 1) := ⟨_, rfl⟩
    have h := h x61 e_x61
    refine g_iinc C [some (.ref (ad 4)), some (.ref (ad 3)), some (.int v2), some (.int x61)] dX4_addWork_61 rfl e_x61.symm (by decide) rfl ?_
    refine g_goto C 33 dX4_addWork_64 (by decide) ?_
    exact hK33 x61 σ3 h
def wl_X4_addWork_33 (v2 : Int32) (K67 : Sg → Prop) (Q : Int32 → Sg → Prop) : Nat → Int32 → Sg → Prop
  | 0, _, _ => False
  | n + 1, v3, σ => wb_X4_addWork_33 v2 v3 (wl_X4_addWork_33 v2 K67 Q n) K67 Q σ
set_option maxHeartbeats 4000000 in
set_option maxRecDepth 100000 in
theorem kl_X4_addWork_33 {Q : Int32 → Sg → Prop} (C : Cx p s m args meth c D cy ad b0 yX4_addWork cX4_addWork 4 (some .int)) (v2 : Int32) (K67 : Sg → Prop) (hK67 : ∀  (σ : Sg), K67 σ → gI p l e rm_X4_addWork s m args below meth c D cy ad b0 Q 4 67 σ [some (.ref (ad 4)), some (.ref (ad 3)), some (.int v2), none] []) : ∀ (n : Nat) (v3 : Int32) (σ : Sg), wl_X4_addWork_33 v2 K67 Q n v3 σ → gI p l e rm_X4_addWork s m args below meth c D cy ad b0 Q 4 33 σ [some (.ref (ad 4)), some (.ref (ad 3)), some (.int v2), some (.int v3)] [] := by
  intro n
  induction n with
  | zero => intro v3 σ h; exact False.elim h
  | succ n ih =>
    intro v3 σ h
    exact kb_X4_addWork_33 C v2 v3 (wl_X4_addWork_33 v2 K67 Q n) K67 (fun z3 σ h => ih z3 σ h) hK67 σ h
def wp_X4_addWork (σ : Sg) (Q : Int32 → Sg → Prop) : Prop :=
  (((gF σ 4 10) < (gF σ 4 9) → ∀ x18 : Int32, x18 = (gF σ 4 10) → (wp_X8_put 22 x18 (gF σ 4 7) σ (fun σ1 => ∃ n, wl_X4_addWork_33 x18 (fun σ9 => wp_X4_addWork_67 x18 Q σ9) Q n (nI 0) σ1))) ∧ (¬ (gF σ 4 10) < (gF σ 4 9) → Q (-9 : Int32) σ))
set_option maxHeartbeats 4000000 in
set_option maxRecDepth 100000 in
theorem c_X4_addWork (l : Launch) (D : va_G) (cy : Nat → ClassId) (ad : Nat → Nat) (b0 : Nat) (hA : AdOk ad b0) : Cti l D cy ad b0 yX4_addWork cX4_addWork 4 (some .int) rm_X4_addWork [.ref (ad 4), .ref (ad 3)] (fun σ Q => wp_X4_addWork σ Q) := by
  intro σ Q h
  refine g_enter hA rfl (Nat.le_of_ble_eq_true rfl) [some (.ref (ad 4)), some (.ref (ad 3)), none, none] rfl ?_
  intro p e s m args below meth c C
  refine g_aload_n C dX4_addWork_0 rfl ?_
  refine fget_4_10_X4_45 C rfl dX4_addWork_1 ?_
  refine g_aload_n C dX4_addWork_4 rfl ?_
  refine fget_4_9_X4_42 C rfl dX4_addWork_5 ?_
  refine g_icmp_lt C 14 dX4_addWork_8 (by decide) (fun c8 => ?_) (fun c8 => ?_)
  · have h := h.1 c8
    refine g_aload_n C dX4_addWork_14 rfl ?_
    refine fget_4_10_X4_45 C rfl dX4_addWork_15 ?_
    refine g_topi (fun x18 e_x18 => ?_)
    have h := h x18 e_x18
    refine g_istore_n C [some (.ref (ad 4)), some (.ref (ad 3)), some (.int x18), none] dX4_addWork_18 (by decide) rfl ?_
    refine g_aload_n C dX4_addWork_19 rfl ?_
    refine fget_4_0_X4_9 C rfl dX4_addWork_20 ?_
    refine g_iload_n C dX4_addWork_23 rfl ?_
    refine g_aload_n C dX4_addWork_24 rfl ?_
    refine fget_4_7_X4_35 C rfl dX4_addWork_25 ?_
    refine g_callNv C [.ref (ad 22), .int x18, .int (gF σ 4 7)] (c_X8_put l D cy ad b0 C.A 22 x18 (gF σ 4 7) (by decide)) cal_X8_put nw_10 rfl ⟨Nat.le_of_ble_eq_true rfl, Nat.le_of_ble_eq_true rfl⟩ ⟨rfl, rfl⟩ ⟨Nat.zero_le _, Nat.zero_le _⟩ (Nat.le_of_ble_eq_true rfl) rfl dX4_addWork_28 h (fun σ1 h => ?_)
    refine g_iconst C dX4_addWork_31 kc_0 ?_
    refine g_istore_n C [some (.ref (ad 4)), some (.ref (ad 3)), some (.int x18), some (.int (nI 0))] dX4_addWork_32 (by decide) rfl ?_
    obtain ⟨n, h⟩ := h
    exact kl_X4_addWork_33 C x18 _ (fun σ9 h => by exact k_X4_addWork_67 C x18 σ9 h) n (nI 0) σ1 h
  · have h := h.2 c8
    refine g_bipush C dX4_addWork_11 kb_m9 ?_
    exact g_iret C dX4_addWork_13 h
def rm_X4_make : Room := { frames := 4, cells := 0, slots := 0, locals := 89 }
def wp_X4_make_85 (v2 : Int32) (K7 : Int32 → Sg → Prop) (Q : Int32 → Sg → Prop) (σ : Sg) : Prop :=
  ∀ x85 : Int32, x85 = v2 + (nI 1) → (K7 x85 σ)
set_option maxHeartbeats 4000000 in
set_option maxRecDepth 100000 in
theorem k_X4_make_85 {Q : Int32 → Sg → Prop} (C : Cx p s m args meth c D cy ad b0 yX4_make cX4_make 5 (some .boolean)) (v2 : Int32) (K7 : Int32 → Sg → Prop) (hK7 : ∀ (z2 : Int32) (σ : Sg), K7 z2 σ → gI p l e rm_X4_make s m args below meth c D cy ad b0 Q 5 7 σ [some (.ref (ad 4)), some (.ref (ad 3)), some (.int z2), none, none] []) (σ : Sg) (h : wp_X4_make_85 v2 K7 Q σ) : gI p l e rm_X4_make s m args below meth c D cy ad b0 Q 5 85 σ [some (.ref (ad 4)), some (.ref (ad 3)), some (.int v2), none, none] [] := by
  obtain ⟨x85, e_x85⟩ : ∃ v : Int32, v = v2 + (nI 1) := ⟨_, rfl⟩
  have h := h x85 e_x85
  refine g_iinc C [some (.ref (ad 4)), some (.ref (ad 3)), some (.int x85), none, none] dX4_make_85 rfl e_x85.symm (by decide) rfl ?_
  refine g_goto C 7 dX4_make_88 (by decide) ?_
  exact hK7 x85 σ h
def wp_X4_make_56 (v2 : Int32) (v3 : Int32) (v4 : Int32) (K24 : Int32 → Sg → Prop) (Q : Int32 → Sg → Prop) (σ : Sg) : Prop :=
  ((¬ v4 = (-9 : Int32) → wp_X8_put 24 ((v2 * (nI 4)) + v3) v4 σ (fun σ1 => ∀ x79 : Int32, x79 = v3 + (nI 1) → (K24 x79 σ1))) ∧ (v4 = (-9 : Int32) → Q (nI 0) σ))
set_option maxHeartbeats 4000000 in
set_option maxRecDepth 100000 in
theorem k_X4_make_56 {Q : Int32 → Sg → Prop} (C : Cx p s m args meth c D cy ad b0 yX4_make cX4_make 5 (some .boolean)) (v2 : Int32) (v3 : Int32) (v4 : Int32) (K24 : Int32 → Sg → Prop) (hK24 : ∀ (z3 : Int32) (σ : Sg), K24 z3 σ → gI p l e rm_X4_make s m args below meth c D cy ad b0 Q 5 24 σ [some (.ref (ad 4)), some (.ref (ad 3)), some (.int v2), some (.int z3), none] []) (σ : Sg) (h : wp_X4_make_56 v2 v3 v4 K24 Q σ) : gI p l e rm_X4_make s m args below meth c D cy ad b0 Q 5 56 σ [some (.ref (ad 4)), some (.ref (ad 3)), some (.int v2), some (.int v3), some (.int v4)] [] := by
  refine g_iload C dX4_make_56 rfl ?_
  refine g_bipush C dX4_make_58 kb_m9 ?_
  refine g_icmp_ne C 65 dX4_make_60 (by decide) (fun c60 => ?_) (fun c60 => ?_)
  · have h := h.1 c60
    refine g_aload_n C dX4_make_65 rfl ?_
    refine fget_4_2_X4_19 C rfl dX4_make_66 ?_
    refine g_iload_n C dX4_make_69 rfl ?_
    refine g_iconst C dX4_make_70 kc_4 ?_
    refine g_imul C dX4_make_71 ?_
    refine g_iload_n C dX4_make_72 rfl ?_
    refine g_iadd C dX4_make_73 ?_
    refine g_iload C dX4_make_74 rfl ?_
    refine g_callNv C [.ref (ad 24), .int ((v2 * (nI 4)) + v3), .int v4] (c_X8_put l D cy ad b0 C.A 24 ((v2 * (nI 4)) + v3) v4 (by decide)) cal_X8_put nw_10 rfl ⟨Nat.le_of_ble_eq_true rfl, Nat.le_of_ble_eq_true rfl⟩ ⟨rfl, rfl⟩ ⟨Nat.zero_le _, Nat.zero_le _⟩ (Nat.le_of_ble_eq_true rfl) rfl dX4_make_76 h (fun σ1 h => ?_)
    obtain ⟨x79, e_x79⟩ : ∃ v : Int32, v = v3 + (nI 1) := ⟨_, rfl⟩
    have h := h x79 e_x79
    refine g_iinc C [some (.ref (ad 4)), some (.ref (ad 3)), some (.int v2), some (.int x79), some (.int v4)] dX4_make_79 rfl e_x79.symm (by decide) rfl ?_
    refine g_goto C 24 dX4_make_82 (by decide) ?_
    refine g_mask [true, true, true, true, false] rfl ?_
    exact hK24 x79 σ1 h
  · have h := h.2 c60
    refine g_iconst C dX4_make_63 kc_0 ?_
    exact g_zret C (narrow_bl bl_0) dX4_make_64 h
def wb_X4_make_24 (v2 : Int32) (v3 : Int32) (K24 : Int32 → Sg → Prop) (K85 : Sg → Prop) (Q : Int32 → Sg → Prop) (σ : Sg) : Prop :=
  (((nI 4) ≤ v3 → K85 σ) ∧ (¬ (nI 4) ≤ v3 → wp_X4_follow v2 v3 σ (fun σ1 => wp_X4_findWork σ1 (fun r2 σ3 => ((¬ r2 = (-9 : Int32) → wp_X4_make_56 v2 v3 r2 K24 Q σ3) ∧ (r2 = (-9 : Int32) → wp_X4_addWork σ3 (fun r4 σ5 => wp_X4_make_56 v2 v3 r4 K24 Q σ5)))))))
set_option maxHeartbeats 4000000 in
set_option maxRecDepth 100000 in
theorem kb_X4_make_24 {Q : Int32 → Sg → Prop} (C : Cx p s m args meth c D cy ad b0 yX4_make cX4_make 5 (some .boolean)) (v2 : Int32) (v3 : Int32) (K24 : Int32 → Sg → Prop) (K85 : Sg → Prop) (hK24 : ∀ (z3 : Int32) (σ : Sg), K24 z3 σ → gI p l e rm_X4_make s m args below meth c D cy ad b0 Q 5 24 σ [some (.ref (ad 4)), some (.ref (ad 3)), some (.int v2), some (.int z3), none] []) (hK85 : ∀  (σ : Sg), K85 σ → gI p l e rm_X4_make s m args below meth c D cy ad b0 Q 5 85 σ [some (.ref (ad 4)), some (.ref (ad 3)), some (.int v2), none, none] []) (σ : Sg) (h : wb_X4_make_24 v2 v3 K24 K85 Q σ) : gI p l e rm_X4_make s m args below meth c D cy ad b0 Q 5 24 σ [some (.ref (ad 4)), some (.ref (ad 3)), some (.int v2), some (.int v3), none] [] := by
  refine g_iload_n C dX4_make_24 rfl ?_
  refine g_iconst C dX4_make_25 kc_4 ?_
  refine g_icmp_ge C 85 dX4_make_26 (by decide) (fun c26 => ?_) (fun c26 => ?_)
  · have h := h.1 c26
    refine g_mask [true, true, true, false, false] rfl ?_
    exact hK85 σ h
  · have h := h.2 c26
    refine g_aload_n C dX4_make_29 rfl ?_
    refine g_aload_n C dX4_make_30 rfl ?_
    refine g_iload_n C dX4_make_31 rfl ?_
    refine g_iload_n C dX4_make_32 rfl ?_
    refine g_callVv C 4 [.ref (ad 3), .int v2, .int v3] (c_X4_follow l D cy ad b0 C.A v2 v3) cal_X4_follow mw_396 (by decide) rfl rfl ⟨Nat.le_of_ble_eq_true rfl, Nat.le_of_ble_eq_true rfl⟩ ⟨rfl, rfl⟩ ⟨Nat.zero_le _, Nat.zero_le _⟩ (Nat.le_of_ble_eq_true rfl) rfl dX4_make_33 h (fun σ1 h => ?_)
    refine g_aload_n C dX4_make_36 rfl ?_
    refine g_callVi C 4 [] (c_X4_findWork l D cy ad b0 C.A) cal_X4_findWork mw_416 (by decide) rfl rfl ⟨Nat.le_of_ble_eq_true rfl, Nat.le_of_ble_eq_true rfl⟩ ⟨rfl, rfl⟩ ⟨Nat.zero_le _, Nat.zero_le _⟩ (Nat.le_of_ble_eq_true rfl) rfl dX4_make_37 h (fun r2 σ3 h => ?_)
    refine g_istore C [some (.ref (ad 4)), some (.ref (ad 3)), some (.int v2), some (.int v3), some (.int r2)] dX4_make_40 (by decide) rfl ?_
    refine g_iload C dX4_make_42 rfl ?_
    refine g_bipush C dX4_make_44 kb_m9 ?_
    refine g_icmp_ne C 56 dX4_make_46 (by decide) (fun c46 => ?_) (fun c46 => ?_)
    · have h := h.1 c46
      exact k_X4_make_56 C v2 v3 r2 K24 hK24 σ3 h
    · have h := h.2 c46
      refine g_aload_n C dX4_make_49 rfl ?_
      refine g_aload_n C dX4_make_50 rfl ?_
      refine g_callVi C 4 [.ref (ad 3)] (c_X4_addWork l D cy ad b0 C.A) cal_X4_addWork mw_424 (by decide) rfl rfl ⟨Nat.le_of_ble_eq_true rfl, Nat.le_of_ble_eq_true rfl⟩ ⟨rfl, rfl⟩ ⟨Nat.zero_le _, Nat.zero_le _⟩ (Nat.le_of_ble_eq_true rfl) rfl dX4_make_51 h (fun r4 σ5 h => ?_)
      refine g_istore C [some (.ref (ad 4)), some (.ref (ad 3)), some (.int v2), some (.int v3), some (.int r4)] dX4_make_54 (by decide) rfl ?_
      exact k_X4_make_56 C v2 v3 r4 K24 hK24 σ5 h
def wl_X4_make_24 (v2 : Int32) (K85 : Sg → Prop) (Q : Int32 → Sg → Prop) : Nat → Int32 → Sg → Prop
  | 0, _, _ => False
  | n + 1, v3, σ => wb_X4_make_24 v2 v3 (wl_X4_make_24 v2 K85 Q n) K85 Q σ
set_option maxHeartbeats 4000000 in
set_option maxRecDepth 100000 in
theorem kl_X4_make_24 {Q : Int32 → Sg → Prop} (C : Cx p s m args meth c D cy ad b0 yX4_make cX4_make 5 (some .boolean)) (v2 : Int32) (K85 : Sg → Prop) (hK85 : ∀  (σ : Sg), K85 σ → gI p l e rm_X4_make s m args below meth c D cy ad b0 Q 5 85 σ [some (.ref (ad 4)), some (.ref (ad 3)), some (.int v2), none, none] []) : ∀ (n : Nat) (v3 : Int32) (σ : Sg), wl_X4_make_24 v2 K85 Q n v3 σ → gI p l e rm_X4_make s m args below meth c D cy ad b0 Q 5 24 σ [some (.ref (ad 4)), some (.ref (ad 3)), some (.int v2), some (.int v3), none] [] := by
  intro n
  induction n with
  | zero => intro v3 σ h; exact False.elim h
  | succ n ih =>
    intro v3 σ h
    exact kb_X4_make_24 C v2 v3 (wl_X4_make_24 v2 K85 Q n) K85 (fun z3 σ h => ih z3 σ h) hK85 σ h
def wb_X4_make_7 (v2 : Int32) (K7 : Int32 → Sg → Prop) (Q : Int32 → Sg → Prop) (σ : Sg) : Prop :=
  (((gF σ 4 10) ≤ v2 → Q (nI 1) σ) ∧ (¬ (gF σ 4 10) ≤ v2 → (((nI 1921) ≤ v2 → Q (nI 1) σ) ∧ (¬ (nI 1921) ≤ v2 → ∃ n, wl_X4_make_24 v2 (fun σ9 => wp_X4_make_85 v2 K7 Q σ9) Q n (nI 0) σ))))
set_option maxHeartbeats 4000000 in
set_option maxRecDepth 100000 in
theorem kb_X4_make_7 {Q : Int32 → Sg → Prop} (C : Cx p s m args meth c D cy ad b0 yX4_make cX4_make 5 (some .boolean)) (v2 : Int32) (K7 : Int32 → Sg → Prop) (hK7 : ∀ (z2 : Int32) (σ : Sg), K7 z2 σ → gI p l e rm_X4_make s m args below meth c D cy ad b0 Q 5 7 σ [some (.ref (ad 4)), some (.ref (ad 3)), some (.int z2), none, none] []) (σ : Sg) (h : wb_X4_make_7 v2 K7 Q σ) : gI p l e rm_X4_make s m args below meth c D cy ad b0 Q 5 7 σ [some (.ref (ad 4)), some (.ref (ad 3)), some (.int v2), none, none] [] := by
  refine g_iload_n C dX4_make_7 rfl ?_
  refine g_aload_n C dX4_make_8 rfl ?_
  refine fget_4_10_X4_45 C rfl dX4_make_9 ?_
  refine g_icmp_ge C 91 dX4_make_12 (by decide) (fun c12 => ?_) (fun c12 => ?_)
  · have h := h.1 c12
    refine g_iconst C dX4_make_91 kc_1 ?_
    exact g_zret C (narrow_bl bl_1) dX4_make_92 h
  · have h := h.2 c12
    refine g_iload_n C dX4_make_15 rfl ?_
    refine g_sipush C dX4_make_16 ks_1921 ?_
    refine g_icmp_ge C 91 dX4_make_19 (by decide) (fun c19 => ?_) (fun c19 => ?_)
    · have h := h.1 c19
      refine g_iconst C dX4_make_91 kc_1 ?_
      exact g_zret C (narrow_bl bl_1) dX4_make_92 h
    · have h := h.2 c19
      refine g_iconst C dX4_make_22 kc_0 ?_
      refine g_istore_n C [some (.ref (ad 4)), some (.ref (ad 3)), some (.int v2), some (.int (nI 0)), none] dX4_make_23 (by decide) rfl ?_
      obtain ⟨n, h⟩ := h
      exact kl_X4_make_24 C v2 _ (fun σ9 h => by exact k_X4_make_85 C v2 K7 hK7 σ9 h) n (nI 0) σ h
def wl_X4_make_7 (Q : Int32 → Sg → Prop) : Nat → Int32 → Sg → Prop
  | 0, _, _ => False
  | n + 1, v2, σ => wb_X4_make_7 v2 (wl_X4_make_7 Q n) Q σ
set_option maxHeartbeats 4000000 in
set_option maxRecDepth 100000 in
theorem kl_X4_make_7 {Q : Int32 → Sg → Prop} (C : Cx p s m args meth c D cy ad b0 yX4_make cX4_make 5 (some .boolean)) : ∀ (n : Nat) (v2 : Int32) (σ : Sg), wl_X4_make_7 Q n v2 σ → gI p l e rm_X4_make s m args below meth c D cy ad b0 Q 5 7 σ [some (.ref (ad 4)), some (.ref (ad 3)), some (.int v2), none, none] [] := by
  intro n
  induction n with
  | zero => intro v2 σ h; exact False.elim h
  | succ n ih =>
    intro v2 σ h
    exact kb_X4_make_7 C v2 (wl_X4_make_7 Q n) (fun z2 σ h => ih z2 σ h) σ h
def wp_X4_make (σ : Sg) (Q : Int32 → Sg → Prop) : Prop :=
  wp_X4_begin σ (fun σ1 => ∃ n, wl_X4_make_7 Q n (nI 0) σ1)
set_option maxHeartbeats 4000000 in
set_option maxRecDepth 100000 in
theorem c_X4_make (l : Launch) (D : va_G) (cy : Nat → ClassId) (ad : Nat → Nat) (b0 : Nat) (hA : AdOk ad b0) : Cti l D cy ad b0 yX4_make cX4_make 5 (some .boolean) rm_X4_make [.ref (ad 4), .ref (ad 3)] (fun σ Q => wp_X4_make σ Q) := by
  intro σ Q h
  refine g_enter hA rfl (Nat.le_of_ble_eq_true rfl) [some (.ref (ad 4)), some (.ref (ad 3)), none, none, none] rfl ?_
  intro p e s m args below meth c C
  refine g_aload_n C dX4_make_0 rfl ?_
  refine g_aload_n C dX4_make_1 rfl ?_
  refine g_callVv C 4 [.ref (ad 3)] (c_X4_begin l D cy ad b0 C.A) cal_X4_begin mw_381 (by decide) rfl rfl ⟨Nat.le_of_ble_eq_true rfl, Nat.le_of_ble_eq_true rfl⟩ ⟨rfl, rfl⟩ ⟨Nat.zero_le _, Nat.zero_le _⟩ (Nat.le_of_ble_eq_true rfl) rfl dX4_make_2 h (fun σ1 h => ?_)
  refine g_iconst C dX4_make_5 kc_0 ?_
  refine g_istore_n C [some (.ref (ad 4)), some (.ref (ad 3)), some (.int (nI 0)), none, none] dX4_make_6 (by decide) rfl ?_
  obtain ⟨n, h⟩ := h
  exact kl_X4_make_7 C n (nI 0) σ1 h
end
