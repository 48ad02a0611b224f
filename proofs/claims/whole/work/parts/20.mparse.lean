section
variable {p : Program} {l : Launch} {e : Env} {s : State} {m : MethodId} {args : Array Value} {below : List Frame} {meth : Method} {c : Code} {D : va_G} {cy : Nat → ClassId} {ad : Nat → Nat} {b0 : Nat}
def rm_X9_in : Room := { frames := 0, cells := 0, slots := 0, locals := 0 }
def wp_X9_in (a0 : Int64) (a1 : Int64) (a2 : Int64) (σ : Sg) (Q : Int32 → Sg → Prop) : Prop :=
  (((lg_cmp a0 a1) < (nI 0) → Q (nI 0) σ) ∧ (¬ (lg_cmp a0 a1) < (nI 0) → (((nI 0) < (lg_cmp a0 a2) → Q (nI 0) σ) ∧ (¬ (nI 0) < (lg_cmp a0 a2) → Q (nI 1) σ))))
set_option maxHeartbeats 4000000 in
set_option maxRecDepth 100000 in
theorem c_X9_in (l : Launch) (D : va_G) (cy : Nat → ClassId) (ad : Nat → Nat) (b0 : Nat) (hA : AdOk ad b0) (a0 : Int64) (a1 : Int64) (a2 : Int64) : Cti l D cy ad b0 yX9_in cX9_in 6 (some .boolean) rm_X9_in [.long a0, .long a1, .long a2] (fun σ Q => wp_X9_in a0 a1 a2 σ Q) := by
  intro σ Q h
  refine g_enter hA rfl (Nat.le_of_ble_eq_true rfl) [some (.long a0), none, some (.long a1), none, some (.long a2), none] rfl ?_
  intro p e s m args below meth c C
  refine g_lload_n C dX9_in_0 rfl ?_
  refine g_lload_n C dX9_in_1 rfl ?_
  refine g_lcmp C dX9_in_2 ?_
  refine g_if_lt C 17 dX9_in_3 (by decide) (fun c3 => ?_) (fun c3 => ?_)
  · have h := h.1 c3
    refine g_iconst C dX9_in_17 kc_0 ?_
    exact g_zret C (narrow_bl bl_0) dX9_in_18 h
  · have h := h.2 c3
    refine g_lload_n C dX9_in_6 rfl ?_
    refine g_lload C dX9_in_7 rfl ?_
    refine g_lcmp C dX9_in_9 ?_
    refine g_if_gt C 17 dX9_in_10 (by decide) (fun c10 => ?_) (fun c10 => ?_)
    · have h := h.1 c10
      refine g_iconst C dX9_in_17 kc_0 ?_
      exact g_zret C (narrow_bl bl_0) dX9_in_18 h
    · have h := h.2 c10
      refine g_iconst C dX9_in_13 kc_1 ?_
      refine g_goto C 18 dX9_in_14 (by decide) ?_
      exact g_zret C (narrow_bl bl_1) dX9_in_18 h
def rm_X9_feed : Room := { frames := 0, cells := 0, slots := 0, locals := 0 }
def wp_X9_feed_79 (v3 : Int32) (Q : Int32 → Sg → Prop) (σ : Sg) : Prop :=
  ∀ σ1 : Sg, σ1 = stF σ 10 1 ((gF σ 10 1) + v3) → (Q (gF σ1 10 1) σ1)
set_option maxHeartbeats 4000000 in
set_option maxRecDepth 100000 in
theorem k_X9_feed_79 {Q : Int32 → Sg → Prop} (C : Cx p s m args meth c D cy ad b0 yX9_feed cX9_feed 5 (some .int)) (v3 : Int32) (σ : Sg) (h : wp_X9_feed_79 v3 Q σ) : gI p l e rm_X9_feed s m args below meth c D cy ad b0 Q 5 79 σ [some (.ref (ad 10)), none, none, some (.int v3), none] [] := by
  refine g_aload_n C dX9_feed_79 rfl ?_
  refine g_dup C dX9_feed_80 rfl ?_
  refine fget_10_1_X9_136 C rfl dX9_feed_81 ?_
  refine g_iload_n C dX9_feed_84 rfl ?_
  refine g_iadd C dX9_feed_85 ?_
  refine fput_10_1_X9_136 C rfl dX9_feed_86 (fun σ1 e_σ1 => ?_)
  have h := h σ1 e_σ1
  refine g_aload_n C dX9_feed_89 rfl ?_
  refine fget_10_1_X9_136 C rfl dX9_feed_90 ?_
  exact g_iret C dX9_feed_93 h
def wb_X9_feed_46 (v1 : Int64) (v3 : Int32) (v4 : Int32) (K46 : Int32 → Sg → Prop) (K79 : Sg → Prop) (Q : Int32 → Sg → Prop) (σ : Sg) : Prop :=
  ((v3 ≤ v4 → K79 σ) ∧ (¬ v3 ≤ v4 → vp_in ((gF σ 10 1) + v4) (aN 47) ∧ (∀ σ1 : Sg, σ1 = stA σ 47 (Int32.toNatClampNeg ((gF σ 10 1) + v4)) (vp_nar .byte (Int8.toInt32 (Int32.toInt8 (Int64.toInt32 (lUSHR v1 ((nI 8) * v4)))))) → (∀ x73 : Int32, x73 = v4 + (nI 1) → (K46 x73 σ1)))))
set_option maxHeartbeats 4000000 in
set_option maxRecDepth 100000 in
theorem kb_X9_feed_46 {Q : Int32 → Sg → Prop} (C : Cx p s m args meth c D cy ad b0 yX9_feed cX9_feed 5 (some .int)) (v1 : Int64) (v3 : Int32) (v4 : Int32) (K46 : Int32 → Sg → Prop) (K79 : Sg → Prop) (hK46 : ∀ (z4 : Int32) (σ : Sg), K46 z4 σ → gI p l e rm_X9_feed s m args below meth c D cy ad b0 Q 5 46 σ [some (.ref (ad 10)), some (.long v1), none, some (.int v3), some (.int z4)] []) (hK79 : ∀  (σ : Sg), K79 σ → gI p l e rm_X9_feed s m args below meth c D cy ad b0 Q 5 79 σ [some (.ref (ad 10)), none, none, some (.int v3), none] []) (σ : Sg) (h : wb_X9_feed_46 v1 v3 v4 K46 K79 Q σ) : gI p l e rm_X9_feed s m args below meth c D cy ad b0 Q 5 46 σ [some (.ref (ad 10)), some (.long v1), none, some (.int v3), some (.int v4)] [] := by
  refine g_iload C dX9_feed_46 rfl ?_
  refine g_iload_n C dX9_feed_48 rfl ?_
  refine g_icmp_ge C 79 dX9_feed_49 (by decide) (fun c49 => ?_) (fun c49 => ?_)
  · have h := h.1 c49
    refine g_mask [true, false, false, true, false] rfl ?_
    exact hK79 σ h
  · have h := h.2 c49
    refine g_aload_n C dX9_feed_52 rfl ?_
    refine fget_10_0_X9_7 C rfl dX9_feed_53 ?_
    refine g_aload_n C dX9_feed_56 rfl ?_
    refine fget_10_1_X9_136 C rfl dX9_feed_57 ?_
    refine g_iload C dX9_feed_60 rfl ?_
    refine g_iadd C dX9_feed_62 ?_
    refine g_lload_n C dX9_feed_63 rfl ?_
    refine g_bipush C dX9_feed_64 kb_8 ?_
    refine g_iload C dX9_feed_66 rfl ?_
    refine g_imul C dX9_feed_68 ?_
    refine g_lushr C dX9_feed_69 ?_
    refine g_l2i C dX9_feed_70 ?_
    refine g_i2b C dX9_feed_71 ?_
    refine g_bast C (by decide) h.1 dX9_feed_72 (fun σ1 e_σ1 => ?_)
    have h := h.2 σ1 e_σ1
    obtain ⟨x73, e_x73⟩ : ∃ v : Int32, v = v4 + (nI 1) := ⟨_, rfl⟩
    have h := h x73 e_x73
    refine g_iinc C [some (.ref (ad 10)), some (.long v1), none, some (.int v3), some (.int x73)] dX9_feed_73 rfl e_x73.symm (by decide) rfl ?_
    refine g_goto C 46 dX9_feed_76 (by decide) ?_
    exact hK46 x73 σ1 h
def wl_X9_feed_46 (v1 : Int64) (v3 : Int32) (K79 : Sg → Prop) (Q : Int32 → Sg → Prop) : Nat → Int32 → Sg → Prop
  | 0, _, _ => False
  | n + 1, v4, σ => wb_X9_feed_46 v1 v3 v4 (wl_X9_feed_46 v1 v3 K79 Q n) K79 Q σ
set_option maxHeartbeats 4000000 in
set_option maxRecDepth 100000 in
theorem kl_X9_feed_46 {Q : Int32 → Sg → Prop} (C : Cx p s m args meth c D cy ad b0 yX9_feed cX9_feed 5 (some .int)) (v1 : Int64) (v3 : Int32) (K79 : Sg → Prop) (hK79 : ∀  (σ : Sg), K79 σ → gI p l e rm_X9_feed s m args below meth c D cy ad b0 Q 5 79 σ [some (.ref (ad 10)), none, none, some (.int v3), none] []) : ∀ (n : Nat) (v4 : Int32) (σ : Sg), wl_X9_feed_46 v1 v3 K79 Q n v4 σ → gI p l e rm_X9_feed s m args below meth c D cy ad b0 Q 5 46 σ [some (.ref (ad 10)), some (.long v1), none, some (.int v3), some (.int v4)] [] := by
  intro n
  induction n with
  | zero => intro v4 σ h; exact False.elim h
  | succ n ih =>
    intro v4 σ h
    exact kb_X9_feed_46 C v1 v3 v4 (wl_X9_feed_46 v1 v3 K79 Q n) K79 (fun z4 σ h => ih z4 σ h) hK79 σ h
def wp_X9_feed_29 (v1 : Int64) (v3 : Int32) (Q : Int32 → Sg → Prop) (σ : Sg) : Prop :=
  ((((gF σ 10 1) + v3) ≤ (nI 60) → ∃ n, wl_X9_feed_46 v1 v3 (fun σ9 => wp_X9_feed_79 v3 Q σ9) Q n (nI 0) σ) ∧ (¬ ((gF σ 10 1) + v3) ≤ (nI 60) → Q (-4 : Int32) σ))
set_option maxHeartbeats 4000000 in
set_option maxRecDepth 100000 in
theorem k_X9_feed_29 {Q : Int32 → Sg → Prop} (C : Cx p s m args meth c D cy ad b0 yX9_feed cX9_feed 5 (some .int)) (v1 : Int64) (v3 : Int32) (σ : Sg) (h : wp_X9_feed_29 v1 v3 Q σ) : gI p l e rm_X9_feed s m args below meth c D cy ad b0 Q 5 29 σ [some (.ref (ad 10)), some (.long v1), none, some (.int v3), none] [] := by
  refine g_aload_n C dX9_feed_29 rfl ?_
  refine fget_10_1_X9_136 C rfl dX9_feed_30 ?_
  refine g_iload_n C dX9_feed_33 rfl ?_
  refine g_iadd C dX9_feed_34 ?_
  refine g_bipush C dX9_feed_35 kb_60 ?_
  refine g_icmp_le C 43 dX9_feed_37 (by decide) (fun c37 => ?_) (fun c37 => ?_)
  · have h := h.1 c37
    refine g_iconst C dX9_feed_43 kc_0 ?_
    refine g_istore C [some (.ref (ad 10)), some (.long v1), none, some (.int v3), some (.int (nI 0))] dX9_feed_44 (by decide) rfl ?_
    obtain ⟨n, h⟩ := h
    exact kl_X9_feed_46 C v1 v3 _ (fun σ9 h => by exact k_X9_feed_79 C v3 σ9 h) n (nI 0) σ h
  · have h := h.2 c37
    refine g_bipush C dX9_feed_40 kb_m4 ?_
    exact g_iret C dX9_feed_42 h
def wb_X9_feed_2 (v1 : Int64) (v3 : Int32) (K2 : Int32 → Sg → Prop) (K29 : Int32 → Sg → Prop) (Q : Int32 → Sg → Prop) (σ : Sg) : Prop :=
  (((nI 8) ≤ v3 → K29 v3 σ) ∧ (¬ (nI 8) ≤ v3 → (((lg_cmp ((lUSHR v1 ((nI 8) * v3)) &&& (lN 255)) (lN 0)) = (nI 0) → K29 v3 σ) ∧ (¬ (lg_cmp ((lUSHR v1 ((nI 8) * v3)) &&& (lN 255)) (lN 0)) = (nI 0) → ∀ x23 : Int32, x23 = v3 + (nI 1) → (K2 x23 σ)))))
set_option maxHeartbeats 4000000 in
set_option maxRecDepth 100000 in
theorem kb_X9_feed_2 {Q : Int32 → Sg → Prop} (C : Cx p s m args meth c D cy ad b0 yX9_feed cX9_feed 5 (some .int)) (v1 : Int64) (v3 : Int32) (K2 : Int32 → Sg → Prop) (K29 : Int32 → Sg → Prop) (hK2 : ∀ (z3 : Int32) (σ : Sg), K2 z3 σ → gI p l e rm_X9_feed s m args below meth c D cy ad b0 Q 5 2 σ [some (.ref (ad 10)), some (.long v1), none, some (.int z3), none] []) (hK29 : ∀ (z3 : Int32) (σ : Sg), K29 z3 σ → gI p l e rm_X9_feed s m args below meth c D cy ad b0 Q 5 29 σ [some (.ref (ad 10)), some (.long v1), none, some (.int z3), none] []) (σ : Sg) (h : wb_X9_feed_2 v1 v3 K2 K29 Q σ) : gI p l e rm_X9_feed s m args below meth c D cy ad b0 Q 5 2 σ [some (.ref (ad 10)), some (.long v1), none, some (.int v3), none] [] := by
  refine g_iload_n C dX9_feed_2 rfl ?_
  refine g_bipush C dX9_feed_3 kb_8 ?_
  refine g_icmp_ge C 29 dX9_feed_5 (by decide) (fun c5 => ?_) (fun c5 => ?_)
  · have h := h.1 c5
    exact hK29 v3 σ h
  · have h := h.2 c5
    refine g_lload_n C dX9_feed_8 rfl ?_
    refine g_bipush C dX9_feed_9 kb_8 ?_
    refine g_iload_n C dX9_feed_11 rfl ?_
    refine g_imul C dX9_feed_12 ?_
    refine g_lushr C dX9_feed_13 ?_
    refine g_ldc2 C (v := (lN 255)) mw_201 dX9_feed_14 ?_
    refine g_land C dX9_feed_17 ?_
    refine g_lconst C dX9_feed_18 kl_0 ?_
    refine g_lcmp C dX9_feed_19 ?_
    refine g_if_eq C 29 dX9_feed_20 (by decide) (fun c20 => ?_) (fun c20 => ?_)
    · have h := h.1 c20
      exact hK29 v3 σ h
    · have h := h.2 c20
      obtain ⟨x23, e_x23⟩ : ∃ v : Int32, v = v3 + (nI 1) := ⟨_, rfl⟩
      have h := h x23 e_x23
      refine g_iinc C [some (.ref (ad 10)), some (.long v1), none, some (.int x23), none] dX9_feed_23 rfl e_x23.symm (by decide) rfl ?_
      refine g_goto C 2 dX9_feed_26 (by decide) ?_
      exact hK2 x23 σ h
def wl_X9_feed_2 (v1 : Int64) (K29 : Int32 → Sg → Prop) (Q : Int32 → Sg → Prop) : Nat → Int32 → Sg → Prop
  | 0, _, _ => False
  | n + 1, v3, σ => wb_X9_feed_2 v1 v3 (wl_X9_feed_2 v1 K29 Q n) K29 Q σ
set_option maxHeartbeats 4000000 in
set_option maxRecDepth 100000 in
theorem kl_X9_feed_2 {Q : Int32 → Sg → Prop} (C : Cx p s m args meth c D cy ad b0 yX9_feed cX9_feed 5 (some .int)) (v1 : Int64) (K29 : Int32 → Sg → Prop) (hK29 : ∀ (z3 : Int32) (σ : Sg), K29 z3 σ → gI p l e rm_X9_feed s m args below meth c D cy ad b0 Q 5 29 σ [some (.ref (ad 10)), some (.long v1), none, some (.int z3), none] []) : ∀ (n : Nat) (v3 : Int32) (σ : Sg), wl_X9_feed_2 v1 K29 Q n v3 σ → gI p l e rm_X9_feed s m args below meth c D cy ad b0 Q 5 2 σ [some (.ref (ad 10)), some (.long v1), none, some (.int v3), none] [] := by
  intro n
  induction n with
  | zero => intro v3 σ h; exact False.elim h
  | succ n ih =>
    intro v3 σ h
    exact kb_X9_feed_2 C v1 v3 (wl_X9_feed_2 v1 K29 Q n) K29 (fun z3 σ h => ih z3 σ h) hK29 σ h
def wp_X9_feed (a0 : Int64) (σ : Sg) (Q : Int32 → Sg → Prop) : Prop :=
  ∃ n, wl_X9_feed_2 a0 (fun z3 σ9 => wp_X9_feed_29 a0 z3 Q σ9) Q n (nI 0) σ
set_option maxHeartbeats 4000000 in
set_option maxRecDepth 100000 in
theorem c_X9_feed (l : Launch) (D : va_G) (cy : Nat → ClassId) (ad : Nat → Nat) (b0 : Nat) (hA : AdOk ad b0) (a0 : Int64) : Cti l D cy ad b0 yX9_feed cX9_feed 5 (some .int) rm_X9_feed [.ref (ad 10), .long a0] (fun σ Q => wp_X9_feed a0 σ Q) := by
  intro σ Q h
  refine g_enter hA rfl (Nat.le_of_ble_eq_true rfl) [some (.ref (ad 10)), some (.long a0), none, none, none] rfl ?_
  intro p e s m args below meth c C
  refine g_iconst C dX9_feed_0 kc_0 ?_
  refine g_istore_n C [some (.ref (ad 10)), some (.long a0), none, some (.int (nI 0)), none] dX9_feed_1 (by decide) rfl ?_
  obtain ⟨n, h⟩ := h
  exact kl_X9_feed_2 C a0 _ (fun z3 σ9 h => by exact k_X9_feed_29 C a0 z3 σ9 h) n (nI 0) σ h
def rm_X9_cut : Room := { frames := 0, cells := 0, slots := 0, locals := 0 }
def wp_X9_cut (σ : Sg) (Q : Int32 → Sg → Prop) : Prop :=
  ∀ x4 : Int32, x4 = (gF σ 10 1) → (∀ σ1 : Sg, σ1 = stF σ 10 1 (nI 0) → (Q x4 σ1))
set_option maxHeartbeats 4000000 in
set_option maxRecDepth 100000 in
theorem c_X9_cut (l : Launch) (D : va_G) (cy : Nat → ClassId) (ad : Nat → Nat) (b0 : Nat) (hA : AdOk ad b0) : Cti l D cy ad b0 yX9_cut cX9_cut 2 (some .int) rm_X9_cut [.ref (ad 10)] (fun σ Q => wp_X9_cut σ Q) := by
  intro σ Q h
  refine g_enter hA rfl (Nat.le_of_ble_eq_true rfl) [some (.ref (ad 10)), none] rfl ?_
  intro p e s m args below meth c C
  refine g_aload_n C dX9_cut_0 rfl ?_
  refine fget_10_1_X9_136 C rfl dX9_cut_1 ?_
  refine g_topi (fun x4 e_x4 => ?_)
  have h := h x4 e_x4
  refine g_istore_n C [some (.ref (ad 10)), some (.int x4)] dX9_cut_4 (by decide) rfl ?_
  refine g_aload_n C dX9_cut_5 rfl ?_
  refine g_iconst C dX9_cut_6 kc_0 ?_
  refine fput_10_1_X9_136 C rfl dX9_cut_7 (fun σ1 e_σ1 => ?_)
  have h := h σ1 e_σ1
  refine g_iload_n C dX9_cut_10 rfl ?_
  exact g_iret C dX9_cut_11 h
def rm_X9_fault : Room := { frames := 0, cells := 0, slots := 0, locals := 0 }
def wp_X9_fault (σ : Sg) (Q : Int32 → Sg → Prop) : Prop :=
  Q (gF σ 10 2) σ
set_option maxHeartbeats 4000000 in
set_option maxRecDepth 100000 in
theorem c_X9_fault (l : Launch) (D : va_G) (cy : Nat → ClassId) (ad : Nat → Nat) (b0 : Nat) (hA : AdOk ad b0) : Cti l D cy ad b0 yX9_fault cX9_fault 1 (some .int) rm_X9_fault [.ref (ad 10)] (fun σ Q => wp_X9_fault σ Q) := by
  intro σ Q h
  refine g_enter hA rfl (Nat.le_of_ble_eq_true rfl) [some (.ref (ad 10))] rfl ?_
  intro p e s m args below meth c C
  refine g_aload_n C dX9_fault_0 rfl ?_
  refine fget_10_2_X9_140 C rfl dX9_fault_1 ?_
  exact g_iret C dX9_fault_4 h
def rm_X9_isPrefix : Room := { frames := 0, cells := 0, slots := 0, locals := 0 }
def wp_X9_isPrefix_48 (Q : Int32 → Sg → Prop) (σ : Sg) : Prop :=
  Q (nI 1) σ
set_option maxHeartbeats 4000000 in
set_option maxRecDepth 100000 in
theorem k_X9_isPrefix_48 {Q : Int32 → Sg → Prop} (C : Cx p s m args meth c D cy ad b0 yX9_isPrefix cX9_isPrefix 1 (some .boolean)) (σ : Sg) (h : wp_X9_isPrefix_48 Q σ) : gI p l e rm_X9_isPrefix s m args below meth c D cy ad b0 Q 1 48 σ [none] [] := by
  refine g_iconst C dX9_isPrefix_48 kc_1 ?_
  refine g_goto C 53 dX9_isPrefix_49 (by decide) ?_
  exact g_zret C (narrow_bl bl_1) dX9_isPrefix_53 h
def wp_X9_isPrefix (a0 : Int32) (σ : Sg) (Q : Int32 → Sg → Prop) : Prop :=
  ((a0 = (nI 33) → wp_X9_isPrefix_48 Q σ) ∧ (¬ a0 = (nI 33) → ((a0 = (nI 78) → wp_X9_isPrefix_48 Q σ) ∧ (¬ a0 = (nI 78) → ((a0 = (nI 87) → wp_X9_isPrefix_48 Q σ) ∧ (¬ a0 = (nI 87) → ((a0 = (nI 71) → wp_X9_isPrefix_48 Q σ) ∧ (¬ a0 = (nI 71) → ((a0 = (nI 70) → wp_X9_isPrefix_48 Q σ) ∧ (¬ a0 = (nI 70) → ((a0 = (nI 89) → wp_X9_isPrefix_48 Q σ) ∧ (¬ a0 = (nI 89) → ((a0 = (nI 72) → wp_X9_isPrefix_48 Q σ) ∧ (¬ a0 = (nI 72) → ((¬ a0 = (nI 79) → Q (nI 0) σ) ∧ (a0 = (nI 79) → wp_X9_isPrefix_48 Q σ))))))))))))))))
set_option maxHeartbeats 4000000 in
set_option maxRecDepth 100000 in
theorem c_X9_isPrefix (l : Launch) (D : va_G) (cy : Nat → ClassId) (ad : Nat → Nat) (b0 : Nat) (hA : AdOk ad b0) (a0 : Int32) : Cti l D cy ad b0 yX9_isPrefix cX9_isPrefix 1 (some .boolean) rm_X9_isPrefix [.int a0] (fun σ Q => wp_X9_isPrefix a0 σ Q) := by
  intro σ Q h
  refine g_enter hA rfl (Nat.le_of_ble_eq_true rfl) [some (.int a0)] rfl ?_
  intro p e s m args below meth c C
  refine g_iload_n C dX9_isPrefix_0 rfl ?_
  refine g_bipush C dX9_isPrefix_1 kb_33 ?_
  refine g_icmp_eq C 48 dX9_isPrefix_3 (by decide) (fun c3 => ?_) (fun c3 => ?_)
  · have h := h.1 c3
    refine g_mask [false] rfl ?_
    exact k_X9_isPrefix_48 C σ h
  · have h := h.2 c3
    refine g_iload_n C dX9_isPrefix_6 rfl ?_
    refine g_bipush C dX9_isPrefix_7 kb_78 ?_
    refine g_icmp_eq C 48 dX9_isPrefix_9 (by decide) (fun c9 => ?_) (fun c9 => ?_)
    · have h := h.1 c9
      refine g_mask [false] rfl ?_
      exact k_X9_isPrefix_48 C σ h
    · have h := h.2 c9
      refine g_iload_n C dX9_isPrefix_12 rfl ?_
      refine g_bipush C dX9_isPrefix_13 kb_87 ?_
      refine g_icmp_eq C 48 dX9_isPrefix_15 (by decide) (fun c15 => ?_) (fun c15 => ?_)
      · have h := h.1 c15
        refine g_mask [false] rfl ?_
        exact k_X9_isPrefix_48 C σ h
      · have h := h.2 c15
        refine g_iload_n C dX9_isPrefix_18 rfl ?_
        refine g_bipush C dX9_isPrefix_19 kb_71 ?_
        refine g_icmp_eq C 48 dX9_isPrefix_21 (by decide) (fun c21 => ?_) (fun c21 => ?_)
        · have h := h.1 c21
          refine g_mask [false] rfl ?_
          exact k_X9_isPrefix_48 C σ h
        · have h := h.2 c21
          refine g_iload_n C dX9_isPrefix_24 rfl ?_
          refine g_bipush C dX9_isPrefix_25 kb_70 ?_
          refine g_icmp_eq C 48 dX9_isPrefix_27 (by decide) (fun c27 => ?_) (fun c27 => ?_)
          · have h := h.1 c27
            refine g_mask [false] rfl ?_
            exact k_X9_isPrefix_48 C σ h
          · have h := h.2 c27
            refine g_iload_n C dX9_isPrefix_30 rfl ?_
            refine g_bipush C dX9_isPrefix_31 kb_89 ?_
            refine g_icmp_eq C 48 dX9_isPrefix_33 (by decide) (fun c33 => ?_) (fun c33 => ?_)
            · have h := h.1 c33
              refine g_mask [false] rfl ?_
              exact k_X9_isPrefix_48 C σ h
            · have h := h.2 c33
              refine g_iload_n C dX9_isPrefix_36 rfl ?_
              refine g_bipush C dX9_isPrefix_37 kb_72 ?_
              refine g_icmp_eq C 48 dX9_isPrefix_39 (by decide) (fun c39 => ?_) (fun c39 => ?_)
              · have h := h.1 c39
                refine g_mask [false] rfl ?_
                exact k_X9_isPrefix_48 C σ h
              · have h := h.2 c39
                refine g_iload_n C dX9_isPrefix_42 rfl ?_
                refine g_bipush C dX9_isPrefix_43 kb_79 ?_
                refine g_icmp_ne C 52 dX9_isPrefix_45 (by decide) (fun c45 => ?_) (fun c45 => ?_)
                · have h := h.1 c45
                  refine g_iconst C dX9_isPrefix_52 kc_0 ?_
                  exact g_zret C (narrow_bl bl_0) dX9_isPrefix_53 h
                · have h := h.2 c45
                  refine g_mask [false] rfl ?_
                  exact k_X9_isPrefix_48 C σ h
def rm_X9_rank : Room := { frames := 0, cells := 0, slots := 0, locals := 0 }
def wp_X9_rank_12 (Q : Int32 → Sg → Prop) (σ : Sg) : Prop :=
  Q (nI 4) σ
set_option maxHeartbeats 4000000 in
set_option maxRecDepth 100000 in
theorem k_X9_rank_12 {Q : Int32 → Sg → Prop} (C : Cx p s m args meth c D cy ad b0 yX9_rank cX9_rank 1 (some .int)) (σ : Sg) (h : wp_X9_rank_12 Q σ) : gI p l e rm_X9_rank s m args below meth c D cy ad b0 Q 1 12 σ [none] [] := by
  refine g_iconst C dX9_rank_12 kc_4 ?_
  refine g_goto C 47 dX9_rank_13 (by decide) ?_
  exact g_iret C dX9_rank_47 h
def wp_X9_rank (a0 : Int32) (σ : Sg) (Q : Int32 → Sg → Prop) : Prop :=
  ((a0 = (nI 85) → wp_X9_rank_12 Q σ) ∧ (¬ a0 = (nI 85) → ((¬ a0 = (nI 83) → ((¬ a0 = (nI 38) → ((¬ a0 = (nI 47) → ((¬ a0 = (nI 62) → Q (nI 0) σ) ∧ (a0 = (nI 62) → Q (nI 1) σ))) ∧ (a0 = (nI 47) → Q (nI 2) σ))) ∧ (a0 = (nI 38) → Q (nI 3) σ))) ∧ (a0 = (nI 83) → wp_X9_rank_12 Q σ))))
set_option maxHeartbeats 4000000 in
set_option maxRecDepth 100000 in
theorem c_X9_rank (l : Launch) (D : va_G) (cy : Nat → ClassId) (ad : Nat → Nat) (b0 : Nat) (hA : AdOk ad b0) (a0 : Int32) : Cti l D cy ad b0 yX9_rank cX9_rank 1 (some .int) rm_X9_rank [.int a0] (fun σ Q => wp_X9_rank a0 σ Q) := by
  intro σ Q h
  refine g_enter hA rfl (Nat.le_of_ble_eq_true rfl) [some (.int a0)] rfl ?_
  intro p e s m args below meth c C
  refine g_iload_n C dX9_rank_0 rfl ?_
  refine g_bipush C dX9_rank_1 kb_85 ?_
  refine g_icmp_eq C 12 dX9_rank_3 (by decide) (fun c3 => ?_) (fun c3 => ?_)
  · have h := h.1 c3
    refine g_mask [false] rfl ?_
    exact k_X9_rank_12 C σ h
  · have h := h.2 c3
    refine g_iload_n C dX9_rank_6 rfl ?_
    refine g_bipush C dX9_rank_7 kb_83 ?_
    refine g_icmp_ne C 16 dX9_rank_9 (by decide) (fun c9 => ?_) (fun c9 => ?_)
    · have h := h.1 c9
      refine g_iload_n C dX9_rank_16 rfl ?_
      refine g_bipush C dX9_rank_17 kb_38 ?_
      refine g_icmp_ne C 26 dX9_rank_19 (by decide) (fun c19 => ?_) (fun c19 => ?_)
      · have h := h.1 c19
        refine g_iload_n C dX9_rank_26 rfl ?_
        refine g_bipush C dX9_rank_27 kb_47 ?_
        refine g_icmp_ne C 36 dX9_rank_29 (by decide) (fun c29 => ?_) (fun c29 => ?_)
        · have h := h.1 c29
          refine g_iload_n C dX9_rank_36 rfl ?_
          refine g_bipush C dX9_rank_37 kb_62 ?_
          refine g_icmp_ne C 46 dX9_rank_39 (by decide) (fun c39 => ?_) (fun c39 => ?_)
          · have h := h.1 c39
            refine g_iconst C dX9_rank_46 kc_0 ?_
            exact g_iret C dX9_rank_47 h
          · have h := h.2 c39
            refine g_iconst C dX9_rank_42 kc_1 ?_
            refine g_goto C 47 dX9_rank_43 (by decide) ?_
            exact g_iret C dX9_rank_47 h
        · have h := h.2 c29
          refine g_iconst C dX9_rank_32 kc_2 ?_
          refine g_goto C 47 dX9_rank_33 (by decide) ?_
          exact g_iret C dX9_rank_47 h
      · have h := h.2 c19
        refine g_iconst C dX9_rank_22 kc_3 ?_
        refine g_goto C 47 dX9_rank_23 (by decide) ?_
        exact g_iret C dX9_rank_47 h
    · have h := h.2 c9
      refine g_mask [false] rfl ?_
      exact k_X9_rank_12 C σ h
def rm_X9_node : Room := { frames := 0, cells := 0, slots := 0, locals := 0 }
def wp_X9_node (a0 : Int32) (a1 : Int32) (a2 : Int32) (a3 : Int32) (σ : Sg) (Q : Sg → Prop) : Prop :=
  vp_in (gF σ 10 4) (aN 48) ∧ (∀ σ1 : Sg, σ1 = stA σ 48 (Int32.toNatClampNeg (gF σ 10 4)) a0 → (vp_in (gF σ1 10 4) (aN 49) ∧ (∀ σ2 : Sg, σ2 = stA σ1 49 (Int32.toNatClampNeg (gF σ1 10 4)) a1 → (vp_in (gF σ2 10 4) (aN 50) ∧ (∀ σ3 : Sg, σ3 = stA σ2 50 (Int32.toNatClampNeg (gF σ2 10 4)) a2 → (vp_in (gF σ3 10 4) (aN 51) ∧ (∀ σ4 : Sg, σ4 = stA σ3 51 (Int32.toNatClampNeg (gF σ3 10 4)) a3 → (vp_in (gF σ4 10 9) (aN 52) ∧ (∀ σ5 : Sg, σ5 = stA σ4 52 (Int32.toNatClampNeg (gF σ4 10 9)) (gF σ4 10 4) → (∀ σ6 : Sg, σ6 = stF σ5 10 9 ((gF σ5 10 9) + (nI 1)) → (∀ σ7 : Sg, σ7 = stF σ6 10 4 ((gF σ6 10 4) + (nI 1)) → (Q σ7))))))))))))
set_option maxHeartbeats 4000000 in
set_option maxRecDepth 100000 in
theorem c_X9_node (l : Launch) (D : va_G) (cy : Nat → ClassId) (ad : Nat → Nat) (b0 : Nat) (hA : AdOk ad b0) (a0 : Int32) (a1 : Int32) (a2 : Int32) (a3 : Int32) : Ctv l D cy ad b0 yX9_node cX9_node 5 none rm_X9_node [.ref (ad 10), .int a0, .int a1, .int a2, .int a3] (fun σ Q => wp_X9_node a0 a1 a2 a3 σ Q) := by
  intro σ Q h
  refine g_enter hA rfl (Nat.le_of_ble_eq_true rfl) [some (.ref (ad 10)), some (.int a0), some (.int a1), some (.int a2), some (.int a3)] rfl ?_
  intro p e s m args below meth c C
  refine g_aload_n C dX9_node_0 rfl ?_
  refine fget_10_5_X9_13 C rfl dX9_node_1 ?_
  refine g_aload_n C dX9_node_4 rfl ?_
  refine fget_10_4_X9_143 C rfl dX9_node_5 ?_
  refine g_iload_n C dX9_node_8 rfl ?_
  refine g_iast C (by decide) h.1 dX9_node_9 (fun σ1 e_σ1 => ?_)
  have h := h.2 σ1 e_σ1
  refine g_aload_n C dX9_node_10 rfl ?_
  refine fget_10_6_X9_17 C rfl dX9_node_11 ?_
  refine g_aload_n C dX9_node_14 rfl ?_
  refine fget_10_4_X9_143 C rfl dX9_node_15 ?_
  refine g_iload_n C dX9_node_18 rfl ?_
  refine g_iast C (by decide) h.1 dX9_node_19 (fun σ2 e_σ2 => ?_)
  have h := h.2 σ2 e_σ2
  refine g_aload_n C dX9_node_20 rfl ?_
  refine fget_10_7_X9_20 C rfl dX9_node_21 ?_
  refine g_aload_n C dX9_node_24 rfl ?_
  refine fget_10_4_X9_143 C rfl dX9_node_25 ?_
  refine g_iload_n C dX9_node_28 rfl ?_
  refine g_iast C (by decide) h.1 dX9_node_29 (fun σ3 e_σ3 => ?_)
  have h := h.2 σ3 e_σ3
  refine g_aload_n C dX9_node_30 rfl ?_
  refine fget_10_8_X9_23 C rfl dX9_node_31 ?_
  refine g_aload_n C dX9_node_34 rfl ?_
  refine fget_10_4_X9_143 C rfl dX9_node_35 ?_
  refine g_iload C dX9_node_38 rfl ?_
  refine g_iast C (by decide) h.1 dX9_node_40 (fun σ4 e_σ4 => ?_)
  have h := h.2 σ4 e_σ4
  refine g_aload_n C dX9_node_41 rfl ?_
  refine fget_10_10_X9_26 C rfl dX9_node_42 ?_
  refine g_aload_n C dX9_node_45 rfl ?_
  refine fget_10_9_X9_146 C rfl dX9_node_46 ?_
  refine g_aload_n C dX9_node_49 rfl ?_
  refine fget_10_4_X9_143 C rfl dX9_node_50 ?_
  refine g_iast C (by decide) h.1 dX9_node_53 (fun σ5 e_σ5 => ?_)
  have h := h.2 σ5 e_σ5
  refine g_aload_n C dX9_node_54 rfl ?_
  refine g_dup C dX9_node_55 rfl ?_
  refine fget_10_9_X9_146 C rfl dX9_node_56 ?_
  refine g_iconst C dX9_node_59 kc_1 ?_
  refine g_iadd C dX9_node_60 ?_
  refine fput_10_9_X9_146 C rfl dX9_node_61 (fun σ6 e_σ6 => ?_)
  have h := h σ6 e_σ6
  refine g_aload_n C dX9_node_64 rfl ?_
  refine g_dup C dX9_node_65 rfl ?_
  refine fget_10_4_X9_143 C rfl dX9_node_66 ?_
  refine g_iconst C dX9_node_69 kc_1 ?_
  refine g_iadd C dX9_node_70 ?_
  refine fput_10_4_X9_143 C rfl dX9_node_71 (fun σ7 e_σ7 => ?_)
  have h := h σ7 e_σ7
  exact g_vret C dX9_node_74 h
def rm_X9_reduce : Room := { frames := 1, cells := 0, slots := 0, locals := 24 }
def wp_X9_reduce (σ : Sg) (Q : Sg → Prop) : Prop :=
  ∀ σ1 : Sg, σ1 = stF σ 10 11 ((gF σ 10 11) - (nI 1)) → (∀ σ2 : Sg, σ2 = stF σ1 10 9 ((gF σ1 10 9) - (nI 1)) → (vp_in (gF σ2 10 9) (aN 52) ∧ (∀ x29 : Int32, x29 = (gA σ2 52 (Int32.toNatClampNeg (gF σ2 10 9))) → (vp_in (gF σ2 10 11) (aN 53) ∧ (wp_X9_isPrefix (gA σ2 53 (Int32.toNatClampNeg (gF σ2 10 11))) σ2 (fun r3 σ4 => ((r3 = (nI 0) → ∀ σ5 : Sg, σ5 = stF σ4 10 9 ((gF σ4 10 9) - (nI 1)) → (vp_in (gF σ5 10 11) (aN 53) ∧ (vp_in (gF σ5 10 9) (aN 52) ∧ (vp_in (gF σ5 10 11) (aN 54) ∧ (wp_X9_node (gA σ5 53 (Int32.toNatClampNeg (gF σ5 10 11))) (gA σ5 52 (Int32.toNatClampNeg (gF σ5 10 9))) x29 (gA σ5 54 (Int32.toNatClampNeg (gF σ5 10 11))) σ5 (fun σ6 => Q σ6)))))) ∧ (¬ r3 = (nI 0) → vp_in (gF σ4 10 11) (aN 53) ∧ (vp_in (gF σ4 10 11) (aN 54) ∧ (wp_X9_node (gA σ4 53 (Int32.toNatClampNeg (gF σ4 10 11))) x29 (-9 : Int32) (gA σ4 54 (Int32.toNatClampNeg (gF σ4 10 11))) σ4 (fun σ7 => Q σ7)))))))))))
set_option maxHeartbeats 4000000 in
set_option maxRecDepth 100000 in
theorem c_X9_reduce (l : Launch) (D : va_G) (cy : Nat → ClassId) (ad : Nat → Nat) (b0 : Nat) (hA : AdOk ad b0) : Ctv l D cy ad b0 yX9_reduce cX9_reduce 2 none rm_X9_reduce [.ref (ad 10)] (fun σ Q => wp_X9_reduce σ Q) := by
  intro σ Q h
  refine g_enter hA rfl (Nat.le_of_ble_eq_true rfl) [some (.ref (ad 10)), none] rfl ?_
  intro p e s m args below meth c C
  refine g_aload_n C dX9_reduce_0 rfl ?_
  refine g_dup C dX9_reduce_1 rfl ?_
  refine fget_10_11_X9_149 C rfl dX9_reduce_2 ?_
  refine g_iconst C dX9_reduce_5 kc_1 ?_
  refine g_isub C dX9_reduce_6 ?_
  refine fput_10_11_X9_149 C rfl dX9_reduce_7 (fun σ1 e_σ1 => ?_)
  have h := h σ1 e_σ1
  refine g_aload_n C dX9_reduce_10 rfl ?_
  refine g_dup C dX9_reduce_11 rfl ?_
  refine fget_10_9_X9_146 C rfl dX9_reduce_12 ?_
  refine g_iconst C dX9_reduce_15 kc_1 ?_
  refine g_isub C dX9_reduce_16 ?_
  refine fput_10_9_X9_146 C rfl dX9_reduce_17 (fun σ2 e_σ2 => ?_)
  have h := h σ2 e_σ2
  refine g_aload_n C dX9_reduce_20 rfl ?_
  refine fget_10_10_X9_26 C rfl dX9_reduce_21 ?_
  refine g_aload_n C dX9_reduce_24 rfl ?_
  refine fget_10_9_X9_146 C rfl dX9_reduce_25 ?_
  refine g_iald C (by decide) h.1 dX9_reduce_28 ?_
  have h := h.2
  refine g_topi (fun x29 e_x29 => ?_)
  have h := h x29 e_x29
  refine g_istore_n C [some (.ref (ad 10)), some (.int x29)] dX9_reduce_29 (by decide) rfl ?_
  refine g_aload_n C dX9_reduce_30 rfl ?_
  refine fget_10_12_X9_29 C rfl dX9_reduce_31 ?_
  refine g_aload_n C dX9_reduce_34 rfl ?_
  refine fget_10_11_X9_149 C rfl dX9_reduce_35 ?_
  refine g_iald C (by decide) h.1 dX9_reduce_38 ?_
  have h := h.2
  refine g_callSi C [.int (gA σ2 53 (Int32.toNatClampNeg (gF σ2 10 11)))] (c_X9_isPrefix l D cy ad b0 C.A (gA σ2 53 (Int32.toNatClampNeg (gF σ2 10 11)))) cal_X9_isPrefix mw_544 rfl ⟨Nat.le_of_ble_eq_true rfl, Nat.le_of_ble_eq_true rfl⟩ ⟨rfl, rfl⟩ ⟨Nat.zero_le _, Nat.zero_le _⟩ (Nat.le_of_ble_eq_true rfl) rfl dX9_reduce_39 h (fun r3 σ4 h => ?_)
  refine g_if_eq C 73 dX9_reduce_42 (by decide) (fun c42 => ?_) (fun c42 => ?_)
  · have h := h.1 c42
    refine g_aload_n C dX9_reduce_73 rfl ?_
    refine g_dup C dX9_reduce_74 rfl ?_
    refine fget_10_9_X9_146 C rfl dX9_reduce_75 ?_
    refine g_iconst C dX9_reduce_78 kc_1 ?_
    refine g_isub C dX9_reduce_79 ?_
    refine fput_10_9_X9_146 C rfl dX9_reduce_80 (fun σ5 e_σ5 => ?_)
    have h := h σ5 e_σ5
    refine g_aload_n C dX9_reduce_83 rfl ?_
    refine g_aload_n C dX9_reduce_84 rfl ?_
    refine fget_10_12_X9_29 C rfl dX9_reduce_85 ?_
    refine g_aload_n C dX9_reduce_88 rfl ?_
    refine fget_10_11_X9_149 C rfl dX9_reduce_89 ?_
    refine g_iald C (by decide) h.1 dX9_reduce_92 ?_
    have h := h.2
    refine g_aload_n C dX9_reduce_93 rfl ?_
    refine fget_10_10_X9_26 C rfl dX9_reduce_94 ?_
    refine g_aload_n C dX9_reduce_97 rfl ?_
    refine fget_10_9_X9_146 C rfl dX9_reduce_98 ?_
    refine g_iald C (by decide) h.1 dX9_reduce_101 ?_
    have h := h.2
    refine g_iload_n C dX9_reduce_102 rfl ?_
    refine g_aload_n C dX9_reduce_103 rfl ?_
    refine fget_10_13_X9_32 C rfl dX9_reduce_104 ?_
    refine g_aload_n C dX9_reduce_107 rfl ?_
    refine fget_10_11_X9_149 C rfl dX9_reduce_108 ?_
    refine g_iald C (by decide) h.1 dX9_reduce_111 ?_
    have h := h.2
    refine g_callVv C 10 [.int (gA σ5 53 (Int32.toNatClampNeg (gF σ5 10 11))), .int (gA σ5 52 (Int32.toNatClampNeg (gF σ5 10 9))), .int x29, .int (gA σ5 54 (Int32.toNatClampNeg (gF σ5 10 11)))] (c_X9_node l D cy ad b0 C.A (gA σ5 53 (Int32.toNatClampNeg (gF σ5 10 11))) (gA σ5 52 (Int32.toNatClampNeg (gF σ5 10 9))) x29 (gA σ5 54 (Int32.toNatClampNeg (gF σ5 10 11)))) cal_X9_node mw_554 (by decide) rfl rfl ⟨Nat.le_of_ble_eq_true rfl, Nat.le_of_ble_eq_true rfl⟩ ⟨rfl, rfl⟩ ⟨Nat.zero_le _, Nat.zero_le _⟩ (Nat.le_of_ble_eq_true rfl) rfl dX9_reduce_112 h (fun σ6 h => ?_)
    exact g_vret C dX9_reduce_115 h
  · have h := h.2 c42
    refine g_aload_n C dX9_reduce_45 rfl ?_
    refine g_aload_n C dX9_reduce_46 rfl ?_
    refine fget_10_12_X9_29 C rfl dX9_reduce_47 ?_
    refine g_aload_n C dX9_reduce_50 rfl ?_
    refine fget_10_11_X9_149 C rfl dX9_reduce_51 ?_
    refine g_iald C (by decide) h.1 dX9_reduce_54 ?_
    have h := h.2
    refine g_iload_n C dX9_reduce_55 rfl ?_
    refine g_bipush C dX9_reduce_56 kb_m9 ?_
    refine g_aload_n C dX9_reduce_58 rfl ?_
    refine fget_10_13_X9_32 C rfl dX9_reduce_59 ?_
    refine g_aload_n C dX9_reduce_62 rfl ?_
    refine fget_10_11_X9_149 C rfl dX9_reduce_63 ?_
    refine g_iald C (by decide) h.1 dX9_reduce_66 ?_
    have h := h.2
    refine g_callVv C 10 [.int (gA σ4 53 (Int32.toNatClampNeg (gF σ4 10 11))), .int x29, .int (-9 : Int32), .int (gA σ4 54 (Int32.toNatClampNeg (gF σ4 10 11)))] (c_X9_node l D cy ad b0 C.A (gA σ4 53 (Int32.toNatClampNeg (gF σ4 10 11))) x29 (-9 : Int32) (gA σ4 54 (Int32.toNatClampNeg (gF σ4 10 11)))) cal_X9_node mw_554 (by decide) rfl rfl ⟨Nat.le_of_ble_eq_true rfl, Nat.le_of_ble_eq_true rfl⟩ ⟨rfl, rfl⟩ ⟨Nat.zero_le _, Nat.zero_le _⟩ (Nat.le_of_ble_eq_true rfl) rfl dX9_reduce_67 h (fun σ7 h => ?_)
    refine g_goto C 115 dX9_reduce_70 (by decide) ?_
    exact g_vret C dX9_reduce_115 h
def rm_X9_fail : Room := { frames := 0, cells := 0, slots := 0, locals := 0 }
def wp_X9_fail (a0 : Int32) (σ : Sg) (Q : Int32 → Sg → Prop) : Prop :=
  ∀ σ1 : Sg, σ1 = stF σ 10 2 (nI 1) → (∀ σ2 : Sg, σ2 = stF σ1 10 3 a0 → (Q (nI 0) σ2))
set_option maxHeartbeats 4000000 in
set_option maxRecDepth 100000 in
theorem c_X9_fail (l : Launch) (D : va_G) (cy : Nat → ClassId) (ad : Nat → Nat) (b0 : Nat) (hA : AdOk ad b0) (a0 : Int32) : Cti l D cy ad b0 yX9_fail cX9_fail 2 (some .boolean) rm_X9_fail [.ref (ad 10), .int a0] (fun σ Q => wp_X9_fail a0 σ Q) := by
  intro σ Q h
  refine g_enter hA rfl (Nat.le_of_ble_eq_true rfl) [some (.ref (ad 10)), some (.int a0)] rfl ?_
  intro p e s m args below meth c C
  refine g_aload_n C dX9_fail_0 rfl ?_
  refine g_iconst C dX9_fail_1 kc_1 ?_
  refine fput_10_2_X9_140 C rfl dX9_fail_2 (fun σ1 e_σ1 => ?_)
  have h := h σ1 e_σ1
  refine g_aload_n C dX9_fail_5 rfl ?_
  refine g_iload_n C dX9_fail_6 rfl ?_
  refine fput_10_3_X9_160 C rfl dX9_fail_7 (fun σ2 e_σ2 => ?_)
  have h := h σ2 e_σ2
  refine g_iconst C dX9_fail_10 kc_0 ?_
  exact g_zret C (narrow_bl bl_0) dX9_fail_11 h
def rm_X9_reduceTo : Room := { frames := 2, cells := 0, slots := 0, locals := 45 }
def wp_X9_reduceTo_84 (v2 : Int32) (v3 : Int32) (K21 : Sg → Prop) (Q : Sg → Prop) (σ : Sg) : Prop :=
  wp_X9_reduce σ (fun σ1 => K21 σ1)
set_option maxHeartbeats 4000000 in
set_option maxRecDepth 100000 in
theorem k_X9_reduceTo_84 {Q : Sg → Prop} (C : Cx p s m args meth c D cy ad b0 yX9_reduceTo cX9_reduceTo 4 none) (v2 : Int32) (v3 : Int32) (K21 : Sg → Prop) (hK21 : ∀  (σ : Sg), K21 σ → gV p l e rm_X9_reduceTo s m args below meth c D cy ad b0 Q 4 21 σ [some (.ref (ad 10)), none, some (.int v2), some (.int v3)] []) (σ : Sg) (h : wp_X9_reduceTo_84 v2 v3 K21 Q σ) : gV p l e rm_X9_reduceTo s m args below meth c D cy ad b0 Q 4 84 σ [some (.ref (ad 10)), none, some (.int v2), some (.int v3)] [] := by
  refine g_aload_n C dX9_reduceTo_84 rfl ?_
  refine g_callVv C 10 [] (c_X9_reduce l D cy ad b0 C.A) cal_X9_reduce mw_562 (by decide) rfl rfl ⟨Nat.le_of_ble_eq_true rfl, Nat.le_of_ble_eq_true rfl⟩ ⟨rfl, rfl⟩ ⟨Nat.zero_le _, Nat.zero_le _⟩ (Nat.le_of_ble_eq_true rfl) rfl dX9_reduceTo_85 h (fun σ1 h => ?_)
  refine g_goto C 21 dX9_reduceTo_88 (by decide) ?_
  exact hK21 σ1 h
def wb_X9_reduceTo_21 (v2 : Int32) (v3 : Int32) (K21 : Sg → Prop) (Q : Sg → Prop) (σ : Sg) : Prop :=
  (((gF σ 10 11) ≤ (nI 0) → Q σ) ∧ (¬ (gF σ 10 11) ≤ (nI 0) → vp_in ((gF σ 10 11) - (nI 1)) (aN 53) ∧ ((((gA σ 53 (Int32.toNatClampNeg ((gF σ 10 11) - (nI 1)))) = (nI 40) → Q σ) ∧ (¬ (gA σ 53 (Int32.toNatClampNeg ((gF σ 10 11) - (nI 1)))) = (nI 40) → vp_in ((gF σ 10 11) - (nI 1)) (aN 53) ∧ (wp_X9_rank (gA σ 53 (Int32.toNatClampNeg ((gF σ 10 11) - (nI 1)))) σ (fun r1 σ2 => ((v2 < r1 → wp_X9_reduceTo_84 v2 v3 K21 Q σ2) ∧ (¬ v2 < r1 → vp_in ((gF σ2 10 11) - (nI 1)) (aN 53) ∧ (wp_X9_rank (gA σ2 53 (Int32.toNatClampNeg ((gF σ2 10 11) - (nI 1)))) σ2 (fun r3 σ4 => ((¬ r3 = v2 → Q σ4) ∧ (r3 = v2 → ((¬ v3 = (nI 0) → Q σ4) ∧ (v3 = (nI 0) → wp_X9_reduceTo_84 v2 v3 K21 Q σ4)))))))))))))))
set_option maxHeartbeats 4000000 in
set_option maxRecDepth 100000 in
theorem kb_X9_reduceTo_21 {Q : Sg → Prop} (C : Cx p s m args meth c D cy ad b0 yX9_reduceTo cX9_reduceTo 4 none) (v2 : Int32) (v3 : Int32) (K21 : Sg → Prop) (hK21 : ∀  (σ : Sg), K21 σ → gV p l e rm_X9_reduceTo s m args below meth c D cy ad b0 Q 4 21 σ [some (.ref (ad 10)), none, some (.int v2), some (.int v3)] []) (σ : Sg) (h : wb_X9_reduceTo_21 v2 v3 K21 Q σ) : gV p l e rm_X9_reduceTo s m args below meth c D cy ad b0 Q 4 21 σ [some (.ref (ad 10)), none, some (.int v2), some (.int v3)] [] := by
  refine g_aload_n C dX9_reduceTo_21 rfl ?_
  refine fget_10_11_X9_149 C rfl dX9_reduceTo_22 ?_
  refine g_if_le C 91 dX9_reduceTo_25 (by decide) (fun c25 => ?_) (fun c25 => ?_)
  · have h := h.1 c25
    exact g_vret C dX9_reduceTo_91 h
  · have h := h.2 c25
    refine g_aload_n C dX9_reduceTo_28 rfl ?_
    refine fget_10_12_X9_29 C rfl dX9_reduceTo_29 ?_
    refine g_aload_n C dX9_reduceTo_32 rfl ?_
    refine fget_10_11_X9_149 C rfl dX9_reduceTo_33 ?_
    refine g_iconst C dX9_reduceTo_36 kc_1 ?_
    refine g_isub C dX9_reduceTo_37 ?_
    refine g_iald C (by decide) h.1 dX9_reduceTo_38 ?_
    have h := h.2
    refine g_bipush C dX9_reduceTo_39 kb_40 ?_
    refine g_icmp_eq C 91 dX9_reduceTo_41 (by decide) (fun c41 => ?_) (fun c41 => ?_)
    · have h := h.1 c41
      exact g_vret C dX9_reduceTo_91 h
    · have h := h.2 c41
      refine g_aload_n C dX9_reduceTo_44 rfl ?_
      refine fget_10_12_X9_29 C rfl dX9_reduceTo_45 ?_
      refine g_aload_n C dX9_reduceTo_48 rfl ?_
      refine fget_10_11_X9_149 C rfl dX9_reduceTo_49 ?_
      refine g_iconst C dX9_reduceTo_52 kc_1 ?_
      refine g_isub C dX9_reduceTo_53 ?_
      refine g_iald C (by decide) h.1 dX9_reduceTo_54 ?_
      have h := h.2
      refine g_callSi C [.int (gA σ 53 (Int32.toNatClampNeg ((gF σ 10 11) - (nI 1))))] (c_X9_rank l D cy ad b0 C.A (gA σ 53 (Int32.toNatClampNeg ((gF σ 10 11) - (nI 1))))) cal_X9_rank mw_547 rfl ⟨Nat.le_of_ble_eq_true rfl, Nat.le_of_ble_eq_true rfl⟩ ⟨rfl, rfl⟩ ⟨Nat.zero_le _, Nat.zero_le _⟩ (Nat.le_of_ble_eq_true rfl) rfl dX9_reduceTo_55 h (fun r1 σ2 h => ?_)
      refine g_iload_n C dX9_reduceTo_58 rfl ?_
      refine g_icmp_gt C 84 dX9_reduceTo_59 (by decide) (fun c59 => ?_) (fun c59 => ?_)
      · have h := h.1 c59
        exact k_X9_reduceTo_84 C v2 v3 K21 hK21 σ2 h
      · have h := h.2 c59
        refine g_aload_n C dX9_reduceTo_62 rfl ?_
        refine fget_10_12_X9_29 C rfl dX9_reduceTo_63 ?_
        refine g_aload_n C dX9_reduceTo_66 rfl ?_
        refine fget_10_11_X9_149 C rfl dX9_reduceTo_67 ?_
        refine g_iconst C dX9_reduceTo_70 kc_1 ?_
        refine g_isub C dX9_reduceTo_71 ?_
        refine g_iald C (by decide) h.1 dX9_reduceTo_72 ?_
        have h := h.2
        refine g_callSi C [.int (gA σ2 53 (Int32.toNatClampNeg ((gF σ2 10 11) - (nI 1))))] (c_X9_rank l D cy ad b0 C.A (gA σ2 53 (Int32.toNatClampNeg ((gF σ2 10 11) - (nI 1))))) cal_X9_rank mw_547 rfl ⟨Nat.le_of_ble_eq_true rfl, Nat.le_of_ble_eq_true rfl⟩ ⟨rfl, rfl⟩ ⟨Nat.zero_le _, Nat.zero_le _⟩ (Nat.le_of_ble_eq_true rfl) rfl dX9_reduceTo_73 h (fun r3 σ4 h => ?_)
        refine g_iload_n C dX9_reduceTo_76 rfl ?_
        refine g_icmp_ne C 91 dX9_reduceTo_77 (by decide) (fun c77 => ?_) (fun c77 => ?_)
        · have h := h.1 c77
          exact g_vret C dX9_reduceTo_91 h
        · have h := h.2 c77
          refine g_iload_n C dX9_reduceTo_80 rfl ?_
          refine g_if_ne C 91 dX9_reduceTo_81 (by decide) (fun c81 => ?_) (fun c81 => ?_)
          · have h := h.1 c81
            exact g_vret C dX9_reduceTo_91 h
          · have h := h.2 c81
            exact k_X9_reduceTo_84 C v2 v3 K21 hK21 σ4 h
def wl_X9_reduceTo_21 (v2 : Int32) (v3 : Int32) (Q : Sg → Prop) : Nat → Sg → Prop
  | 0, _ => False
  | n + 1, σ => wb_X9_reduceTo_21 v2 v3 (wl_X9_reduceTo_21 v2 v3 Q n) Q σ
set_option maxHeartbeats 4000000 in
set_option maxRecDepth 100000 in
theorem kl_X9_reduceTo_21 {Q : Sg → Prop} (C : Cx p s m args meth c D cy ad b0 yX9_reduceTo cX9_reduceTo 4 none) (v2 : Int32) (v3 : Int32) : ∀ (n : Nat) (σ : Sg), wl_X9_reduceTo_21 v2 v3 Q n σ → gV p l e rm_X9_reduceTo s m args below meth c D cy ad b0 Q 4 21 σ [some (.ref (ad 10)), none, some (.int v2), some (.int v3)] [] := by
  intro n
  induction n with
  | zero => intro σ h; exact False.elim h
  | succ n ih =>
    intro σ h
    exact kb_X9_reduceTo_21 C v2 v3 (wl_X9_reduceTo_21 v2 v3 Q n) (fun σ h => ih σ h) σ h
def wp_X9_reduceTo_20 (v2 : Int32) (s0 : Int32) (Q : Sg → Prop) (σ : Sg) : Prop :=
  ∃ n, wl_X9_reduceTo_21 v2 s0 Q n σ
set_option maxHeartbeats 4000000 in
set_option maxRecDepth 100000 in
theorem k_X9_reduceTo_20 {Q : Sg → Prop} (C : Cx p s m args meth c D cy ad b0 yX9_reduceTo cX9_reduceTo 4 none) (v2 : Int32) (s0 : Int32) (σ : Sg) (h : wp_X9_reduceTo_20 v2 s0 Q σ) : gV p l e rm_X9_reduceTo s m args below meth c D cy ad b0 Q 4 20 σ [some (.ref (ad 10)), none, some (.int v2), none] [.int s0] := by
  refine g_istore_n C [some (.ref (ad 10)), none, some (.int v2), some (.int s0)] dX9_reduceTo_20 (by decide) rfl ?_
  obtain ⟨n, h⟩ := h
  exact kl_X9_reduceTo_21 C v2 s0 n σ h
def wp_X9_reduceTo_15 (v2 : Int32) (Q : Sg → Prop) (σ : Sg) : Prop :=
  wp_X9_reduceTo_20 v2 (nI 1) Q σ
set_option maxHeartbeats 4000000 in
set_option maxRecDepth 100000 in
theorem k_X9_reduceTo_15 {Q : Sg → Prop} (C : Cx p s m args meth c D cy ad b0 yX9_reduceTo cX9_reduceTo 4 none) (v2 : Int32) (σ : Sg) (h : wp_X9_reduceTo_15 v2 Q σ) : gV p l e rm_X9_reduceTo s m args below meth c D cy ad b0 Q 4 15 σ [some (.ref (ad 10)), none, some (.int v2), none] [] := by
  refine g_iconst C dX9_reduceTo_15 kc_1 ?_
  refine g_goto C 20 dX9_reduceTo_16 (by decide) ?_
  exact k_X9_reduceTo_20 C v2 (nI 1) σ h
def wp_X9_reduceTo (a0 : Int32) (σ : Sg) (Q : Sg → Prop) : Prop :=
  wp_X9_rank a0 σ (fun r1 σ2 => ((r1 = (nI 4) → wp_X9_reduceTo_15 r1 Q σ2) ∧ (¬ r1 = (nI 4) → ((¬ r1 = (nI 1) → wp_X9_reduceTo_20 r1 (nI 0) Q σ2) ∧ (r1 = (nI 1) → wp_X9_reduceTo_15 r1 Q σ2)))))
set_option maxHeartbeats 4000000 in
set_option maxRecDepth 100000 in
theorem c_X9_reduceTo (l : Launch) (D : va_G) (cy : Nat → ClassId) (ad : Nat → Nat) (b0 : Nat) (hA : AdOk ad b0) (a0 : Int32) : Ctv l D cy ad b0 yX9_reduceTo cX9_reduceTo 4 none rm_X9_reduceTo [.ref (ad 10), .int a0] (fun σ Q => wp_X9_reduceTo a0 σ Q) := by
  intro σ Q h
  refine g_enter hA rfl (Nat.le_of_ble_eq_true rfl) [some (.ref (ad 10)), some (.int a0), none, none] rfl ?_
  intro p e s m args below meth c C
  refine g_iload_n C dX9_reduceTo_0 rfl ?_
  refine g_callSi C [.int a0] (c_X9_rank l D cy ad b0 C.A a0) cal_X9_rank mw_547 rfl ⟨Nat.le_of_ble_eq_true rfl, Nat.le_of_ble_eq_true rfl⟩ ⟨rfl, rfl⟩ ⟨Nat.zero_le _, Nat.zero_le _⟩ (Nat.le_of_ble_eq_true rfl) rfl dX9_reduceTo_1 h (fun r1 σ2 h => ?_)
  refine g_istore_n C [some (.ref (ad 10)), some (.int a0), some (.int r1), none] dX9_reduceTo_4 (by decide) rfl ?_
  refine g_iload_n C dX9_reduceTo_5 rfl ?_
  refine g_iconst C dX9_reduceTo_6 kc_4 ?_
  refine g_icmp_eq C 15 dX9_reduceTo_7 (by decide) (fun c7 => ?_) (fun c7 => ?_)
  · have h := h.1 c7
    refine g_mask [true, false, true, false] rfl ?_
    exact k_X9_reduceTo_15 C r1 σ2 h
  · have h := h.2 c7
    refine g_iload_n C dX9_reduceTo_10 rfl ?_
    refine g_iconst C dX9_reduceTo_11 kc_1 ?_
    refine g_icmp_ne C 19 dX9_reduceTo_12 (by decide) (fun c12 => ?_) (fun c12 => ?_)
    · have h := h.1 c12
      refine g_iconst C dX9_reduceTo_19 kc_0 ?_
      refine g_mask [true, false, true, false] rfl ?_
      exact k_X9_reduceTo_20 C r1 (nI 0) σ2 h
    · have h := h.2 c12
      refine g_mask [true, false, true, false] rfl ?_
      exact k_X9_reduceTo_15 C r1 σ2 h
def rm_X9_push : Room := { frames := 0, cells := 0, slots := 0, locals := 0 }
def wp_X9_push (a0 : Int32) (a1 : Int32) (σ : Sg) (Q : Sg → Prop) : Prop :=
  vp_in (gF σ 10 11) (aN 53) ∧ (∀ σ1 : Sg, σ1 = stA σ 53 (Int32.toNatClampNeg (gF σ 10 11)) a0 → (vp_in (gF σ1 10 11) (aN 54) ∧ (∀ σ2 : Sg, σ2 = stA σ1 54 (Int32.toNatClampNeg (gF σ1 10 11)) a1 → (∀ σ3 : Sg, σ3 = stF σ2 10 11 ((gF σ2 10 11) + (nI 1)) → (Q σ3)))))
set_option maxHeartbeats 4000000 in
set_option maxRecDepth 100000 in
theorem c_X9_push (l : Launch) (D : va_G) (cy : Nat → ClassId) (ad : Nat → Nat) (b0 : Nat) (hA : AdOk ad b0) (a0 : Int32) (a1 : Int32) : Ctv l D cy ad b0 yX9_push cX9_push 3 none rm_X9_push [.ref (ad 10), .int a0, .int a1] (fun σ Q => wp_X9_push a0 a1 σ Q) := by
  intro σ Q h
  refine g_enter hA rfl (Nat.le_of_ble_eq_true rfl) [some (.ref (ad 10)), some (.int a0), some (.int a1)] rfl ?_
  intro p e s m args below meth c C
  refine g_aload_n C dX9_push_0 rfl ?_
  refine fget_10_12_X9_29 C rfl dX9_push_1 ?_
  refine g_aload_n C dX9_push_4 rfl ?_
  refine fget_10_11_X9_149 C rfl dX9_push_5 ?_
  refine g_iload_n C dX9_push_8 rfl ?_
  refine g_iast C (by decide) h.1 dX9_push_9 (fun σ1 e_σ1 => ?_)
  have h := h.2 σ1 e_σ1
  refine g_aload_n C dX9_push_10 rfl ?_
  refine fget_10_13_X9_32 C rfl dX9_push_11 ?_
  refine g_aload_n C dX9_push_14 rfl ?_
  refine fget_10_11_X9_149 C rfl dX9_push_15 ?_
  refine g_iload_n C dX9_push_18 rfl ?_
  refine g_iast C (by decide) h.1 dX9_push_19 (fun σ2 e_σ2 => ?_)
  have h := h.2 σ2 e_σ2
  refine g_aload_n C dX9_push_20 rfl ?_
  refine g_dup C dX9_push_21 rfl ?_
  refine fget_10_11_X9_149 C rfl dX9_push_22 ?_
  refine g_iconst C dX9_push_25 kc_1 ?_
  refine g_iadd C dX9_push_26 ?_
  refine fput_10_11_X9_149 C rfl dX9_push_27 (fun σ3 e_σ3 => ?_)
  have h := h σ3 e_σ3
  exact g_vret C dX9_push_30 h
def rm_X9_isPure : Room := { frames := 0, cells := 0, slots := 0, locals := 0 }
def wp_X9_isPure_224 (v1 : Int32) (Q : Int32 → Sg → Prop) (σ : Sg) : Prop :=
  ((¬ v1 = (nI 99) → Q (nI 0) σ) ∧ (v1 = (nI 99) → Q (nI 1) σ))
set_option maxHeartbeats 4000000 in
set_option maxRecDepth 100000 in
theorem k_X9_isPure_224 {Q : Int32 → Sg → Prop} (C : Cx p s m args meth c D cy ad b0 yX9_isPure cX9_isPure 6 (some .boolean)) (v1 : Int32) (σ : Sg) (h : wp_X9_isPure_224 v1 Q σ) : gI p l e rm_X9_isPure s m args below meth c D cy ad b0 Q 6 224 σ [none, some (.int v1), none, none, none, none] [] := by
  refine g_iload_n C dX9_isPure_224 rfl ?_
  refine g_bipush C dX9_isPure_225 kb_99 ?_
  refine g_icmp_ne C 234 dX9_isPure_227 (by decide) (fun c227 => ?_) (fun c227 => ?_)
  · have h := h.1 c227
    refine g_iconst C dX9_isPure_234 kc_0 ?_
    exact g_zret C (narrow_bl bl_0) dX9_isPure_235 h
  · have h := h.2 c227
    refine g_iconst C dX9_isPure_230 kc_1 ?_
    refine g_goto C 235 dX9_isPure_231 (by decide) ?_
    exact g_zret C (narrow_bl bl_1) dX9_isPure_235 h
def wp_X9_isPure_208 (v1 : Int32) (Q : Int32 → Sg → Prop) (σ : Sg) : Prop :=
  (((nI 99) ≤ v1 → wp_X9_isPure_224 v1 Q σ) ∧ (¬ (nI 99) ≤ v1 → ∀ σ1 : Sg, σ1 = stF σ 10 2 (nI 2) → (∀ σ2 : Sg, σ2 = stF σ1 10 3 v1 → (wp_X9_isPure_224 v1 Q σ2))))
set_option maxHeartbeats 4000000 in
set_option maxRecDepth 100000 in
theorem k_X9_isPure_208 {Q : Int32 → Sg → Prop} (C : Cx p s m args meth c D cy ad b0 yX9_isPure cX9_isPure 6 (some .boolean)) (v1 : Int32) (σ : Sg) (h : wp_X9_isPure_208 v1 Q σ) : gI p l e rm_X9_isPure s m args below meth c D cy ad b0 Q 6 208 σ [some (.ref (ad 10)), some (.int v1), none, none, none, none] [] := by
  refine g_iload_n C dX9_isPure_208 rfl ?_
  refine g_bipush C dX9_isPure_209 kb_99 ?_
  refine g_icmp_ge C 224 dX9_isPure_211 (by decide) (fun c211 => ?_) (fun c211 => ?_)
  · have h := h.1 c211
    refine g_mask [false, true, false, false, false, false] rfl ?_
    exact k_X9_isPure_224 C v1 σ h
  · have h := h.2 c211
    refine g_aload_n C dX9_isPure_214 rfl ?_
    refine g_iconst C dX9_isPure_215 kc_2 ?_
    refine fput_10_2_X9_140 C rfl dX9_isPure_216 (fun σ1 e_σ1 => ?_)
    have h := h σ1 e_σ1
    refine g_aload_n C dX9_isPure_219 rfl ?_
    refine g_iload_n C dX9_isPure_220 rfl ?_
    refine fput_10_3_X9_160 C rfl dX9_isPure_221 (fun σ2 e_σ2 => ?_)
    have h := h σ2 e_σ2
    refine g_mask [false, true, false, false, false, false] rfl ?_
    exact k_X9_isPure_224 C v1 σ2 h
def wp_X9_isPure_202 (v1 : Int32) (v2 : Int32) (K31 : Int32 → Int32 → Sg → Prop) (Q : Int32 → Sg → Prop) (σ : Sg) : Prop :=
  ∀ x202 : Int32, x202 = v2 + (-1 : Int32) → (K31 v1 x202 σ)
set_option maxHeartbeats 4000000 in
set_option maxRecDepth 100000 in
theorem k_X9_isPure_202 {Q : Int32 → Sg → Prop} (C : Cx p s m args meth c D cy ad b0 yX9_isPure cX9_isPure 6 (some .boolean)) (v1 : Int32) (v2 : Int32) (K31 : Int32 → Int32 → Sg → Prop) (hK31 : ∀ (z1 : Int32) (z2 : Int32) (σ : Sg), K31 z1 z2 σ → gI p l e rm_X9_isPure s m args below meth c D cy ad b0 Q 6 31 σ [some (.ref (ad 10)), some (.int z1), some (.int z2), none, none, none] []) (σ : Sg) (h : wp_X9_isPure_202 v1 v2 K31 Q σ) : gI p l e rm_X9_isPure s m args below meth c D cy ad b0 Q 6 202 σ [some (.ref (ad 10)), some (.int v1), some (.int v2), none, none, none] [] := by
  obtain ⟨x202, e_x202⟩ : ∃ v : Int32, v = v2 + (-1 : Int32) := ⟨_, rfl⟩
  have h := h x202 e_x202
  refine g_iinc C [some (.ref (ad 10)), some (.int v1), some (.int x202), none, none, none] dX9_isPure_202 rfl e_x202.symm (by decide) rfl ?_
  refine g_goto C 31 dX9_isPure_205 (by decide) ?_
  exact hK31 v1 x202 σ h
def wp_X9_isPure_178 (v1 : Int32) (v2 : Int32) (v4 : Int32) (K31 : Int32 → Int32 → Sg → Prop) (Q : Int32 → Sg → Prop) (σ : Sg) : Prop :=
  vp_in v2 (aN 50) ∧ ((((gA σ 50 (Int32.toNatClampNeg v2)) = (-9 : Int32) → wp_X9_isPure_202 v1 v2 K31 Q σ) ∧ (¬ (gA σ 50 (Int32.toNatClampNeg v2)) = (-9 : Int32) → vp_in v2 (aN 50) ∧ (vp_in (gA σ 50 (Int32.toNatClampNeg v2)) (aN 55) ∧ (∀ σ1 : Sg, σ1 = stA σ 55 (Int32.toNatClampNeg (gA σ 50 (Int32.toNatClampNeg v2))) (vp_nar .boolean v4) → (wp_X9_isPure_202 v1 v2 K31 Q σ1))))))
set_option maxHeartbeats 4000000 in
set_option maxRecDepth 100000 in
theorem k_X9_isPure_178 {Q : Int32 → Sg → Prop} (C : Cx p s m args meth c D cy ad b0 yX9_isPure cX9_isPure 6 (some .boolean)) (v1 : Int32) (v2 : Int32) (v4 : Int32) (K31 : Int32 → Int32 → Sg → Prop) (hK31 : ∀ (z1 : Int32) (z2 : Int32) (σ : Sg), K31 z1 z2 σ → gI p l e rm_X9_isPure s m args below meth c D cy ad b0 Q 6 31 σ [some (.ref (ad 10)), some (.int z1), some (.int z2), none, none, none] []) (σ : Sg) (h : wp_X9_isPure_178 v1 v2 v4 K31 Q σ) : gI p l e rm_X9_isPure s m args below meth c D cy ad b0 Q 6 178 σ [some (.ref (ad 10)), some (.int v1), some (.int v2), none, some (.int v4), none] [] := by
  refine g_aload_n C dX9_isPure_178 rfl ?_
  refine fget_10_7_X9_20 C rfl dX9_isPure_179 ?_
  refine g_iload_n C dX9_isPure_182 rfl ?_
  refine g_iald C (by decide) h.1 dX9_isPure_183 ?_
  have h := h.2
  refine g_bipush C dX9_isPure_184 kb_m9 ?_
  refine g_icmp_eq C 202 dX9_isPure_186 (by decide) (fun c186 => ?_) (fun c186 => ?_)
  · have h := h.1 c186
    refine g_mask [true, true, true, false, false, false] rfl ?_
    exact k_X9_isPure_202 C v1 v2 K31 hK31 σ h
  · have h := h.2 c186
    refine g_aload_n C dX9_isPure_189 rfl ?_
    refine fget_10_14_X9_35 C rfl dX9_isPure_190 ?_
    refine g_aload_n C dX9_isPure_193 rfl ?_
    refine fget_10_7_X9_20 C rfl dX9_isPure_194 ?_
    refine g_iload_n C dX9_isPure_197 rfl ?_
    refine g_iald C (by decide) h.1 dX9_isPure_198 ?_
    have h := h.2
    refine g_iload C dX9_isPure_199 rfl ?_
    refine g_zast C (by decide) h.1 dX9_isPure_201 (fun σ1 e_σ1 => ?_)
    have h := h.2 σ1 e_σ1
    refine g_mask [true, true, true, false, false, false] rfl ?_
    exact k_X9_isPure_202 C v1 v2 K31 hK31 σ1 h
def wp_X9_isPure_153 (v2 : Int32) (v4 : Int32) (s0 : Int32) (K31 : Int32 → Int32 → Sg → Prop) (Q : Int32 → Sg → Prop) (σ : Sg) : Prop :=
  vp_in v2 (aN 49) ∧ ((((gA σ 49 (Int32.toNatClampNeg v2)) = (-9 : Int32) → wp_X9_isPure_178 s0 v2 v4 K31 Q σ) ∧ (¬ (gA σ 49 (Int32.toNatClampNeg v2)) = (-9 : Int32) → vp_in v2 (aN 49) ∧ (vp_in (gA σ 49 (Int32.toNatClampNeg v2)) (aN 55) ∧ (∀ σ1 : Sg, σ1 = stA σ 55 (Int32.toNatClampNeg (gA σ 49 (Int32.toNatClampNeg v2))) (vp_nar .boolean v4) → (wp_X9_isPure_178 s0 v2 v4 K31 Q σ1))))))
set_option maxHeartbeats 4000000 in
set_option maxRecDepth 100000 in
theorem k_X9_isPure_153 {Q : Int32 → Sg → Prop} (C : Cx p s m args meth c D cy ad b0 yX9_isPure cX9_isPure 6 (some .boolean)) (v2 : Int32) (v4 : Int32) (s0 : Int32) (K31 : Int32 → Int32 → Sg → Prop) (hK31 : ∀ (z1 : Int32) (z2 : Int32) (σ : Sg), K31 z1 z2 σ → gI p l e rm_X9_isPure s m args below meth c D cy ad b0 Q 6 31 σ [some (.ref (ad 10)), some (.int z1), some (.int z2), none, none, none] []) (σ : Sg) (h : wp_X9_isPure_153 v2 v4 s0 K31 Q σ) : gI p l e rm_X9_isPure s m args below meth c D cy ad b0 Q 6 153 σ [some (.ref (ad 10)), none, some (.int v2), none, some (.int v4), none] [.int s0] := by
  refine g_istore_n C [some (.ref (ad 10)), some (.int s0), some (.int v2), none, some (.int v4), none] dX9_isPure_153 (by decide) rfl ?_
  refine g_aload_n C dX9_isPure_154 rfl ?_
  refine fget_10_6_X9_17 C rfl dX9_isPure_155 ?_
  refine g_iload_n C dX9_isPure_158 rfl ?_
  refine g_iald C (by decide) h.1 dX9_isPure_159 ?_
  have h := h.2
  refine g_bipush C dX9_isPure_160 kb_m9 ?_
  refine g_icmp_eq C 178 dX9_isPure_162 (by decide) (fun c162 => ?_) (fun c162 => ?_)
  · have h := h.1 c162
    exact k_X9_isPure_178 C s0 v2 v4 K31 hK31 σ h
  · have h := h.2 c162
    refine g_aload_n C dX9_isPure_165 rfl ?_
    refine fget_10_14_X9_35 C rfl dX9_isPure_166 ?_
    refine g_aload_n C dX9_isPure_169 rfl ?_
    refine fget_10_6_X9_17 C rfl dX9_isPure_170 ?_
    refine g_iload_n C dX9_isPure_173 rfl ?_
    refine g_iald C (by decide) h.1 dX9_isPure_174 ?_
    have h := h.2
    refine g_iload C dX9_isPure_175 rfl ?_
    refine g_zast C (by decide) h.1 dX9_isPure_177 (fun σ1 e_σ1 => ?_)
    have h := h.2 σ1 e_σ1
    exact k_X9_isPure_178 C s0 v2 v4 K31 hK31 σ1 h
def wp_X9_isPure_152 (v1 : Int32) (v2 : Int32) (v4 : Int32) (K31 : Int32 → Int32 → Sg → Prop) (Q : Int32 → Sg → Prop) (σ : Sg) : Prop :=
  wp_X9_isPure_153 v2 v4 v1 K31 Q σ
set_option maxHeartbeats 4000000 in
set_option maxRecDepth 100000 in
theorem k_X9_isPure_152 {Q : Int32 → Sg → Prop} (C : Cx p s m args meth c D cy ad b0 yX9_isPure cX9_isPure 6 (some .boolean)) (v1 : Int32) (v2 : Int32) (v4 : Int32) (K31 : Int32 → Int32 → Sg → Prop) (hK31 : ∀ (z1 : Int32) (z2 : Int32) (σ : Sg), K31 z1 z2 σ → gI p l e rm_X9_isPure s m args below meth c D cy ad b0 Q 6 31 σ [some (.ref (ad 10)), some (.int z1), some (.int z2), none, none, none] []) (σ : Sg) (h : wp_X9_isPure_152 v1 v2 v4 K31 Q σ) : gI p l e rm_X9_isPure s m args below meth c D cy ad b0 Q 6 152 σ [some (.ref (ad 10)), some (.int v1), some (.int v2), none, some (.int v4), none] [] := by
  refine g_iload_n C dX9_isPure_152 rfl ?_
  refine g_mask [true, false, true, false, true, false] rfl ?_
  exact k_X9_isPure_153 C v2 v4 v1 K31 hK31 σ h
def wp_X9_isPure_117 (v1 : Int32) (v2 : Int32) (v4 : Int32) (s0 : Int32) (K31 : Int32 → Int32 → Sg → Prop) (Q : Int32 → Sg → Prop) (σ : Sg) : Prop :=
  vp_in v2 (aN 55) ∧ ((((gA σ 55 (Int32.toNatClampNeg v2)) = (nI 0) → wp_X9_isPure_152 v1 v2 v4 K31 Q σ) ∧ (¬ (gA σ 55 (Int32.toNatClampNeg v2)) = (nI 0) → ((s0 = (nI 0) → wp_X9_isPure_152 v1 v2 v4 K31 Q σ) ∧ (¬ s0 = (nI 0) → vp_in v2 (aN 51) ∧ (((v1 ≤ (gA σ 51 (Int32.toNatClampNeg v2)) → wp_X9_isPure_152 v1 v2 v4 K31 Q σ) ∧ (¬ v1 ≤ (gA σ 51 (Int32.toNatClampNeg v2)) → vp_in v2 (aN 51) ∧ (wp_X9_isPure_153 v2 v4 (gA σ 51 (Int32.toNatClampNeg v2)) K31 Q σ)))))))))
set_option maxHeartbeats 4000000 in
set_option maxRecDepth 100000 in
theorem k_X9_isPure_117 {Q : Int32 → Sg → Prop} (C : Cx p s m args meth c D cy ad b0 yX9_isPure cX9_isPure 6 (some .boolean)) (v1 : Int32) (v2 : Int32) (v4 : Int32) (s0 : Int32) (K31 : Int32 → Int32 → Sg → Prop) (hK31 : ∀ (z1 : Int32) (z2 : Int32) (σ : Sg), K31 z1 z2 σ → gI p l e rm_X9_isPure s m args below meth c D cy ad b0 Q 6 31 σ [some (.ref (ad 10)), some (.int z1), some (.int z2), none, none, none] []) (σ : Sg) (h : wp_X9_isPure_117 v1 v2 v4 s0 K31 Q σ) : gI p l e rm_X9_isPure s m args below meth c D cy ad b0 Q 6 117 σ [some (.ref (ad 10)), some (.int v1), some (.int v2), none, some (.int v4), none] [.int s0] := by
  refine g_istore C [some (.ref (ad 10)), some (.int v1), some (.int v2), none, some (.int v4), some (.int s0)] dX9_isPure_117 (by decide) rfl ?_
  refine g_aload_n C dX9_isPure_119 rfl ?_
  refine fget_10_14_X9_35 C rfl dX9_isPure_120 ?_
  refine g_iload_n C dX9_isPure_123 rfl ?_
  refine g_zald C (by decide) h.1 dX9_isPure_124 ?_
  have h := h.2
  refine g_if_eq C 152 dX9_isPure_125 (by decide) (fun c125 => ?_) (fun c125 => ?_)
  · have h := h.1 c125
    refine g_mask [true, true, true, false, true, false] rfl ?_
    exact k_X9_isPure_152 C v1 v2 v4 K31 hK31 σ h
  · have h := h.2 c125
    refine g_iload C dX9_isPure_128 rfl ?_
    refine g_if_eq C 152 dX9_isPure_130 (by decide) (fun c130 => ?_) (fun c130 => ?_)
    · have h := h.1 c130
      refine g_mask [true, true, true, false, true, false] rfl ?_
      exact k_X9_isPure_152 C v1 v2 v4 K31 hK31 σ h
    · have h := h.2 c130
      refine g_aload_n C dX9_isPure_133 rfl ?_
      refine fget_10_8_X9_23 C rfl dX9_isPure_134 ?_
      refine g_iload_n C dX9_isPure_137 rfl ?_
      refine g_iald C (by decide) h.1 dX9_isPure_138 ?_
      have h := h.2
      refine g_iload_n C dX9_isPure_139 rfl ?_
      refine g_icmp_ge C 152 dX9_isPure_140 (by decide) (fun c140 => ?_) (fun c140 => ?_)
      · have h := h.1 c140
        refine g_mask [true, true, true, false, true, false] rfl ?_
        exact k_X9_isPure_152 C v1 v2 v4 K31 hK31 σ h
      · have h := h.2 c140
        refine g_aload_n C dX9_isPure_143 rfl ?_
        refine fget_10_8_X9_23 C rfl dX9_isPure_144 ?_
        refine g_iload_n C dX9_isPure_147 rfl ?_
        refine g_iald C (by decide) h.1 dX9_isPure_148 ?_
        have h := h.2
        refine g_goto C 153 dX9_isPure_149 (by decide) ?_
        refine g_mask [true, false, true, false, true, false] rfl ?_
        exact k_X9_isPure_153 C v2 v4 (gA σ 51 (Int32.toNatClampNeg v2)) K31 hK31 σ h
def wp_X9_isPure_112 (v1 : Int32) (v2 : Int32) (v4 : Int32) (K31 : Int32 → Int32 → Sg → Prop) (Q : Int32 → Sg → Prop) (σ : Sg) : Prop :=
  wp_X9_isPure_117 v1 v2 v4 (nI 1) K31 Q σ
set_option maxHeartbeats 4000000 in
set_option maxRecDepth 100000 in
theorem k_X9_isPure_112 {Q : Int32 → Sg → Prop} (C : Cx p s m args meth c D cy ad b0 yX9_isPure cX9_isPure 6 (some .boolean)) (v1 : Int32) (v2 : Int32) (v4 : Int32) (K31 : Int32 → Int32 → Sg → Prop) (hK31 : ∀ (z1 : Int32) (z2 : Int32) (σ : Sg), K31 z1 z2 σ → gI p l e rm_X9_isPure s m args below meth c D cy ad b0 Q 6 31 σ [some (.ref (ad 10)), some (.int z1), some (.int z2), none, none, none] []) (σ : Sg) (h : wp_X9_isPure_112 v1 v2 v4 K31 Q σ) : gI p l e rm_X9_isPure s m args below meth c D cy ad b0 Q 6 112 σ [some (.ref (ad 10)), some (.int v1), some (.int v2), none, some (.int v4), none] [] := by
  refine g_iconst C dX9_isPure_112 kc_1 ?_
  refine g_goto C 117 dX9_isPure_113 (by decide) ?_
  exact k_X9_isPure_117 C v1 v2 v4 (nI 1) K31 hK31 σ h
def wp_X9_isPure_80 (v1 : Int32) (v2 : Int32) (v3 : Int32) (s0 : Int32) (K31 : Int32 → Int32 → Sg → Prop) (Q : Int32 → Sg → Prop) (σ : Sg) : Prop :=
  ((v3 = (nI 78) → wp_X9_isPure_112 v1 v2 s0 K31 Q σ) ∧ (¬ v3 = (nI 78) → ((v3 = (nI 87) → wp_X9_isPure_112 v1 v2 s0 K31 Q σ) ∧ (¬ v3 = (nI 87) → ((v3 = (nI 71) → wp_X9_isPure_112 v1 v2 s0 K31 Q σ) ∧ (¬ v3 = (nI 71) → ((v3 = (nI 70) → wp_X9_isPure_112 v1 v2 s0 K31 Q σ) ∧ (¬ v3 = (nI 70) → ((¬ v3 = (nI 85) → wp_X9_isPure_117 v1 v2 s0 (nI 0) K31 Q σ) ∧ (v3 = (nI 85) → wp_X9_isPure_112 v1 v2 s0 K31 Q σ))))))))))
set_option maxHeartbeats 4000000 in
set_option maxRecDepth 100000 in
theorem k_X9_isPure_80 {Q : Int32 → Sg → Prop} (C : Cx p s m args meth c D cy ad b0 yX9_isPure cX9_isPure 6 (some .boolean)) (v1 : Int32) (v2 : Int32) (v3 : Int32) (s0 : Int32) (K31 : Int32 → Int32 → Sg → Prop) (hK31 : ∀ (z1 : Int32) (z2 : Int32) (σ : Sg), K31 z1 z2 σ → gI p l e rm_X9_isPure s m args below meth c D cy ad b0 Q 6 31 σ [some (.ref (ad 10)), some (.int z1), some (.int z2), none, none, none] []) (σ : Sg) (h : wp_X9_isPure_80 v1 v2 v3 s0 K31 Q σ) : gI p l e rm_X9_isPure s m args below meth c D cy ad b0 Q 6 80 σ [some (.ref (ad 10)), some (.int v1), some (.int v2), some (.int v3), none, none] [.int s0] := by
  refine g_istore C [some (.ref (ad 10)), some (.int v1), some (.int v2), some (.int v3), some (.int s0), none] dX9_isPure_80 (by decide) rfl ?_
  refine g_iload_n C dX9_isPure_82 rfl ?_
  refine g_bipush C dX9_isPure_83 kb_78 ?_
  refine g_icmp_eq C 112 dX9_isPure_85 (by decide) (fun c85 => ?_) (fun c85 => ?_)
  · have h := h.1 c85
    refine g_mask [true, true, true, false, true, false] rfl ?_
    exact k_X9_isPure_112 C v1 v2 s0 K31 hK31 σ h
  · have h := h.2 c85
    refine g_iload_n C dX9_isPure_88 rfl ?_
    refine g_bipush C dX9_isPure_89 kb_87 ?_
    refine g_icmp_eq C 112 dX9_isPure_91 (by decide) (fun c91 => ?_) (fun c91 => ?_)
    · have h := h.1 c91
      refine g_mask [true, true, true, false, true, false] rfl ?_
      exact k_X9_isPure_112 C v1 v2 s0 K31 hK31 σ h
    · have h := h.2 c91
      refine g_iload_n C dX9_isPure_94 rfl ?_
      refine g_bipush C dX9_isPure_95 kb_71 ?_
      refine g_icmp_eq C 112 dX9_isPure_97 (by decide) (fun c97 => ?_) (fun c97 => ?_)
      · have h := h.1 c97
        refine g_mask [true, true, true, false, true, false] rfl ?_
        exact k_X9_isPure_112 C v1 v2 s0 K31 hK31 σ h
      · have h := h.2 c97
        refine g_iload_n C dX9_isPure_100 rfl ?_
        refine g_bipush C dX9_isPure_101 kb_70 ?_
        refine g_icmp_eq C 112 dX9_isPure_103 (by decide) (fun c103 => ?_) (fun c103 => ?_)
        · have h := h.1 c103
          refine g_mask [true, true, true, false, true, false] rfl ?_
          exact k_X9_isPure_112 C v1 v2 s0 K31 hK31 σ h
        · have h := h.2 c103
          refine g_iload_n C dX9_isPure_106 rfl ?_
          refine g_bipush C dX9_isPure_107 kb_85 ?_
          refine g_icmp_ne C 116 dX9_isPure_109 (by decide) (fun c109 => ?_) (fun c109 => ?_)
          · have h := h.1 c109
            refine g_iconst C dX9_isPure_116 kc_0 ?_
            refine g_mask [true, true, true, false, true, false] rfl ?_
            exact k_X9_isPure_117 C v1 v2 s0 (nI 0) K31 hK31 σ h
          · have h := h.2 c109
            refine g_mask [true, true, true, false, true, false] rfl ?_
            exact k_X9_isPure_112 C v1 v2 s0 K31 hK31 σ h
def wp_X9_isPure_75 (v1 : Int32) (v2 : Int32) (v3 : Int32) (K31 : Int32 → Int32 → Sg → Prop) (Q : Int32 → Sg → Prop) (σ : Sg) : Prop :=
  wp_X9_isPure_80 v1 v2 v3 (nI 1) K31 Q σ
set_option maxHeartbeats 4000000 in
set_option maxRecDepth 100000 in
theorem k_X9_isPure_75 {Q : Int32 → Sg → Prop} (C : Cx p s m args meth c D cy ad b0 yX9_isPure cX9_isPure 6 (some .boolean)) (v1 : Int32) (v2 : Int32) (v3 : Int32) (K31 : Int32 → Int32 → Sg → Prop) (hK31 : ∀ (z1 : Int32) (z2 : Int32) (σ : Sg), K31 z1 z2 σ → gI p l e rm_X9_isPure s m args below meth c D cy ad b0 Q 6 31 σ [some (.ref (ad 10)), some (.int z1), some (.int z2), none, none, none] []) (σ : Sg) (h : wp_X9_isPure_75 v1 v2 v3 K31 Q σ) : gI p l e rm_X9_isPure s m args below meth c D cy ad b0 Q 6 75 σ [some (.ref (ad 10)), some (.int v1), some (.int v2), some (.int v3), none, none] [] := by
  refine g_iconst C dX9_isPure_75 kc_1 ?_
  refine g_goto C 80 dX9_isPure_76 (by decide) ?_
  exact k_X9_isPure_80 C v1 v2 v3 (nI 1) K31 hK31 σ h
def wb_X9_isPure_31 (v1 : Int32) (v2 : Int32) (K31 : Int32 → Int32 → Sg → Prop) (K208 : Int32 → Sg → Prop) (Q : Int32 → Sg → Prop) (σ : Sg) : Prop :=
  ((v2 < (nI 0) → K208 v1 σ) ∧ (¬ v2 < (nI 0) → vp_in v2 (aN 48) ∧ (∀ x41 : Int32, x41 = (gA σ 48 (Int32.toNatClampNeg v2)) → (vp_in v2 (aN 55) ∧ (((¬ (gA σ 55 (Int32.toNatClampNeg v2)) = (nI 0) → wp_X9_isPure_75 v1 v2 x41 K31 Q σ) ∧ ((gA σ 55 (Int32.toNatClampNeg v2)) = (nI 0) → ((x41 = (nI 89) → wp_X9_isPure_75 v1 v2 x41 K31 Q σ) ∧ (¬ x41 = (nI 89) → ((x41 = (nI 72) → wp_X9_isPure_75 v1 v2 x41 K31 Q σ) ∧ (¬ x41 = (nI 72) → ((x41 = (nI 79) → wp_X9_isPure_75 v1 v2 x41 K31 Q σ) ∧ (¬ x41 = (nI 79) → ((¬ x41 = (nI 83) → wp_X9_isPure_80 v1 v2 x41 (nI 0) K31 Q σ) ∧ (x41 = (nI 83) → wp_X9_isPure_75 v1 v2 x41 K31 Q σ)))))))))))))))
set_option maxHeartbeats 4000000 in
set_option maxRecDepth 100000 in
theorem kb_X9_isPure_31 {Q : Int32 → Sg → Prop} (C : Cx p s m args meth c D cy ad b0 yX9_isPure cX9_isPure 6 (some .boolean)) (v1 : Int32) (v2 : Int32) (K31 : Int32 → Int32 → Sg → Prop) (K208 : Int32 → Sg → Prop) (hK31 : ∀ (z1 : Int32) (z2 : Int32) (σ : Sg), K31 z1 z2 σ → gI p l e rm_X9_isPure s m args below meth c D cy ad b0 Q 6 31 σ [some (.ref (ad 10)), some (.int z1), some (.int z2), none, none, none] []) (hK208 : ∀ (z1 : Int32) (σ : Sg), K208 z1 σ → gI p l e rm_X9_isPure s m args below meth c D cy ad b0 Q 6 208 σ [some (.ref (ad 10)), some (.int z1), none, none, none, none] []) (σ : Sg) (h : wb_X9_isPure_31 v1 v2 K31 K208 Q σ) : gI p l e rm_X9_isPure s m args below meth c D cy ad b0 Q 6 31 σ [some (.ref (ad 10)), some (.int v1), some (.int v2), none, none, none] [] := by
  refine g_iload_n C dX9_isPure_31 rfl ?_
  refine g_if_lt C 208 dX9_isPure_32 (by decide) (fun c32 => ?_) (fun c32 => ?_)
  · have h := h.1 c32
    refine g_mask [true, true, false, false, false, false] rfl ?_
    exact hK208 v1 σ h
  · have h := h.2 c32
    refine g_aload_n C dX9_isPure_35 rfl ?_
    refine fget_10_5_X9_13 C rfl dX9_isPure_36 ?_
    refine g_iload_n C dX9_isPure_39 rfl ?_
    refine g_iald C (by decide) h.1 dX9_isPure_40 ?_
    have h := h.2
    refine g_topi (fun x41 e_x41 => ?_)
    have h := h x41 e_x41
    refine g_istore_n C [some (.ref (ad 10)), some (.int v1), some (.int v2), some (.int x41), none, none] dX9_isPure_41 (by decide) rfl ?_
    refine g_aload_n C dX9_isPure_42 rfl ?_
    refine fget_10_14_X9_35 C rfl dX9_isPure_43 ?_
    refine g_iload_n C dX9_isPure_46 rfl ?_
    refine g_zald C (by decide) h.1 dX9_isPure_47 ?_
    have h := h.2
    refine g_if_ne C 75 dX9_isPure_48 (by decide) (fun c48 => ?_) (fun c48 => ?_)
    · have h := h.1 c48
      exact k_X9_isPure_75 C v1 v2 x41 K31 hK31 σ h
    · have h := h.2 c48
      refine g_iload_n C dX9_isPure_51 rfl ?_
      refine g_bipush C dX9_isPure_52 kb_89 ?_
      refine g_icmp_eq C 75 dX9_isPure_54 (by decide) (fun c54 => ?_) (fun c54 => ?_)
      · have h := h.1 c54
        exact k_X9_isPure_75 C v1 v2 x41 K31 hK31 σ h
      · have h := h.2 c54
        refine g_iload_n C dX9_isPure_57 rfl ?_
        refine g_bipush C dX9_isPure_58 kb_72 ?_
        refine g_icmp_eq C 75 dX9_isPure_60 (by decide) (fun c60 => ?_) (fun c60 => ?_)
        · have h := h.1 c60
          exact k_X9_isPure_75 C v1 v2 x41 K31 hK31 σ h
        · have h := h.2 c60
          refine g_iload_n C dX9_isPure_63 rfl ?_
          refine g_bipush C dX9_isPure_64 kb_79 ?_
          refine g_icmp_eq C 75 dX9_isPure_66 (by decide) (fun c66 => ?_) (fun c66 => ?_)
          · have h := h.1 c66
            exact k_X9_isPure_75 C v1 v2 x41 K31 hK31 σ h
          · have h := h.2 c66
            refine g_iload_n C dX9_isPure_69 rfl ?_
            refine g_bipush C dX9_isPure_70 kb_83 ?_
            refine g_icmp_ne C 79 dX9_isPure_72 (by decide) (fun c72 => ?_) (fun c72 => ?_)
            · have h := h.1 c72
              refine g_iconst C dX9_isPure_79 kc_0 ?_
              exact k_X9_isPure_80 C v1 v2 x41 (nI 0) K31 hK31 σ h
            · have h := h.2 c72
              exact k_X9_isPure_75 C v1 v2 x41 K31 hK31 σ h
def wl_X9_isPure_31 (K208 : Int32 → Sg → Prop) (Q : Int32 → Sg → Prop) : Nat → Int32 → Int32 → Sg → Prop
  | 0, _, _, _ => False
  | n + 1, v1, v2, σ => wb_X9_isPure_31 v1 v2 (wl_X9_isPure_31 K208 Q n) K208 Q σ
set_option maxHeartbeats 4000000 in
set_option maxRecDepth 100000 in
theorem kl_X9_isPure_31 {Q : Int32 → Sg → Prop} (C : Cx p s m args meth c D cy ad b0 yX9_isPure cX9_isPure 6 (some .boolean)) (K208 : Int32 → Sg → Prop) (hK208 : ∀ (z1 : Int32) (σ : Sg), K208 z1 σ → gI p l e rm_X9_isPure s m args below meth c D cy ad b0 Q 6 208 σ [some (.ref (ad 10)), some (.int z1), none, none, none, none] []) : ∀ (n : Nat) (v1 : Int32) (v2 : Int32) (σ : Sg), wl_X9_isPure_31 K208 Q n v1 v2 σ → gI p l e rm_X9_isPure s m args below meth c D cy ad b0 Q 6 31 σ [some (.ref (ad 10)), some (.int v1), some (.int v2), none, none, none] [] := by
  intro n
  induction n with
  | zero => intro v1 v2 σ h; exact False.elim h
  | succ n ih =>
    intro v1 v2 σ h
    exact kb_X9_isPure_31 C v1 v2 (wl_X9_isPure_31 K208 Q n) K208 (fun z1 z2 σ h => ih z1 z2 σ h) hK208 σ h
def wp_X9_isPure_21 (Q : Int32 → Sg → Prop) (σ : Sg) : Prop :=
  ∀ x30 : Int32, x30 = ((gF σ 10 4) - (nI 1)) → (∃ n, wl_X9_isPure_31 (fun z1 σ9 => wp_X9_isPure_208 z1 Q σ9) Q n (nI 99) x30 σ)
set_option maxHeartbeats 4000000 in
set_option maxRecDepth 100000 in
theorem k_X9_isPure_21 {Q : Int32 → Sg → Prop} (C : Cx p s m args meth c D cy ad b0 yX9_isPure cX9_isPure 6 (some .boolean)) (σ : Sg) (h : wp_X9_isPure_21 Q σ) : gI p l e rm_X9_isPure s m args below meth c D cy ad b0 Q 6 21 σ [some (.ref (ad 10)), none, none, none, none, none] [] := by
  refine g_bipush C dX9_isPure_21 kb_99 ?_
  refine g_istore_n C [some (.ref (ad 10)), some (.int (nI 99)), none, none, none, none] dX9_isPure_23 (by decide) rfl ?_
  refine g_aload_n C dX9_isPure_24 rfl ?_
  refine fget_10_4_X9_143 C rfl dX9_isPure_25 ?_
  refine g_iconst C dX9_isPure_28 kc_1 ?_
  refine g_isub C dX9_isPure_29 ?_
  refine g_topi (fun x30 e_x30 => ?_)
  have h := h x30 e_x30
  refine g_istore_n C [some (.ref (ad 10)), some (.int (nI 99)), some (.int x30), none, none, none] dX9_isPure_30 (by decide) rfl ?_
  obtain ⟨n, h⟩ := h
  exact kl_X9_isPure_31 C _ (fun z1 σ9 h => by exact k_X9_isPure_208 C z1 σ9 h) n (nI 99) x30 σ h
def wb_X9_isPure_2 (v1 : Int32) (K2 : Int32 → Sg → Prop) (K21 : Sg → Prop) (Q : Int32 → Sg → Prop) (σ : Sg) : Prop :=
  (((nI 9) ≤ v1 → K21 σ) ∧ (¬ (nI 9) ≤ v1 → vp_in v1 (aN 55) ∧ (∀ σ1 : Sg, σ1 = stA σ 55 (Int32.toNatClampNeg v1) (vp_nar .boolean (nI 0)) → (∀ x15 : Int32, x15 = v1 + (nI 1) → (K2 x15 σ1)))))
set_option maxHeartbeats 4000000 in
set_option maxRecDepth 100000 in
theorem kb_X9_isPure_2 {Q : Int32 → Sg → Prop} (C : Cx p s m args meth c D cy ad b0 yX9_isPure cX9_isPure 6 (some .boolean)) (v1 : Int32) (K2 : Int32 → Sg → Prop) (K21 : Sg → Prop) (hK2 : ∀ (z1 : Int32) (σ : Sg), K2 z1 σ → gI p l e rm_X9_isPure s m args below meth c D cy ad b0 Q 6 2 σ [some (.ref (ad 10)), some (.int z1), none, none, none, none] []) (hK21 : ∀  (σ : Sg), K21 σ → gI p l e rm_X9_isPure s m args below meth c D cy ad b0 Q 6 21 σ [some (.ref (ad 10)), none, none, none, none, none] []) (σ : Sg) (h : wb_X9_isPure_2 v1 K2 K21 Q σ) : gI p l e rm_X9_isPure s m args below meth c D cy ad b0 Q 6 2 σ [some (.ref (ad 10)), some (.int v1), none, none, none, none] [] := by
  refine g_iload_n C dX9_isPure_2 rfl ?_
  refine g_bipush C dX9_isPure_3 kb_9 ?_
  refine g_icmp_ge C 21 dX9_isPure_5 (by decide) (fun c5 => ?_) (fun c5 => ?_)
  · have h := h.1 c5
    refine g_mask [true, false, false, false, false, false] rfl ?_
    exact hK21 σ h
  · have h := h.2 c5
    refine g_aload_n C dX9_isPure_8 rfl ?_
    refine fget_10_14_X9_35 C rfl dX9_isPure_9 ?_
    refine g_iload_n C dX9_isPure_12 rfl ?_
    refine g_iconst C dX9_isPure_13 kc_0 ?_
    refine g_zast C (by decide) h.1 dX9_isPure_14 (fun σ1 e_σ1 => ?_)
    have h := h.2 σ1 e_σ1
    obtain ⟨x15, e_x15⟩ : ∃ v : Int32, v = v1 + (nI 1) := ⟨_, rfl⟩
    have h := h x15 e_x15
    refine g_iinc C [some (.ref (ad 10)), some (.int x15), none, none, none, none] dX9_isPure_15 rfl e_x15.symm (by decide) rfl ?_
    refine g_goto C 2 dX9_isPure_18 (by decide) ?_
    exact hK2 x15 σ1 h
def wl_X9_isPure_2 (K21 : Sg → Prop) (Q : Int32 → Sg → Prop) : Nat → Int32 → Sg → Prop
  | 0, _, _ => False
  | n + 1, v1, σ => wb_X9_isPure_2 v1 (wl_X9_isPure_2 K21 Q n) K21 Q σ
set_option maxHeartbeats 4000000 in
set_option maxRecDepth 100000 in
theorem kl_X9_isPure_2 {Q : Int32 → Sg → Prop} (C : Cx p s m args meth c D cy ad b0 yX9_isPure cX9_isPure 6 (some .boolean)) (K21 : Sg → Prop) (hK21 : ∀  (σ : Sg), K21 σ → gI p l e rm_X9_isPure s m args below meth c D cy ad b0 Q 6 21 σ [some (.ref (ad 10)), none, none, none, none, none] []) : ∀ (n : Nat) (v1 : Int32) (σ : Sg), wl_X9_isPure_2 K21 Q n v1 σ → gI p l e rm_X9_isPure s m args below meth c D cy ad b0 Q 6 2 σ [some (.ref (ad 10)), some (.int v1), none, none, none, none] [] := by
  intro n
  induction n with
  | zero => intro v1 σ h; exact False.elim h
  | succ n ih =>
    intro v1 σ h
    exact kb_X9_isPure_2 C v1 (wl_X9_isPure_2 K21 Q n) K21 (fun z1 σ h => ih z1 σ h) hK21 σ h
def wp_X9_isPure (σ : Sg) (Q : Int32 → Sg → Prop) : Prop :=
  ∃ n, wl_X9_isPure_2 (fun σ9 => wp_X9_isPure_21 Q σ9) Q n (nI 0) σ
set_option maxHeartbeats 4000000 in
set_option maxRecDepth 100000 in
theorem c_X9_isPure (l : Launch) (D : va_G) (cy : Nat → ClassId) (ad : Nat → Nat) (b0 : Nat) (hA : AdOk ad b0) : Cti l D cy ad b0 yX9_isPure cX9_isPure 6 (some .boolean) rm_X9_isPure [.ref (ad 10)] (fun σ Q => wp_X9_isPure σ Q) := by
  intro σ Q h
  refine g_enter hA rfl (Nat.le_of_ble_eq_true rfl) [some (.ref (ad 10)), none, none, none, none, none] rfl ?_
  intro p e s m args below meth c C
  refine g_iconst C dX9_isPure_0 kc_0 ?_
  refine g_istore_n C [some (.ref (ad 10)), some (.int (nI 0)), none, none, none, none] dX9_isPure_1 (by decide) rfl ?_
  obtain ⟨n, h⟩ := h
  exact kl_X9_isPure_2 C _ (fun σ9 h => by exact k_X9_isPure_21 C σ9 h) n (nI 0) σ h
def rm_X9_parse : Room := { frames := 3, cells := 0, slots := 0, locals := 68 }
def wp_X9_parse_350 (Q : Int32 → Sg → Prop) (σ : Sg) : Prop :=
  wp_X9_fail (gF σ 10 1) σ (fun r1 σ2 => (bl r1 ∧ Q r1 σ2))
set_option maxHeartbeats 4000000 in
set_option maxRecDepth 100000 in
theorem k_X9_parse_350 {Q : Int32 → Sg → Prop} (C : Cx p s m args meth c D cy ad b0 yX9_parse cX9_parse 9 (some .boolean)) (σ : Sg) (h : wp_X9_parse_350 Q σ) : gI p l e rm_X9_parse s m args below meth c D cy ad b0 Q 9 350 σ [some (.ref (ad 10)), none, none, none, none, none, none, none, none] [] := by
  refine g_aload_n C dX9_parse_350 rfl ?_
  refine g_aload_n C dX9_parse_351 rfl ?_
  refine fget_10_1_X9_136 C rfl dX9_parse_352 ?_
  refine g_callVi C 10 [.int (gF σ 10 1)] (c_X9_fail l D cy ad b0 C.A (gF σ 10 1)) cal_X9_fail mw_550 (by decide) rfl rfl ⟨Nat.le_of_ble_eq_true rfl, Nat.le_of_ble_eq_true rfl⟩ ⟨rfl, rfl⟩ ⟨Nat.zero_le _, Nat.zero_le _⟩ (Nat.le_of_ble_eq_true rfl) rfl dX9_parse_355 h (fun r1 σ2 h => ?_)
  exact g_zret C (narrow_bl h.1) dX9_parse_358 h.2
def wp_X9_parse_342 (v2 : Int32) (v3 : Int32) (Q : Int32 → Sg → Prop) (σ : Sg) : Prop :=
  ((¬ v3 = (nI 0) → wp_X9_parse_350 Q σ) ∧ (v3 = (nI 0) → ((v2 ≤ (nI 0) → wp_X9_reduceTo (nI 0) σ (fun σ1 => wp_X9_isPure σ1 (fun r2 σ3 => (bl r2 ∧ Q r2 σ3)))) ∧ (¬ v2 ≤ (nI 0) → wp_X9_parse_350 Q σ))))
set_option maxHeartbeats 4000000 in
set_option maxRecDepth 100000 in
theorem k_X9_parse_342 {Q : Int32 → Sg → Prop} (C : Cx p s m args meth c D cy ad b0 yX9_parse cX9_parse 9 (some .boolean)) (v2 : Int32) (v3 : Int32) (σ : Sg) (h : wp_X9_parse_342 v2 v3 Q σ) : gI p l e rm_X9_parse s m args below meth c D cy ad b0 Q 9 342 σ [some (.ref (ad 10)), none, some (.int v2), some (.int v3), none, none, none, none, none] [] := by
  refine g_iload_n C dX9_parse_342 rfl ?_
  refine g_if_ne C 350 dX9_parse_343 (by decide) (fun c343 => ?_) (fun c343 => ?_)
  · have h := h.1 c343
    refine g_mask [true, false, false, false, false, false, false, false, false] rfl ?_
    exact k_X9_parse_350 C σ h
  · have h := h.2 c343
    refine g_iload_n C dX9_parse_346 rfl ?_
    refine g_if_le C 359 dX9_parse_347 (by decide) (fun c347 => ?_) (fun c347 => ?_)
    · have h := h.1 c347
      refine g_aload_n C dX9_parse_359 rfl ?_
      refine g_iconst C dX9_parse_360 kc_0 ?_
      refine g_callVv C 10 [.int (nI 0)] (c_X9_reduceTo l D cy ad b0 C.A (nI 0)) cal_X9_reduceTo mw_558 (by decide) rfl rfl ⟨Nat.le_of_ble_eq_true rfl, Nat.le_of_ble_eq_true rfl⟩ ⟨rfl, rfl⟩ ⟨Nat.zero_le _, Nat.zero_le _⟩ (Nat.le_of_ble_eq_true rfl) rfl dX9_parse_361 h (fun σ1 h => ?_)
      refine g_aload_n C dX9_parse_364 rfl ?_
      refine g_callVi C 10 [] (c_X9_isPure l D cy ad b0 C.A) cal_X9_isPure mw_570 (by decide) rfl rfl ⟨Nat.le_of_ble_eq_true rfl, Nat.le_of_ble_eq_true rfl⟩ ⟨rfl, rfl⟩ ⟨Nat.zero_le _, Nat.zero_le _⟩ (Nat.le_of_ble_eq_true rfl) rfl dX9_parse_365 h (fun r2 σ3 h => ?_)
      exact g_zret C (narrow_bl h.1) dX9_parse_368 h.2
    · have h := h.2 c347
      refine g_mask [true, false, false, false, false, false, false, false, false] rfl ?_
      exact k_X9_parse_350 C σ h
def wp_X9_parse_205 (v4 : Int32) (Q : Int32 → Sg → Prop) (σ : Sg) : Prop :=
  wp_X9_fail v4 σ (fun r1 σ2 => (bl r1 ∧ Q r1 σ2))
set_option maxHeartbeats 4000000 in
set_option maxRecDepth 100000 in
theorem k_X9_parse_205 {Q : Int32 → Sg → Prop} (C : Cx p s m args meth c D cy ad b0 yX9_parse cX9_parse 9 (some .boolean)) (v4 : Int32) (σ : Sg) (h : wp_X9_parse_205 v4 Q σ) : gI p l e rm_X9_parse s m args below meth c D cy ad b0 Q 9 205 σ [some (.ref (ad 10)), none, none, none, some (.int v4), none, none, none, none] [] := by
  refine g_aload_n C dX9_parse_205 rfl ?_
  refine g_iload C dX9_parse_206 rfl ?_
  refine g_callVi C 10 [.int v4] (c_X9_fail l D cy ad b0 C.A v4) cal_X9_fail mw_550 (by decide) rfl rfl ⟨Nat.le_of_ble_eq_true rfl, Nat.le_of_ble_eq_true rfl⟩ ⟨rfl, rfl⟩ ⟨Nat.zero_le _, Nat.zero_le _⟩ (Nat.le_of_ble_eq_true rfl) rfl dX9_parse_208 h (fun r1 σ2 h => ?_)
  exact g_zret C (narrow_bl h.1) dX9_parse_211 h.2
def wp_X9_parse_336 (v1 : Int32) (v2 : Int32) (v3 : Int32) (v4 : Int32) (K24 : Int32 → Int32 → Int32 → Int32 → Sg → Prop) (Q : Int32 → Sg → Prop) (σ : Sg) : Prop :=
  ∀ x336 : Int32, x336 = v4 + (nI 1) → (K24 v1 v2 v3 x336 σ)
set_option maxHeartbeats 4000000 in
set_option maxRecDepth 100000 in
theorem k_X9_parse_336 {Q : Int32 → Sg → Prop} (C : Cx p s m args meth c D cy ad b0 yX9_parse cX9_parse 9 (some .boolean)) (v1 : Int32) (v2 : Int32) (v3 : Int32) (v4 : Int32) (K24 : Int32 → Int32 → Int32 → Int32 → Sg → Prop) (hK24 : ∀ (z1 : Int32) (z2 : Int32) (z3 : Int32) (z4 : Int32) (σ : Sg), K24 z1 z2 z3 z4 σ → gI p l e rm_X9_parse s m args below meth c D cy ad b0 Q 9 24 σ [some (.ref (ad 10)), some (.int z1), some (.int z2), some (.int z3), some (.int z4), none, none, none, none] []) (σ : Sg) (h : wp_X9_parse_336 v1 v2 v3 v4 K24 Q σ) : gI p l e rm_X9_parse s m args below meth c D cy ad b0 Q 9 336 σ [some (.ref (ad 10)), some (.int v1), some (.int v2), some (.int v3), some (.int v4), none, none, none, none] [] := by
  obtain ⟨x336, e_x336⟩ : ∃ v : Int32, v = v4 + (nI 1) := ⟨_, rfl⟩
  have h := h x336 e_x336
  refine g_iinc C [some (.ref (ad 10)), some (.int v1), some (.int v2), some (.int v3), some (.int x336), none, none, none, none] dX9_parse_336 rfl e_x336.symm (by decide) rfl ?_
  refine g_goto C 24 dX9_parse_339 (by decide) ?_
  exact hK24 v1 v2 v3 x336 σ h
def wb_X9_parse_301 (v1 : Int32) (v2 : Int32) (v3 : Int32) (v4 : Int32) (K301 : Sg → Prop) (K336 : Sg → Prop) (Q : Int32 → Sg → Prop) (σ : Sg) : Prop :=
  ((¬ v3 = (nI 0) → K336 σ) ∧ (v3 = (nI 0) → (((gF σ 10 11) ≤ (nI 0) → K336 σ) ∧ (¬ (gF σ 10 11) ≤ (nI 0) → vp_in ((gF σ 10 11) - (nI 1)) (aN 53) ∧ (wp_X9_isPrefix (gA σ 53 (Int32.toNatClampNeg ((gF σ 10 11) - (nI 1)))) σ (fun r1 σ2 => ((r1 = (nI 0) → K336 σ2) ∧ (¬ r1 = (nI 0) → wp_X9_reduce σ2 (fun σ3 => K301 σ3)))))))))
set_option maxHeartbeats 4000000 in
set_option maxRecDepth 100000 in
theorem kb_X9_parse_301 {Q : Int32 → Sg → Prop} (C : Cx p s m args meth c D cy ad b0 yX9_parse cX9_parse 9 (some .boolean)) (v1 : Int32) (v2 : Int32) (v3 : Int32) (v4 : Int32) (K301 : Sg → Prop) (K336 : Sg → Prop) (hK301 : ∀  (σ : Sg), K301 σ → gI p l e rm_X9_parse s m args below meth c D cy ad b0 Q 9 301 σ [some (.ref (ad 10)), some (.int v1), some (.int v2), some (.int v3), some (.int v4), none, none, none, none] []) (hK336 : ∀  (σ : Sg), K336 σ → gI p l e rm_X9_parse s m args below meth c D cy ad b0 Q 9 336 σ [some (.ref (ad 10)), some (.int v1), some (.int v2), some (.int v3), some (.int v4), none, none, none, none] []) (σ : Sg) (h : wb_X9_parse_301 v1 v2 v3 v4 K301 K336 Q σ) : gI p l e rm_X9_parse s m args below meth c D cy ad b0 Q 9 301 σ [some (.ref (ad 10)), some (.int v1), some (.int v2), some (.int v3), some (.int v4), none, none, none, none] [] := by
  refine g_iload_n C dX9_parse_301 rfl ?_
  refine g_if_ne C 336 dX9_parse_302 (by decide) (fun c302 => ?_) (fun c302 => ?_)
  · have h := h.1 c302
    exact hK336 σ h
  · have h := h.2 c302
    refine g_aload_n C dX9_parse_305 rfl ?_
    refine fget_10_11_X9_149 C rfl dX9_parse_306 ?_
    refine g_if_le C 336 dX9_parse_309 (by decide) (fun c309 => ?_) (fun c309 => ?_)
    · have h := h.1 c309
      exact hK336 σ h
    · have h := h.2 c309
      refine g_aload_n C dX9_parse_312 rfl ?_
      refine fget_10_12_X9_29 C rfl dX9_parse_313 ?_
      refine g_aload_n C dX9_parse_316 rfl ?_
      refine fget_10_11_X9_149 C rfl dX9_parse_317 ?_
      refine g_iconst C dX9_parse_320 kc_1 ?_
      refine g_isub C dX9_parse_321 ?_
      refine g_iald C (by decide) h.1 dX9_parse_322 ?_
      have h := h.2
      refine g_callSi C [.int (gA σ 53 (Int32.toNatClampNeg ((gF σ 10 11) - (nI 1))))] (c_X9_isPrefix l D cy ad b0 C.A (gA σ 53 (Int32.toNatClampNeg ((gF σ 10 11) - (nI 1))))) cal_X9_isPrefix mw_544 rfl ⟨Nat.le_of_ble_eq_true rfl, Nat.le_of_ble_eq_true rfl⟩ ⟨rfl, rfl⟩ ⟨Nat.zero_le _, Nat.zero_le _⟩ (Nat.le_of_ble_eq_true rfl) rfl dX9_parse_323 h (fun r1 σ2 h => ?_)
      refine g_if_eq C 336 dX9_parse_326 (by decide) (fun c326 => ?_) (fun c326 => ?_)
      · have h := h.1 c326
        exact hK336 σ2 h
      · have h := h.2 c326
        refine g_aload_n C dX9_parse_329 rfl ?_
        refine g_callVv C 10 [] (c_X9_reduce l D cy ad b0 C.A) cal_X9_reduce mw_562 (by decide) rfl rfl ⟨Nat.le_of_ble_eq_true rfl, Nat.le_of_ble_eq_true rfl⟩ ⟨rfl, rfl⟩ ⟨Nat.zero_le _, Nat.zero_le _⟩ (Nat.le_of_ble_eq_true rfl) rfl dX9_parse_330 h (fun σ3 h => ?_)
        refine g_goto C 301 dX9_parse_333 (by decide) ?_
        exact hK301 σ3 h
def wl_X9_parse_301 (v1 : Int32) (v2 : Int32) (v3 : Int32) (v4 : Int32) (K336 : Sg → Prop) (Q : Int32 → Sg → Prop) : Nat → Sg → Prop
  | 0, _ => False
  | n + 1, σ => wb_X9_parse_301 v1 v2 v3 v4 (wl_X9_parse_301 v1 v2 v3 v4 K336 Q n) K336 Q σ
set_option maxHeartbeats 4000000 in
set_option maxRecDepth 100000 in
theorem kl_X9_parse_301 {Q : Int32 → Sg → Prop} (C : Cx p s m args meth c D cy ad b0 yX9_parse cX9_parse 9 (some .boolean)) (v1 : Int32) (v2 : Int32) (v3 : Int32) (v4 : Int32) (K336 : Sg → Prop) (hK336 : ∀  (σ : Sg), K336 σ → gI p l e rm_X9_parse s m args below meth c D cy ad b0 Q 9 336 σ [some (.ref (ad 10)), some (.int v1), some (.int v2), some (.int v3), some (.int v4), none, none, none, none] []) : ∀ (n : Nat) (σ : Sg), wl_X9_parse_301 v1 v2 v3 v4 K336 Q n σ → gI p l e rm_X9_parse s m args below meth c D cy ad b0 Q 9 301 σ [some (.ref (ad 10)), some (.int v1), some (.int v2), some (.int v3), some (.int v4), none, none, none, none] [] := by
  intro n
  induction n with
  | zero => intro σ h; exact False.elim h
  | succ n ih =>
    intro σ h
    exact kb_X9_parse_301 C v1 v2 v3 v4 (wl_X9_parse_301 v1 v2 v3 v4 K336 Q n) K336 (fun σ h => ih σ h) hK336 σ h
def wp_X9_parse_297 (v1 : Int32) (v4 : Int32) (s0 : Int32) (s1 : Int32) (K24 : Int32 → Int32 → Int32 → Int32 → Sg → Prop) (Q : Int32 → Sg → Prop) (σ : Sg) : Prop :=
  ∀ x298 : Int32, x298 = (s1 + s0) → (∃ n, wl_X9_parse_301 v1 x298 (nI 1) v4 (fun σ9 => wp_X9_parse_336 v1 x298 (nI 1) v4 K24 Q σ9) Q n σ)
set_option maxHeartbeats 4000000 in
set_option maxRecDepth 100000 in
theorem k_X9_parse_297 {Q : Int32 → Sg → Prop} (C : Cx p s m args meth c D cy ad b0 yX9_parse cX9_parse 9 (some .boolean)) (v1 : Int32) (v4 : Int32) (s0 : Int32) (s1 : Int32) (K24 : Int32 → Int32 → Int32 → Int32 → Sg → Prop) (hK24 : ∀ (z1 : Int32) (z2 : Int32) (z3 : Int32) (z4 : Int32) (σ : Sg), K24 z1 z2 z3 z4 σ → gI p l e rm_X9_parse s m args below meth c D cy ad b0 Q 9 24 σ [some (.ref (ad 10)), some (.int z1), some (.int z2), some (.int z3), some (.int z4), none, none, none, none] []) (σ : Sg) (h : wp_X9_parse_297 v1 v4 s0 s1 K24 Q σ) : gI p l e rm_X9_parse s m args below meth c D cy ad b0 Q 9 297 σ [some (.ref (ad 10)), some (.int v1), none, none, some (.int v4), none, none, none, none] [.int s0, .int s1] := by
  refine g_iadd C dX9_parse_297 ?_
  refine g_topi (fun x298 e_x298 => ?_)
  have h := h x298 e_x298
  refine g_istore_n C [some (.ref (ad 10)), some (.int v1), some (.int x298), none, some (.int v4), none, none, none, none] dX9_parse_298 (by decide) rfl ?_
  refine g_iconst C dX9_parse_299 kc_1 ?_
  refine g_istore_n C [some (.ref (ad 10)), some (.int v1), some (.int x298), some (.int (nI 1)), some (.int v4), none, none, none, none] dX9_parse_300 (by decide) rfl ?_
  obtain ⟨n, h⟩ := h
  exact kl_X9_parse_301 C v1 x298 (nI 1) v4 _ (fun σ9 h => by exact k_X9_parse_336 C v1 x298 (nI 1) v4 K24 hK24 σ9 h) n σ h
def wp_X9_parse_276 (v1 : Int32) (v2 : Int32) (v4 : Int32) (v5 : Int32) (K24 : Int32 → Int32 → Int32 → Int32 → Sg → Prop) (Q : Int32 → Sg → Prop) (σ : Sg) : Prop :=
  wp_X9_push v5 v4 σ (fun σ1 => ((¬ v5 = (nI 40) → wp_X9_parse_297 v1 v4 (nI 0) v2 K24 Q σ1) ∧ (v5 = (nI 40) → wp_X9_parse_297 v1 v4 (nI 1) v2 K24 Q σ1)))
set_option maxHeartbeats 4000000 in
set_option maxRecDepth 100000 in
theorem k_X9_parse_276 {Q : Int32 → Sg → Prop} (C : Cx p s m args meth c D cy ad b0 yX9_parse cX9_parse 9 (some .boolean)) (v1 : Int32) (v2 : Int32) (v4 : Int32) (v5 : Int32) (K24 : Int32 → Int32 → Int32 → Int32 → Sg → Prop) (hK24 : ∀ (z1 : Int32) (z2 : Int32) (z3 : Int32) (z4 : Int32) (σ : Sg), K24 z1 z2 z3 z4 σ → gI p l e rm_X9_parse s m args below meth c D cy ad b0 Q 9 24 σ [some (.ref (ad 10)), some (.int z1), some (.int z2), some (.int z3), some (.int z4), none, none, none, none] []) (σ : Sg) (h : wp_X9_parse_276 v1 v2 v4 v5 K24 Q σ) : gI p l e rm_X9_parse s m args below meth c D cy ad b0 Q 9 276 σ [some (.ref (ad 10)), some (.int v1), some (.int v2), none, some (.int v4), some (.int v5), none, none, none] [] := by
  refine g_aload_n C dX9_parse_276 rfl ?_
  refine g_iload C dX9_parse_277 rfl ?_
  refine g_iload C dX9_parse_279 rfl ?_
  refine g_callVv C 10 [.int v5, .int v4] (c_X9_push l D cy ad b0 C.A v5 v4) cal_X9_push mw_566 (by decide) rfl rfl ⟨Nat.le_of_ble_eq_true rfl, Nat.le_of_ble_eq_true rfl⟩ ⟨rfl, rfl⟩ ⟨Nat.zero_le _, Nat.zero_le _⟩ (Nat.le_of_ble_eq_true rfl) rfl dX9_parse_281 h (fun σ1 h => ?_)
  refine g_iload_n C dX9_parse_284 rfl ?_
  refine g_iload C dX9_parse_285 rfl ?_
  refine g_bipush C dX9_parse_287 kb_40 ?_
  refine g_icmp_ne C 296 dX9_parse_289 (by decide) (fun c289 => ?_) (fun c289 => ?_)
  · have h := h.1 c289
    refine g_iconst C dX9_parse_296 kc_0 ?_
    refine g_mask [true, true, false, false, true, false, false, false, false] rfl ?_
    exact k_X9_parse_297 C v1 v4 (nI 0) v2 K24 hK24 σ1 h
  · have h := h.2 c289
    refine g_iconst C dX9_parse_292 kc_1 ?_
    refine g_goto C 297 dX9_parse_293 (by decide) ?_
    refine g_mask [true, true, false, false, true, false, false, false, false] rfl ?_
    exact k_X9_parse_297 C v1 v4 (nI 1) v2 K24 hK24 σ1 h
def wp_X9_parse_192 (v2 : Int32) (v3 : Int32) (v4 : Int32) (v5 : Int32) (v6 : Int32) (v8 : Int32) (s0 : Int32) (s1 : Int32) (K24 : Int32 → Int32 → Int32 → Int32 → Sg → Prop) (K205 : Int32 → Sg → Prop) (Q : Int32 → Sg → Prop) (σ : Sg) : Prop :=
  ∀ x193 : Int32, x193 = (s1 + s0) → (((v8 = (nI 0) → K205 v4 σ) ∧ (¬ v8 = (nI 0) → ((x193 ≤ (nI 9) → ((v6 = (nI 0) → ((¬ v5 = (nI 41) → wp_X9_rank v5 σ (fun r1 σ2 => ((r1 ≤ (nI 0) → wp_X9_parse_276 x193 v2 v4 v5 K24 Q σ2) ∧ (¬ r1 ≤ (nI 0) → wp_X9_reduceTo v5 σ2 (fun σ3 => wp_X9_parse_276 x193 v2 v4 v5 K24 Q σ3))))) ∧ (v5 = (nI 41) → wp_X9_reduceTo (nI 0) σ (fun σ4 => ∀ σ5 : Sg, σ5 = stF σ4 10 11 ((gF σ4 10 11) - (nI 1)) → (∀ x256 : Int32, x256 = v2 + (-1 : Int32) → (∃ n, wl_X9_parse_301 x193 x256 v3 v4 (fun σ9 => wp_X9_parse_336 x193 x256 v3 v4 K24 Q σ9) Q n σ5)))))) ∧ (¬ v6 = (nI 0) → wp_X9_node v5 (-9 : Int32) (-9 : Int32) v4 σ (fun σ6 => ∃ n, wl_X9_parse_301 x193 v2 (nI 0) v4 (fun σ9 => wp_X9_parse_336 x193 v2 (nI 0) v4 K24 Q σ9) Q n σ6)))) ∧ (¬ x193 ≤ (nI 9) → K205 v4 σ)))))
set_option maxHeartbeats 4000000 in
set_option maxRecDepth 100000 in
theorem k_X9_parse_192 {Q : Int32 → Sg → Prop} (C : Cx p s m args meth c D cy ad b0 yX9_parse cX9_parse 9 (some .boolean)) (v2 : Int32) (v3 : Int32) (v4 : Int32) (v5 : Int32) (v6 : Int32) (v8 : Int32) (s0 : Int32) (s1 : Int32) (K24 : Int32 → Int32 → Int32 → Int32 → Sg → Prop) (K205 : Int32 → Sg → Prop) (hK24 : ∀ (z1 : Int32) (z2 : Int32) (z3 : Int32) (z4 : Int32) (σ : Sg), K24 z1 z2 z3 z4 σ → gI p l e rm_X9_parse s m args below meth c D cy ad b0 Q 9 24 σ [some (.ref (ad 10)), some (.int z1), some (.int z2), some (.int z3), some (.int z4), none, none, none, none] []) (hK205 : ∀ (z4 : Int32) (σ : Sg), K205 z4 σ → gI p l e rm_X9_parse s m args below meth c D cy ad b0 Q 9 205 σ [some (.ref (ad 10)), none, none, none, some (.int z4), none, none, none, none] []) (σ : Sg) (h : wp_X9_parse_192 v2 v3 v4 v5 v6 v8 s0 s1 K24 K205 Q σ) : gI p l e rm_X9_parse s m args below meth c D cy ad b0 Q 9 192 σ [some (.ref (ad 10)), none, some (.int v2), some (.int v3), some (.int v4), some (.int v5), some (.int v6), none, some (.int v8)] [.int s0, .int s1] := by
  refine g_iadd C dX9_parse_192 ?_
  refine g_topi (fun x193 e_x193 => ?_)
  have h := h x193 e_x193
  refine g_istore_n C [some (.ref (ad 10)), some (.int x193), some (.int v2), some (.int v3), some (.int v4), some (.int v5), some (.int v6), none, some (.int v8)] dX9_parse_193 (by decide) rfl ?_
  refine g_iload C dX9_parse_194 rfl ?_
  refine g_if_eq C 205 dX9_parse_196 (by decide) (fun c196 => ?_) (fun c196 => ?_)
  · have h := h.1 c196
    refine g_mask [true, false, false, false, true, false, false, false, false] rfl ?_
    exact hK205 v4 σ h
  · have h := h.2 c196
    refine g_iload_n C dX9_parse_199 rfl ?_
    refine g_bipush C dX9_parse_200 kb_9 ?_
    refine g_icmp_le C 212 dX9_parse_202 (by decide) (fun c202 => ?_) (fun c202 => ?_)
    · have h := h.1 c202
      refine g_iload C dX9_parse_212 rfl ?_
      refine g_if_eq C 234 dX9_parse_214 (by decide) (fun c214 => ?_) (fun c214 => ?_)
      · have h := h.1 c214
        refine g_iload C dX9_parse_234 rfl ?_
        refine g_bipush C dX9_parse_236 kb_41 ?_
        refine g_icmp_ne C 262 dX9_parse_238 (by decide) (fun c238 => ?_) (fun c238 => ?_)
        · have h := h.1 c238
          refine g_iload C dX9_parse_262 rfl ?_
          refine g_callSi C [.int v5] (c_X9_rank l D cy ad b0 C.A v5) cal_X9_rank mw_547 rfl ⟨Nat.le_of_ble_eq_true rfl, Nat.le_of_ble_eq_true rfl⟩ ⟨rfl, rfl⟩ ⟨Nat.zero_le _, Nat.zero_le _⟩ (Nat.le_of_ble_eq_true rfl) rfl dX9_parse_264 h (fun r1 σ2 h => ?_)
          refine g_if_le C 276 dX9_parse_267 (by decide) (fun c267 => ?_) (fun c267 => ?_)
          · have h := h.1 c267
            refine g_mask [true, true, true, false, true, true, false, false, false] rfl ?_
            exact k_X9_parse_276 C x193 v2 v4 v5 K24 hK24 σ2 h
          · have h := h.2 c267
            refine g_aload_n C dX9_parse_270 rfl ?_
            refine g_iload C dX9_parse_271 rfl ?_
            refine g_callVv C 10 [.int v5] (c_X9_reduceTo l D cy ad b0 C.A v5) cal_X9_reduceTo mw_558 (by decide) rfl rfl ⟨Nat.le_of_ble_eq_true rfl, Nat.le_of_ble_eq_true rfl⟩ ⟨rfl, rfl⟩ ⟨Nat.zero_le _, Nat.zero_le _⟩ (Nat.le_of_ble_eq_true rfl) rfl dX9_parse_273 h (fun σ3 h => ?_)
            refine g_mask [true, true, true, false, true, true, false, false, false] rfl ?_
            exact k_X9_parse_276 C x193 v2 v4 v5 K24 hK24 σ3 h
        · have h := h.2 c238
          refine g_aload_n C dX9_parse_241 rfl ?_
          refine g_iconst C dX9_parse_242 kc_0 ?_
          refine g_callVv C 10 [.int (nI 0)] (c_X9_reduceTo l D cy ad b0 C.A (nI 0)) cal_X9_reduceTo mw_558 (by decide) rfl rfl ⟨Nat.le_of_ble_eq_true rfl, Nat.le_of_ble_eq_true rfl⟩ ⟨rfl, rfl⟩ ⟨Nat.zero_le _, Nat.zero_le _⟩ (Nat.le_of_ble_eq_true rfl) rfl dX9_parse_243 h (fun σ4 h => ?_)
          refine g_aload_n C dX9_parse_246 rfl ?_
          refine g_dup C dX9_parse_247 rfl ?_
          refine fget_10_11_X9_149 C rfl dX9_parse_248 ?_
          refine g_iconst C dX9_parse_251 kc_1 ?_
          refine g_isub C dX9_parse_252 ?_
          refine fput_10_11_X9_149 C rfl dX9_parse_253 (fun σ5 e_σ5 => ?_)
          have h := h σ5 e_σ5
          obtain ⟨x256, e_x256⟩ : ∃ v : Int32, v = v2 + (-1 : Int32) := ⟨_, rfl⟩
          have h := h x256 e_x256
          refine g_iinc C [some (.ref (ad 10)), some (.int x193), some (.int x256), some (.int v3), some (.int v4), some (.int v5), some (.int v6), none, some (.int v8)] dX9_parse_256 rfl e_x256.symm (by decide) rfl ?_
          refine g_goto C 301 dX9_parse_259 (by decide) ?_
          refine g_mask [true, true, true, true, true, false, false, false, false] rfl ?_
          obtain ⟨n, h⟩ := h
          exact kl_X9_parse_301 C x193 x256 v3 v4 _ (fun σ9 h => by exact k_X9_parse_336 C x193 x256 v3 v4 K24 hK24 σ9 h) n σ5 h
      · have h := h.2 c214
        refine g_aload_n C dX9_parse_217 rfl ?_
        refine g_iload C dX9_parse_218 rfl ?_
        refine g_bipush C dX9_parse_220 kb_m9 ?_
        refine g_bipush C dX9_parse_222 kb_m9 ?_
        refine g_iload C dX9_parse_224 rfl ?_
        refine g_callVv C 10 [.int v5, .int (-9 : Int32), .int (-9 : Int32), .int v4] (c_X9_node l D cy ad b0 C.A v5 (-9 : Int32) (-9 : Int32) v4) cal_X9_node mw_554 (by decide) rfl rfl ⟨Nat.le_of_ble_eq_true rfl, Nat.le_of_ble_eq_true rfl⟩ ⟨rfl, rfl⟩ ⟨Nat.zero_le _, Nat.zero_le _⟩ (Nat.le_of_ble_eq_true rfl) rfl dX9_parse_226 h (fun σ6 h => ?_)
        refine g_iconst C dX9_parse_229 kc_0 ?_
        refine g_istore_n C [some (.ref (ad 10)), some (.int x193), some (.int v2), some (.int (nI 0)), some (.int v4), some (.int v5), some (.int v6), none, some (.int v8)] dX9_parse_230 (by decide) rfl ?_
        refine g_goto C 301 dX9_parse_231 (by decide) ?_
        refine g_mask [true, true, true, true, true, false, false, false, false] rfl ?_
        obtain ⟨n, h⟩ := h
        exact kl_X9_parse_301 C x193 v2 (nI 0) v4 _ (fun σ9 h => by exact k_X9_parse_336 C x193 v2 (nI 0) v4 K24 hK24 σ9 h) n σ6 h
    · have h := h.2 c202
      refine g_mask [true, false, false, false, true, false, false, false, false] rfl ?_
      exact hK205 v4 σ h
def wp_X9_parse_191 (v2 : Int32) (v3 : Int32) (v4 : Int32) (v5 : Int32) (v6 : Int32) (v8 : Int32) (s0 : Int32) (K24 : Int32 → Int32 → Int32 → Int32 → Sg → Prop) (K205 : Int32 → Sg → Prop) (Q : Int32 → Sg → Prop) (σ : Sg) : Prop :=
  wp_X9_parse_192 v2 v3 v4 v5 v6 v8 (nI 0) s0 K24 K205 Q σ
set_option maxHeartbeats 4000000 in
set_option maxRecDepth 100000 in
theorem k_X9_parse_191 {Q : Int32 → Sg → Prop} (C : Cx p s m args meth c D cy ad b0 yX9_parse cX9_parse 9 (some .boolean)) (v2 : Int32) (v3 : Int32) (v4 : Int32) (v5 : Int32) (v6 : Int32) (v8 : Int32) (s0 : Int32) (K24 : Int32 → Int32 → Int32 → Int32 → Sg → Prop) (K205 : Int32 → Sg → Prop) (hK24 : ∀ (z1 : Int32) (z2 : Int32) (z3 : Int32) (z4 : Int32) (σ : Sg), K24 z1 z2 z3 z4 σ → gI p l e rm_X9_parse s m args below meth c D cy ad b0 Q 9 24 σ [some (.ref (ad 10)), some (.int z1), some (.int z2), some (.int z3), some (.int z4), none, none, none, none] []) (hK205 : ∀ (z4 : Int32) (σ : Sg), K205 z4 σ → gI p l e rm_X9_parse s m args below meth c D cy ad b0 Q 9 205 σ [some (.ref (ad 10)), none, none, none, some (.int z4), none, none, none, none] []) (σ : Sg) (h : wp_X9_parse_191 v2 v3 v4 v5 v6 v8 s0 K24 K205 Q σ) : gI p l e rm_X9_parse s m args below meth c D cy ad b0 Q 9 191 σ [some (.ref (ad 10)), none, some (.int v2), some (.int v3), some (.int v4), some (.int v5), some (.int v6), none, some (.int v8)] [.int s0] := by
  refine g_iconst C dX9_parse_191 kc_0 ?_
  exact k_X9_parse_192 C v2 v3 v4 v5 v6 v8 (nI 0) s0 K24 K205 hK24 hK205 σ h
def wp_X9_parse_174 (v1 : Int32) (v2 : Int32) (v3 : Int32) (v4 : Int32) (v5 : Int32) (v6 : Int32) (v7 : Int32) (s0 : Int32) (K24 : Int32 → Int32 → Int32 → Int32 → Sg → Prop) (K205 : Int32 → Sg → Prop) (Q : Int32 → Sg → Prop) (σ : Sg) : Prop :=
  ((s0 = (nI 0) → wp_X9_parse_191 v2 v3 v4 v5 v6 s0 v1 K24 K205 Q σ) ∧ (¬ s0 = (nI 0) → ((v7 = (nI 0) → wp_X9_parse_191 v2 v3 v4 v5 v6 s0 v1 K24 K205 Q σ) ∧ (¬ v7 = (nI 0) → wp_X9_parse_192 v2 v3 v4 v5 v6 s0 (nI 1) v1 K24 K205 Q σ))))
set_option maxHeartbeats 4000000 in
set_option maxRecDepth 100000 in
theorem k_X9_parse_174 {Q : Int32 → Sg → Prop} (C : Cx p s m args meth c D cy ad b0 yX9_parse cX9_parse 9 (some .boolean)) (v1 : Int32) (v2 : Int32) (v3 : Int32) (v4 : Int32) (v5 : Int32) (v6 : Int32) (v7 : Int32) (s0 : Int32) (K24 : Int32 → Int32 → Int32 → Int32 → Sg → Prop) (K205 : Int32 → Sg → Prop) (hK24 : ∀ (z1 : Int32) (z2 : Int32) (z3 : Int32) (z4 : Int32) (σ : Sg), K24 z1 z2 z3 z4 σ → gI p l e rm_X9_parse s m args below meth c D cy ad b0 Q 9 24 σ [some (.ref (ad 10)), some (.int z1), some (.int z2), some (.int z3), some (.int z4), none, none, none, none] []) (hK205 : ∀ (z4 : Int32) (σ : Sg), K205 z4 σ → gI p l e rm_X9_parse s m args below meth c D cy ad b0 Q 9 205 σ [some (.ref (ad 10)), none, none, none, some (.int z4), none, none, none, none] []) (σ : Sg) (h : wp_X9_parse_174 v1 v2 v3 v4 v5 v6 v7 s0 K24 K205 Q σ) : gI p l e rm_X9_parse s m args below meth c D cy ad b0 Q 9 174 σ [some (.ref (ad 10)), some (.int v1), some (.int v2), some (.int v3), some (.int v4), some (.int v5), some (.int v6), some (.int v7), none] [.int s0] := by
  refine g_istore C [some (.ref (ad 10)), some (.int v1), some (.int v2), some (.int v3), some (.int v4), some (.int v5), some (.int v6), some (.int v7), some (.int s0)] dX9_parse_174 (by decide) rfl ?_
  refine g_iload_n C dX9_parse_176 rfl ?_
  refine g_iload C dX9_parse_177 rfl ?_
  refine g_if_eq C 191 dX9_parse_179 (by decide) (fun c179 => ?_) (fun c179 => ?_)
  · have h := h.1 c179
    refine g_mask [true, false, true, true, true, true, true, false, true] rfl ?_
    exact k_X9_parse_191 C v2 v3 v4 v5 v6 s0 v1 K24 K205 hK24 hK205 σ h
  · have h := h.2 c179
    refine g_iload C dX9_parse_182 rfl ?_
    refine g_if_eq C 191 dX9_parse_184 (by decide) (fun c184 => ?_) (fun c184 => ?_)
    · have h := h.1 c184
      refine g_mask [true, false, true, true, true, true, true, false, true] rfl ?_
      exact k_X9_parse_191 C v2 v3 v4 v5 v6 s0 v1 K24 K205 hK24 hK205 σ h
    · have h := h.2 c184
      refine g_iconst C dX9_parse_187 kc_1 ?_
      refine g_goto C 192 dX9_parse_188 (by decide) ?_
      refine g_mask [true, false, true, true, true, true, true, false, true] rfl ?_
      exact k_X9_parse_192 C v2 v3 v4 v5 v6 s0 (nI 1) v1 K24 K205 hK24 hK205 σ h
def wp_X9_parse_173 (v1 : Int32) (v2 : Int32) (v3 : Int32) (v4 : Int32) (v5 : Int32) (v6 : Int32) (v7 : Int32) (K24 : Int32 → Int32 → Int32 → Int32 → Sg → Prop) (K205 : Int32 → Sg → Prop) (Q : Int32 → Sg → Prop) (σ : Sg) : Prop :=
  wp_X9_parse_174 v1 v2 v3 v4 v5 v6 v7 (nI 0) K24 K205 Q σ
set_option maxHeartbeats 4000000 in
set_option maxRecDepth 100000 in
theorem k_X9_parse_173 {Q : Int32 → Sg → Prop} (C : Cx p s m args meth c D cy ad b0 yX9_parse cX9_parse 9 (some .boolean)) (v1 : Int32) (v2 : Int32) (v3 : Int32) (v4 : Int32) (v5 : Int32) (v6 : Int32) (v7 : Int32) (K24 : Int32 → Int32 → Int32 → Int32 → Sg → Prop) (K205 : Int32 → Sg → Prop) (hK24 : ∀ (z1 : Int32) (z2 : Int32) (z3 : Int32) (z4 : Int32) (σ : Sg), K24 z1 z2 z3 z4 σ → gI p l e rm_X9_parse s m args below meth c D cy ad b0 Q 9 24 σ [some (.ref (ad 10)), some (.int z1), some (.int z2), some (.int z3), some (.int z4), none, none, none, none] []) (hK205 : ∀ (z4 : Int32) (σ : Sg), K205 z4 σ → gI p l e rm_X9_parse s m args below meth c D cy ad b0 Q 9 205 σ [some (.ref (ad 10)), none, none, none, some (.int z4), none, none, none, none] []) (σ : Sg) (h : wp_X9_parse_173 v1 v2 v3 v4 v5 v6 v7 K24 K205 Q σ) : gI p l e rm_X9_parse s m args below meth c D cy ad b0 Q 9 173 σ [some (.ref (ad 10)), some (.int v1), some (.int v2), some (.int v3), some (.int v4), some (.int v5), some (.int v6), some (.int v7), none] [] := by
  refine g_iconst C dX9_parse_173 kc_0 ?_
  exact k_X9_parse_174 C v1 v2 v3 v4 v5 v6 v7 (nI 0) K24 K205 hK24 hK205 σ h
def wp_X9_parse_169 (v1 : Int32) (v2 : Int32) (v3 : Int32) (v4 : Int32) (v5 : Int32) (v6 : Int32) (v7 : Int32) (K24 : Int32 → Int32 → Int32 → Int32 → Sg → Prop) (K205 : Int32 → Sg → Prop) (Q : Int32 → Sg → Prop) (σ : Sg) : Prop :=
  wp_X9_parse_174 v1 v2 v3 v4 v5 v6 v7 (nI 1) K24 K205 Q σ
set_option maxHeartbeats 4000000 in
set_option maxRecDepth 100000 in
theorem k_X9_parse_169 {Q : Int32 → Sg → Prop} (C : Cx p s m args meth c D cy ad b0 yX9_parse cX9_parse 9 (some .boolean)) (v1 : Int32) (v2 : Int32) (v3 : Int32) (v4 : Int32) (v5 : Int32) (v6 : Int32) (v7 : Int32) (K24 : Int32 → Int32 → Int32 → Int32 → Sg → Prop) (K205 : Int32 → Sg → Prop) (hK24 : ∀ (z1 : Int32) (z2 : Int32) (z3 : Int32) (z4 : Int32) (σ : Sg), K24 z1 z2 z3 z4 σ → gI p l e rm_X9_parse s m args below meth c D cy ad b0 Q 9 24 σ [some (.ref (ad 10)), some (.int z1), some (.int z2), some (.int z3), some (.int z4), none, none, none, none] []) (hK205 : ∀ (z4 : Int32) (σ : Sg), K205 z4 σ → gI p l e rm_X9_parse s m args below meth c D cy ad b0 Q 9 205 σ [some (.ref (ad 10)), none, none, none, some (.int z4), none, none, none, none] []) (σ : Sg) (h : wp_X9_parse_169 v1 v2 v3 v4 v5 v6 v7 K24 K205 Q σ) : gI p l e rm_X9_parse s m args below meth c D cy ad b0 Q 9 169 σ [some (.ref (ad 10)), some (.int v1), some (.int v2), some (.int v3), some (.int v4), some (.int v5), some (.int v6), some (.int v7), none] [] := by
  refine g_iconst C dX9_parse_169 kc_1 ?_
  refine g_goto C 174 dX9_parse_170 (by decide) ?_
  exact k_X9_parse_174 C v1 v2 v3 v4 v5 v6 v7 (nI 1) K24 K205 hK24 hK205 σ h
def wp_X9_parse_146 (v1 : Int32) (v2 : Int32) (v3 : Int32) (v4 : Int32) (v5 : Int32) (v6 : Int32) (v7 : Int32) (K24 : Int32 → Int32 → Int32 → Int32 → Sg → Prop) (K205 : Int32 → Sg → Prop) (Q : Int32 → Sg → Prop) (σ : Sg) : Prop :=
  wp_X9_parse_174 v1 v2 v3 v4 v5 v6 v7 (nI 0) K24 K205 Q σ
set_option maxHeartbeats 4000000 in
set_option maxRecDepth 100000 in
theorem k_X9_parse_146 {Q : Int32 → Sg → Prop} (C : Cx p s m args meth c D cy ad b0 yX9_parse cX9_parse 9 (some .boolean)) (v1 : Int32) (v2 : Int32) (v3 : Int32) (v4 : Int32) (v5 : Int32) (v6 : Int32) (v7 : Int32) (K24 : Int32 → Int32 → Int32 → Int32 → Sg → Prop) (K205 : Int32 → Sg → Prop) (hK24 : ∀ (z1 : Int32) (z2 : Int32) (z3 : Int32) (z4 : Int32) (σ : Sg), K24 z1 z2 z3 z4 σ → gI p l e rm_X9_parse s m args below meth c D cy ad b0 Q 9 24 σ [some (.ref (ad 10)), some (.int z1), some (.int z2), some (.int z3), some (.int z4), none, none, none, none] []) (hK205 : ∀ (z4 : Int32) (σ : Sg), K205 z4 σ → gI p l e rm_X9_parse s m args below meth c D cy ad b0 Q 9 205 σ [some (.ref (ad 10)), none, none, none, some (.int z4), none, none, none, none] []) (σ : Sg) (h : wp_X9_parse_146 v1 v2 v3 v4 v5 v6 v7 K24 K205 Q σ) : gI p l e rm_X9_parse s m args below meth c D cy ad b0 Q 9 146 σ [some (.ref (ad 10)), some (.int v1), some (.int v2), some (.int v3), some (.int v4), some (.int v5), some (.int v6), some (.int v7), none] [] := by
  refine g_iconst C dX9_parse_146 kc_0 ?_
  refine g_goto C 174 dX9_parse_147 (by decide) ?_
  exact k_X9_parse_174 C v1 v2 v3 v4 v5 v6 v7 (nI 0) K24 K205 hK24 hK205 σ h
def wp_X9_parse_142 (v1 : Int32) (v2 : Int32) (v3 : Int32) (v4 : Int32) (v5 : Int32) (v6 : Int32) (v7 : Int32) (K24 : Int32 → Int32 → Int32 → Int32 → Sg → Prop) (K205 : Int32 → Sg → Prop) (Q : Int32 → Sg → Prop) (σ : Sg) : Prop :=
  wp_X9_parse_174 v1 v2 v3 v4 v5 v6 v7 (nI 1) K24 K205 Q σ
set_option maxHeartbeats 4000000 in
set_option maxRecDepth 100000 in
theorem k_X9_parse_142 {Q : Int32 → Sg → Prop} (C : Cx p s m args meth c D cy ad b0 yX9_parse cX9_parse 9 (some .boolean)) (v1 : Int32) (v2 : Int32) (v3 : Int32) (v4 : Int32) (v5 : Int32) (v6 : Int32) (v7 : Int32) (K24 : Int32 → Int32 → Int32 → Int32 → Sg → Prop) (K205 : Int32 → Sg → Prop) (hK24 : ∀ (z1 : Int32) (z2 : Int32) (z3 : Int32) (z4 : Int32) (σ : Sg), K24 z1 z2 z3 z4 σ → gI p l e rm_X9_parse s m args below meth c D cy ad b0 Q 9 24 σ [some (.ref (ad 10)), some (.int z1), some (.int z2), some (.int z3), some (.int z4), none, none, none, none] []) (hK205 : ∀ (z4 : Int32) (σ : Sg), K205 z4 σ → gI p l e rm_X9_parse s m args below meth c D cy ad b0 Q 9 205 σ [some (.ref (ad 10)), none, none, none, some (.int z4), none, none, none, none] []) (σ : Sg) (h : wp_X9_parse_142 v1 v2 v3 v4 v5 v6 v7 K24 K205 Q σ) : gI p l e rm_X9_parse s m args below meth c D cy ad b0 Q 9 142 σ [some (.ref (ad 10)), some (.int v1), some (.int v2), some (.int v3), some (.int v4), some (.int v5), some (.int v6), some (.int v7), none] [] := by
  refine g_iconst C dX9_parse_142 kc_1 ?_
  refine g_goto C 174 dX9_parse_143 (by decide) ?_
  exact k_X9_parse_174 C v1 v2 v3 v4 v5 v6 v7 (nI 1) K24 K205 hK24 hK205 σ h
def wp_X9_parse_100 (v1 : Int32) (v2 : Int32) (v3 : Int32) (v4 : Int32) (v5 : Int32) (v6 : Int32) (s0 : Int32) (K24 : Int32 → Int32 → Int32 → Int32 → Sg → Prop) (K205 : Int32 → Sg → Prop) (Q : Int32 → Sg → Prop) (σ : Sg) : Prop :=
  ((¬ v5 = (nI 32) → ((v3 = (nI 0) → wp_X9_rank v5 σ (fun r1 σ2 => (((nI 0) < r1 → wp_X9_parse_169 v1 v2 v3 v4 v5 v6 s0 K24 K205 Q σ2) ∧ (¬ (nI 0) < r1 → ((¬ v5 = (nI 41) → wp_X9_parse_173 v1 v2 v3 v4 v5 v6 s0 K24 K205 Q σ2) ∧ (v5 = (nI 41) → ((v2 ≤ (nI 0) → wp_X9_parse_173 v1 v2 v3 v4 v5 v6 s0 K24 K205 Q σ2) ∧ (¬ v2 ≤ (nI 0) → wp_X9_parse_169 v1 v2 v3 v4 v5 v6 s0 K24 K205 Q σ2)))))))) ∧ (¬ v3 = (nI 0) → ((¬ v6 = (nI 0) → wp_X9_parse_142 v1 v2 v3 v4 v5 v6 s0 K24 K205 Q σ) ∧ (v6 = (nI 0) → wp_X9_isPrefix v5 σ (fun r3 σ4 => ((¬ r3 = (nI 0) → wp_X9_parse_142 v1 v2 v3 v4 v5 v6 s0 K24 K205 Q σ4) ∧ (r3 = (nI 0) → ((¬ v5 = (nI 40) → wp_X9_parse_146 v1 v2 v3 v4 v5 v6 s0 K24 K205 Q σ4) ∧ (v5 = (nI 40) → (((nI 7) < v2 → wp_X9_parse_146 v1 v2 v3 v4 v5 v6 s0 K24 K205 Q σ4) ∧ (¬ (nI 7) < v2 → wp_X9_parse_142 v1 v2 v3 v4 v5 v6 s0 K24 K205 Q σ4)))))))))))) ∧ (v5 = (nI 32) → wp_X9_parse_336 v1 v2 v3 v4 K24 Q σ))
set_option maxHeartbeats 4000000 in
set_option maxRecDepth 100000 in
theorem k_X9_parse_100 {Q : Int32 → Sg → Prop} (C : Cx p s m args meth c D cy ad b0 yX9_parse cX9_parse 9 (some .boolean)) (v1 : Int32) (v2 : Int32) (v3 : Int32) (v4 : Int32) (v5 : Int32) (v6 : Int32) (s0 : Int32) (K24 : Int32 → Int32 → Int32 → Int32 → Sg → Prop) (K205 : Int32 → Sg → Prop) (hK24 : ∀ (z1 : Int32) (z2 : Int32) (z3 : Int32) (z4 : Int32) (σ : Sg), K24 z1 z2 z3 z4 σ → gI p l e rm_X9_parse s m args below meth c D cy ad b0 Q 9 24 σ [some (.ref (ad 10)), some (.int z1), some (.int z2), some (.int z3), some (.int z4), none, none, none, none] []) (hK205 : ∀ (z4 : Int32) (σ : Sg), K205 z4 σ → gI p l e rm_X9_parse s m args below meth c D cy ad b0 Q 9 205 σ [some (.ref (ad 10)), none, none, none, some (.int z4), none, none, none, none] []) (σ : Sg) (h : wp_X9_parse_100 v1 v2 v3 v4 v5 v6 s0 K24 K205 Q σ) : gI p l e rm_X9_parse s m args below meth c D cy ad b0 Q 9 100 σ [some (.ref (ad 10)), some (.int v1), some (.int v2), some (.int v3), some (.int v4), some (.int v5), some (.int v6), none, none] [.int s0] := by
  refine g_istore C [some (.ref (ad 10)), some (.int v1), some (.int v2), some (.int v3), some (.int v4), some (.int v5), some (.int v6), some (.int s0), none] dX9_parse_100 (by decide) rfl ?_
  refine g_iload C dX9_parse_102 rfl ?_
  refine g_bipush C dX9_parse_104 kb_32 ?_
  refine g_icmp_ne C 112 dX9_parse_106 (by decide) (fun c106 => ?_) (fun c106 => ?_)
  · have h := h.1 c106
    refine g_iload_n C dX9_parse_112 rfl ?_
    refine g_if_eq C 150 dX9_parse_113 (by decide) (fun c113 => ?_) (fun c113 => ?_)
    · have h := h.1 c113
      refine g_iload C dX9_parse_150 rfl ?_
      refine g_callSi C [.int v5] (c_X9_rank l D cy ad b0 C.A v5) cal_X9_rank mw_547 rfl ⟨Nat.le_of_ble_eq_true rfl, Nat.le_of_ble_eq_true rfl⟩ ⟨rfl, rfl⟩ ⟨Nat.zero_le _, Nat.zero_le _⟩ (Nat.le_of_ble_eq_true rfl) rfl dX9_parse_152 h (fun r1 σ2 h => ?_)
      refine g_if_gt C 169 dX9_parse_155 (by decide) (fun c155 => ?_) (fun c155 => ?_)
      · have h := h.1 c155
        exact k_X9_parse_169 C v1 v2 v3 v4 v5 v6 s0 K24 K205 hK24 hK205 σ2 h
      · have h := h.2 c155
        refine g_iload C dX9_parse_158 rfl ?_
        refine g_bipush C dX9_parse_160 kb_41 ?_
        refine g_icmp_ne C 173 dX9_parse_162 (by decide) (fun c162 => ?_) (fun c162 => ?_)
        · have h := h.1 c162
          exact k_X9_parse_173 C v1 v2 v3 v4 v5 v6 s0 K24 K205 hK24 hK205 σ2 h
        · have h := h.2 c162
          refine g_iload_n C dX9_parse_165 rfl ?_
          refine g_if_le C 173 dX9_parse_166 (by decide) (fun c166 => ?_) (fun c166 => ?_)
          · have h := h.1 c166
            exact k_X9_parse_173 C v1 v2 v3 v4 v5 v6 s0 K24 K205 hK24 hK205 σ2 h
          · have h := h.2 c166
            exact k_X9_parse_169 C v1 v2 v3 v4 v5 v6 s0 K24 K205 hK24 hK205 σ2 h
    · have h := h.2 c113
      refine g_iload C dX9_parse_116 rfl ?_
      refine g_if_ne C 142 dX9_parse_118 (by decide) (fun c118 => ?_) (fun c118 => ?_)
      · have h := h.1 c118
        exact k_X9_parse_142 C v1 v2 v3 v4 v5 v6 s0 K24 K205 hK24 hK205 σ h
      · have h := h.2 c118
        refine g_iload C dX9_parse_121 rfl ?_
        refine g_callSi C [.int v5] (c_X9_isPrefix l D cy ad b0 C.A v5) cal_X9_isPrefix mw_544 rfl ⟨Nat.le_of_ble_eq_true rfl, Nat.le_of_ble_eq_true rfl⟩ ⟨rfl, rfl⟩ ⟨Nat.zero_le _, Nat.zero_le _⟩ (Nat.le_of_ble_eq_true rfl) rfl dX9_parse_123 h (fun r3 σ4 h => ?_)
        refine g_if_ne C 142 dX9_parse_126 (by decide) (fun c126 => ?_) (fun c126 => ?_)
        · have h := h.1 c126
          exact k_X9_parse_142 C v1 v2 v3 v4 v5 v6 s0 K24 K205 hK24 hK205 σ4 h
        · have h := h.2 c126
          refine g_iload C dX9_parse_129 rfl ?_
          refine g_bipush C dX9_parse_131 kb_40 ?_
          refine g_icmp_ne C 146 dX9_parse_133 (by decide) (fun c133 => ?_) (fun c133 => ?_)
          · have h := h.1 c133
            exact k_X9_parse_146 C v1 v2 v3 v4 v5 v6 s0 K24 K205 hK24 hK205 σ4 h
          · have h := h.2 c133
            refine g_iload_n C dX9_parse_136 rfl ?_
            refine g_bipush C dX9_parse_137 kb_7 ?_
            refine g_icmp_gt C 146 dX9_parse_139 (by decide) (fun c139 => ?_) (fun c139 => ?_)
            · have h := h.1 c139
              exact k_X9_parse_146 C v1 v2 v3 v4 v5 v6 s0 K24 K205 hK24 hK205 σ4 h
            · have h := h.2 c139
              exact k_X9_parse_142 C v1 v2 v3 v4 v5 v6 s0 K24 K205 hK24 hK205 σ4 h
  · have h := h.2 c106
    refine g_goto C 336 dX9_parse_109 (by decide) ?_
    refine g_mask [true, true, true, true, true, false, false, false, false] rfl ?_
    exact k_X9_parse_336 C v1 v2 v3 v4 K24 hK24 σ h
def wp_X9_parse_95 (v1 : Int32) (v2 : Int32) (v3 : Int32) (v4 : Int32) (v5 : Int32) (v6 : Int32) (K24 : Int32 → Int32 → Int32 → Int32 → Sg → Prop) (K205 : Int32 → Sg → Prop) (Q : Int32 → Sg → Prop) (σ : Sg) : Prop :=
  wp_X9_parse_100 v1 v2 v3 v4 v5 v6 (nI 1) K24 K205 Q σ
set_option maxHeartbeats 4000000 in
set_option maxRecDepth 100000 in
theorem k_X9_parse_95 {Q : Int32 → Sg → Prop} (C : Cx p s m args meth c D cy ad b0 yX9_parse cX9_parse 9 (some .boolean)) (v1 : Int32) (v2 : Int32) (v3 : Int32) (v4 : Int32) (v5 : Int32) (v6 : Int32) (K24 : Int32 → Int32 → Int32 → Int32 → Sg → Prop) (K205 : Int32 → Sg → Prop) (hK24 : ∀ (z1 : Int32) (z2 : Int32) (z3 : Int32) (z4 : Int32) (σ : Sg), K24 z1 z2 z3 z4 σ → gI p l e rm_X9_parse s m args below meth c D cy ad b0 Q 9 24 σ [some (.ref (ad 10)), some (.int z1), some (.int z2), some (.int z3), some (.int z4), none, none, none, none] []) (hK205 : ∀ (z4 : Int32) (σ : Sg), K205 z4 σ → gI p l e rm_X9_parse s m args below meth c D cy ad b0 Q 9 205 σ [some (.ref (ad 10)), none, none, none, some (.int z4), none, none, none, none] []) (σ : Sg) (h : wp_X9_parse_95 v1 v2 v3 v4 v5 v6 K24 K205 Q σ) : gI p l e rm_X9_parse s m args below meth c D cy ad b0 Q 9 95 σ [some (.ref (ad 10)), some (.int v1), some (.int v2), some (.int v3), some (.int v4), some (.int v5), some (.int v6), none, none] [] := by
  refine g_iconst C dX9_parse_95 kc_1 ?_
  refine g_goto C 100 dX9_parse_96 (by decide) ?_
  exact k_X9_parse_100 C v1 v2 v3 v4 v5 v6 (nI 1) K24 K205 hK24 hK205 σ h
def wp_X9_parse_72 (v1 : Int32) (v2 : Int32) (v3 : Int32) (v4 : Int32) (v5 : Int32) (s0 : Int32) (K24 : Int32 → Int32 → Int32 → Int32 → Sg → Prop) (K205 : Int32 → Sg → Prop) (Q : Int32 → Sg → Prop) (σ : Sg) : Prop :=
  ((¬ s0 = (nI 0) → wp_X9_parse_95 v1 v2 v3 v4 v5 s0 K24 K205 Q σ) ∧ (s0 = (nI 0) → wp_X9_isPrefix v5 σ (fun r1 σ2 => ((¬ r1 = (nI 0) → wp_X9_parse_95 v1 v2 v3 v4 v5 s0 K24 K205 Q σ2) ∧ (r1 = (nI 0) → wp_X9_rank v5 σ2 (fun r3 σ4 => ((r3 ≤ (nI 0) → wp_X9_parse_100 v1 v2 v3 v4 v5 s0 (nI 0) K24 K205 Q σ4) ∧ (¬ r3 ≤ (nI 0) → wp_X9_parse_95 v1 v2 v3 v4 v5 s0 K24 K205 Q σ4))))))))
set_option maxHeartbeats 4000000 in
set_option maxRecDepth 100000 in
theorem k_X9_parse_72 {Q : Int32 → Sg → Prop} (C : Cx p s m args meth c D cy ad b0 yX9_parse cX9_parse 9 (some .boolean)) (v1 : Int32) (v2 : Int32) (v3 : Int32) (v4 : Int32) (v5 : Int32) (s0 : Int32) (K24 : Int32 → Int32 → Int32 → Int32 → Sg → Prop) (K205 : Int32 → Sg → Prop) (hK24 : ∀ (z1 : Int32) (z2 : Int32) (z3 : Int32) (z4 : Int32) (σ : Sg), K24 z1 z2 z3 z4 σ → gI p l e rm_X9_parse s m args below meth c D cy ad b0 Q 9 24 σ [some (.ref (ad 10)), some (.int z1), some (.int z2), some (.int z3), some (.int z4), none, none, none, none] []) (hK205 : ∀ (z4 : Int32) (σ : Sg), K205 z4 σ → gI p l e rm_X9_parse s m args below meth c D cy ad b0 Q 9 205 σ [some (.ref (ad 10)), none, none, none, some (.int z4), none, none, none, none] []) (σ : Sg) (h : wp_X9_parse_72 v1 v2 v3 v4 v5 s0 K24 K205 Q σ) : gI p l e rm_X9_parse s m args below meth c D cy ad b0 Q 9 72 σ [some (.ref (ad 10)), some (.int v1), some (.int v2), some (.int v3), some (.int v4), some (.int v5), none, none, none] [.int s0] := by
  refine g_istore C [some (.ref (ad 10)), some (.int v1), some (.int v2), some (.int v3), some (.int v4), some (.int v5), some (.int s0), none, none] dX9_parse_72 (by decide) rfl ?_
  refine g_iload C dX9_parse_74 rfl ?_
  refine g_if_ne C 95 dX9_parse_76 (by decide) (fun c76 => ?_) (fun c76 => ?_)
  · have h := h.1 c76
    exact k_X9_parse_95 C v1 v2 v3 v4 v5 s0 K24 K205 hK24 hK205 σ h
  · have h := h.2 c76
    refine g_iload C dX9_parse_79 rfl ?_
    refine g_callSi C [.int v5] (c_X9_isPrefix l D cy ad b0 C.A v5) cal_X9_isPrefix mw_544 rfl ⟨Nat.le_of_ble_eq_true rfl, Nat.le_of_ble_eq_true rfl⟩ ⟨rfl, rfl⟩ ⟨Nat.zero_le _, Nat.zero_le _⟩ (Nat.le_of_ble_eq_true rfl) rfl dX9_parse_81 h (fun r1 σ2 h => ?_)
    refine g_if_ne C 95 dX9_parse_84 (by decide) (fun c84 => ?_) (fun c84 => ?_)
    · have h := h.1 c84
      exact k_X9_parse_95 C v1 v2 v3 v4 v5 s0 K24 K205 hK24 hK205 σ2 h
    · have h := h.2 c84
      refine g_iload C dX9_parse_87 rfl ?_
      refine g_callSi C [.int v5] (c_X9_rank l D cy ad b0 C.A v5) cal_X9_rank mw_547 rfl ⟨Nat.le_of_ble_eq_true rfl, Nat.le_of_ble_eq_true rfl⟩ ⟨rfl, rfl⟩ ⟨Nat.zero_le _, Nat.zero_le _⟩ (Nat.le_of_ble_eq_true rfl) rfl dX9_parse_89 h (fun r3 σ4 h => ?_)
      refine g_if_le C 99 dX9_parse_92 (by decide) (fun c92 => ?_) (fun c92 => ?_)
      · have h := h.1 c92
        refine g_iconst C dX9_parse_99 kc_0 ?_
        exact k_X9_parse_100 C v1 v2 v3 v4 v5 s0 (nI 0) K24 K205 hK24 hK205 σ4 h
      · have h := h.2 c92
        exact k_X9_parse_95 C v1 v2 v3 v4 v5 s0 K24 K205 hK24 hK205 σ4 h
def wp_X9_parse_67 (v1 : Int32) (v2 : Int32) (v3 : Int32) (v4 : Int32) (v5 : Int32) (K24 : Int32 → Int32 → Int32 → Int32 → Sg → Prop) (K205 : Int32 → Sg → Prop) (Q : Int32 → Sg → Prop) (σ : Sg) : Prop :=
  wp_X9_parse_72 v1 v2 v3 v4 v5 (nI 1) K24 K205 Q σ
set_option maxHeartbeats 4000000 in
set_option maxRecDepth 100000 in
theorem k_X9_parse_67 {Q : Int32 → Sg → Prop} (C : Cx p s m args meth c D cy ad b0 yX9_parse cX9_parse 9 (some .boolean)) (v1 : Int32) (v2 : Int32) (v3 : Int32) (v4 : Int32) (v5 : Int32) (K24 : Int32 → Int32 → Int32 → Int32 → Sg → Prop) (K205 : Int32 → Sg → Prop) (hK24 : ∀ (z1 : Int32) (z2 : Int32) (z3 : Int32) (z4 : Int32) (σ : Sg), K24 z1 z2 z3 z4 σ → gI p l e rm_X9_parse s m args below meth c D cy ad b0 Q 9 24 σ [some (.ref (ad 10)), some (.int z1), some (.int z2), some (.int z3), some (.int z4), none, none, none, none] []) (hK205 : ∀ (z4 : Int32) (σ : Sg), K205 z4 σ → gI p l e rm_X9_parse s m args below meth c D cy ad b0 Q 9 205 σ [some (.ref (ad 10)), none, none, none, some (.int z4), none, none, none, none] []) (σ : Sg) (h : wp_X9_parse_67 v1 v2 v3 v4 v5 K24 K205 Q σ) : gI p l e rm_X9_parse s m args below meth c D cy ad b0 Q 9 67 σ [some (.ref (ad 10)), some (.int v1), some (.int v2), some (.int v3), some (.int v4), some (.int v5), none, none, none] [] := by
  refine g_iconst C dX9_parse_67 kc_1 ?_
  refine g_goto C 72 dX9_parse_68 (by decide) ?_
  exact k_X9_parse_72 C v1 v2 v3 v4 v5 (nI 1) K24 K205 hK24 hK205 σ h
def wp_X9_parse_60 (v1 : Int32) (v2 : Int32) (v3 : Int32) (v4 : Int32) (v5 : Int32) (K24 : Int32 → Int32 → Int32 → Int32 → Sg → Prop) (K205 : Int32 → Sg → Prop) (Q : Int32 → Sg → Prop) (σ : Sg) : Prop :=
  ((¬ v5 = (nI 46) → wp_X9_parse_72 v1 v2 v3 v4 v5 (nI 0) K24 K205 Q σ) ∧ (v5 = (nI 46) → wp_X9_parse_67 v1 v2 v3 v4 v5 K24 K205 Q σ))
set_option maxHeartbeats 4000000 in
set_option maxRecDepth 100000 in
theorem k_X9_parse_60 {Q : Int32 → Sg → Prop} (C : Cx p s m args meth c D cy ad b0 yX9_parse cX9_parse 9 (some .boolean)) (v1 : Int32) (v2 : Int32) (v3 : Int32) (v4 : Int32) (v5 : Int32) (K24 : Int32 → Int32 → Int32 → Int32 → Sg → Prop) (K205 : Int32 → Sg → Prop) (hK24 : ∀ (z1 : Int32) (z2 : Int32) (z3 : Int32) (z4 : Int32) (σ : Sg), K24 z1 z2 z3 z4 σ → gI p l e rm_X9_parse s m args below meth c D cy ad b0 Q 9 24 σ [some (.ref (ad 10)), some (.int z1), some (.int z2), some (.int z3), some (.int z4), none, none, none, none] []) (hK205 : ∀ (z4 : Int32) (σ : Sg), K205 z4 σ → gI p l e rm_X9_parse s m args below meth c D cy ad b0 Q 9 205 σ [some (.ref (ad 10)), none, none, none, some (.int z4), none, none, none, none] []) (σ : Sg) (h : wp_X9_parse_60 v1 v2 v3 v4 v5 K24 K205 Q σ) : gI p l e rm_X9_parse s m args below meth c D cy ad b0 Q 9 60 σ [some (.ref (ad 10)), some (.int v1), some (.int v2), some (.int v3), some (.int v4), some (.int v5), none, none, none] [] := by
  refine g_iload C dX9_parse_60 rfl ?_
  refine g_bipush C dX9_parse_62 kb_46 ?_
  refine g_icmp_ne C 71 dX9_parse_64 (by decide) (fun c64 => ?_) (fun c64 => ?_)
  · have h := h.1 c64
    refine g_iconst C dX9_parse_71 kc_0 ?_
    exact k_X9_parse_72 C v1 v2 v3 v4 v5 (nI 0) K24 K205 hK24 hK205 σ h
  · have h := h.2 c64
    exact k_X9_parse_67 C v1 v2 v3 v4 v5 K24 K205 hK24 hK205 σ h
def wb_X9_parse_24 (v1 : Int32) (v2 : Int32) (v3 : Int32) (v4 : Int32) (K24 : Int32 → Int32 → Int32 → Int32 → Sg → Prop) (K205 : Int32 → Sg → Prop) (K342 : Int32 → Int32 → Sg → Prop) (Q : Int32 → Sg → Prop) (σ : Sg) : Prop :=
  (((gF σ 10 1) ≤ v4 → K342 v2 v3 σ) ∧ (¬ (gF σ 10 1) ≤ v4 → vp_in v4 (aN 47) ∧ (∀ x44 : Int32, x44 = ((gA σ 47 (Int32.toNatClampNeg v4)) &&& (nI 255)) → (((x44 < (nI 97) → wp_X9_parse_60 v1 v2 v3 v4 x44 K24 K205 Q σ) ∧ (¬ x44 < (nI 97) → ((x44 ≤ (nI 100) → wp_X9_parse_67 v1 v2 v3 v4 x44 K24 K205 Q σ) ∧ (¬ x44 ≤ (nI 100) → wp_X9_parse_60 v1 v2 v3 v4 x44 K24 K205 Q σ))))))))
set_option maxHeartbeats 4000000 in
set_option maxRecDepth 100000 in
theorem kb_X9_parse_24 {Q : Int32 → Sg → Prop} (C : Cx p s m args meth c D cy ad b0 yX9_parse cX9_parse 9 (some .boolean)) (v1 : Int32) (v2 : Int32) (v3 : Int32) (v4 : Int32) (K24 : Int32 → Int32 → Int32 → Int32 → Sg → Prop) (K205 : Int32 → Sg → Prop) (K342 : Int32 → Int32 → Sg → Prop) (hK24 : ∀ (z1 : Int32) (z2 : Int32) (z3 : Int32) (z4 : Int32) (σ : Sg), K24 z1 z2 z3 z4 σ → gI p l e rm_X9_parse s m args below meth c D cy ad b0 Q 9 24 σ [some (.ref (ad 10)), some (.int z1), some (.int z2), some (.int z3), some (.int z4), none, none, none, none] []) (hK205 : ∀ (z4 : Int32) (σ : Sg), K205 z4 σ → gI p l e rm_X9_parse s m args below meth c D cy ad b0 Q 9 205 σ [some (.ref (ad 10)), none, none, none, some (.int z4), none, none, none, none] []) (hK342 : ∀ (z2 : Int32) (z3 : Int32) (σ : Sg), K342 z2 z3 σ → gI p l e rm_X9_parse s m args below meth c D cy ad b0 Q 9 342 σ [some (.ref (ad 10)), none, some (.int z2), some (.int z3), none, none, none, none, none] []) (σ : Sg) (h : wb_X9_parse_24 v1 v2 v3 v4 K24 K205 K342 Q σ) : gI p l e rm_X9_parse s m args below meth c D cy ad b0 Q 9 24 σ [some (.ref (ad 10)), some (.int v1), some (.int v2), some (.int v3), some (.int v4), none, none, none, none] [] := by
  refine g_iload C dX9_parse_24 rfl ?_
  refine g_aload_n C dX9_parse_26 rfl ?_
  refine fget_10_1_X9_136 C rfl dX9_parse_27 ?_
  refine g_icmp_ge C 342 dX9_parse_30 (by decide) (fun c30 => ?_) (fun c30 => ?_)
  · have h := h.1 c30
    refine g_mask [true, false, true, true, false, false, false, false, false] rfl ?_
    exact hK342 v2 v3 σ h
  · have h := h.2 c30
    refine g_aload_n C dX9_parse_33 rfl ?_
    refine fget_10_0_X9_7 C rfl dX9_parse_34 ?_
    refine g_iload C dX9_parse_37 rfl ?_
    refine g_bald C (by decide) h.1 dX9_parse_39 ?_
    have h := h.2
    refine g_sipush C dX9_parse_40 ks_255 ?_
    refine g_iand C dX9_parse_43 ?_
    refine g_topi (fun x44 e_x44 => ?_)
    have h := h x44 e_x44
    refine g_istore C [some (.ref (ad 10)), some (.int v1), some (.int v2), some (.int v3), some (.int v4), some (.int x44), none, none, none] dX9_parse_44 (by decide) rfl ?_
    refine g_iload C dX9_parse_46 rfl ?_
    refine g_bipush C dX9_parse_48 kb_97 ?_
    refine g_icmp_lt C 60 dX9_parse_50 (by decide) (fun c50 => ?_) (fun c50 => ?_)
    · have h := h.1 c50
      exact k_X9_parse_60 C v1 v2 v3 v4 x44 K24 K205 hK24 hK205 σ h
    · have h := h.2 c50
      refine g_iload C dX9_parse_53 rfl ?_
      refine g_bipush C dX9_parse_55 kb_100 ?_
      refine g_icmp_le C 67 dX9_parse_57 (by decide) (fun c57 => ?_) (fun c57 => ?_)
      · have h := h.1 c57
        exact k_X9_parse_67 C v1 v2 v3 v4 x44 K24 K205 hK24 hK205 σ h
      · have h := h.2 c57
        exact k_X9_parse_60 C v1 v2 v3 v4 x44 K24 K205 hK24 hK205 σ h
def wl_X9_parse_24 (K205 : Int32 → Sg → Prop) (K342 : Int32 → Int32 → Sg → Prop) (Q : Int32 → Sg → Prop) : Nat → Int32 → Int32 → Int32 → Int32 → Sg → Prop
  | 0, _, _, _, _, _ => False
  | n + 1, v1, v2, v3, v4, σ => wb_X9_parse_24 v1 v2 v3 v4 (wl_X9_parse_24 K205 K342 Q n) K205 K342 Q σ
set_option maxHeartbeats 4000000 in
set_option maxRecDepth 100000 in
theorem kl_X9_parse_24 {Q : Int32 → Sg → Prop} (C : Cx p s m args meth c D cy ad b0 yX9_parse cX9_parse 9 (some .boolean)) (K205 : Int32 → Sg → Prop) (K342 : Int32 → Int32 → Sg → Prop) (hK205 : ∀ (z4 : Int32) (σ : Sg), K205 z4 σ → gI p l e rm_X9_parse s m args below meth c D cy ad b0 Q 9 205 σ [some (.ref (ad 10)), none, none, none, some (.int z4), none, none, none, none] []) (hK342 : ∀ (z2 : Int32) (z3 : Int32) (σ : Sg), K342 z2 z3 σ → gI p l e rm_X9_parse s m args below meth c D cy ad b0 Q 9 342 σ [some (.ref (ad 10)), none, some (.int z2), some (.int z3), none, none, none, none, none] []) : ∀ (n : Nat) (v1 : Int32) (v2 : Int32) (v3 : Int32) (v4 : Int32) (σ : Sg), wl_X9_parse_24 K205 K342 Q n v1 v2 v3 v4 σ → gI p l e rm_X9_parse s m args below meth c D cy ad b0 Q 9 24 σ [some (.ref (ad 10)), some (.int v1), some (.int v2), some (.int v3), some (.int v4), none, none, none, none] [] := by
  intro n
  induction n with
  | zero => intro v1 v2 v3 v4 σ h; exact False.elim h
  | succ n ih =>
    intro v1 v2 v3 v4 σ h
    exact kb_X9_parse_24 C v1 v2 v3 v4 (wl_X9_parse_24 K205 K342 Q n) K205 K342 (fun z1 z2 z3 z4 σ h => ih z1 z2 z3 z4 σ h) hK205 hK342 σ h
def wp_X9_parse (σ : Sg) (Q : Int32 → Sg → Prop) : Prop :=
  ∀ σ1 : Sg, σ1 = stF σ 10 4 (nI 0) → (∀ σ2 : Sg, σ2 = stF σ1 10 9 (nI 0) → (∀ σ3 : Sg, σ3 = stF σ2 10 11 (nI 0) → (∃ n, wl_X9_parse_24 (fun z4 σ9 => wp_X9_parse_205 z4 Q σ9) (fun z2 z3 σ9 => wp_X9_parse_342 z2 z3 Q σ9) Q n (nI 0) (nI 0) (nI 1) (nI 0) σ3)))
set_option maxHeartbeats 4000000 in
set_option maxRecDepth 100000 in
theorem c_X9_parse (l : Launch) (D : va_G) (cy : Nat → ClassId) (ad : Nat → Nat) (b0 : Nat) (hA : AdOk ad b0) : Cti l D cy ad b0 yX9_parse cX9_parse 9 (some .boolean) rm_X9_parse [.ref (ad 10)] (fun σ Q => wp_X9_parse σ Q) := by
  intro σ Q h
  refine g_enter hA rfl (Nat.le_of_ble_eq_true rfl) [some (.ref (ad 10)), none, none, none, none, none, none, none, none] rfl ?_
  intro p e s m args below meth c C
  refine g_aload_n C dX9_parse_0 rfl ?_
  refine g_iconst C dX9_parse_1 kc_0 ?_
  refine fput_10_4_X9_143 C rfl dX9_parse_2 (fun σ1 e_σ1 => ?_)
  have h := h σ1 e_σ1
  refine g_aload_n C dX9_parse_5 rfl ?_
  refine g_iconst C dX9_parse_6 kc_0 ?_
  refine fput_10_9_X9_146 C rfl dX9_parse_7 (fun σ2 e_σ2 => ?_)
  have h := h σ2 e_σ2
  refine g_aload_n C dX9_parse_10 rfl ?_
  refine g_iconst C dX9_parse_11 kc_0 ?_
  refine fput_10_11_X9_149 C rfl dX9_parse_12 (fun σ3 e_σ3 => ?_)
  have h := h σ3 e_σ3
  refine g_iconst C dX9_parse_15 kc_0 ?_
  refine g_istore_n C [some (.ref (ad 10)), some (.int (nI 0)), none, none, none, none, none, none, none] dX9_parse_16 (by decide) rfl ?_
  refine g_iconst C dX9_parse_17 kc_0 ?_
  refine g_istore_n C [some (.ref (ad 10)), some (.int (nI 0)), some (.int (nI 0)), none, none, none, none, none, none] dX9_parse_18 (by decide) rfl ?_
  refine g_iconst C dX9_parse_19 kc_1 ?_
  refine g_istore_n C [some (.ref (ad 10)), some (.int (nI 0)), some (.int (nI 0)), some (.int (nI 1)), none, none, none, none, none] dX9_parse_20 (by decide) rfl ?_
  refine g_iconst C dX9_parse_21 kc_0 ?_
  refine g_istore C [some (.ref (ad 10)), some (.int (nI 0)), some (.int (nI 0)), some (.int (nI 1)), some (.int (nI 0)), none, none, none, none] dX9_parse_22 (by decide) rfl ?_
  obtain ⟨n, h⟩ := h
  exact kl_X9_parse_24 C _ _ (fun z4 σ9 h => by exact k_X9_parse_205 C z4 σ9 h) (fun z2 z3 σ9 h => by exact k_X9_parse_342 C z2 z3 σ9 h) n (nI 0) (nI 0) (nI 1) (nI 0) σ3 h
end
