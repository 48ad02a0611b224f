section
variable {p : Program} {l : Launch} {e : Env} {s : State} {m : MethodId} {args : Array Value} {below : List Frame} {meth : Method} {c : Code} {D : va_G} {cy : Nat → ClassId} {ad : Nat → Nat} {b0 : Nat}
def rm_X8_pick : Room := { frames := 0, cells := 0, slots := 0, locals := 0 }
def wp_X8_pick (a0 : Nat) (a1 : Int32) (σ : Sg) (Q : Int32 → Sg → Prop) : Prop :=
  ((a1 < (nI 0) → Q (-9 : Int32) σ) ∧ (¬ a1 < (nI 0) → (((nI (aN a0)) ≤ a1 → Q (-9 : Int32) σ) ∧ (¬ (nI (aN a0)) ≤ a1 → vp_in a1 (aN a0) ∧ (Q (gA σ a0 (Int32.toNatClampNeg a1)) σ)))))
set_option maxHeartbeats 4000000 in
set_option maxRecDepth 100000 in
theorem c_X8_pick (l : Launch) (D : va_G) (cy : Nat → ClassId) (ad : Nat → Nat) (b0 : Nat) (hA : AdOk ad b0) (a0 : Nat) (a1 : Int32) (h0 : 11 ≤ a0 ∧ a0 < NW ∧ aK a0 = 0) : Cti l D cy ad b0 yX8_pick cX8_pick 2 (some .int) rm_X8_pick [.ref (ad a0), .int a1] (fun σ Q => wp_X8_pick a0 a1 σ Q) := by
  intro σ Q h
  refine g_enter hA rfl (Nat.le_of_ble_eq_true rfl) [some (.ref (ad a0)), some (.int a1)] rfl ?_
  intro p e s m args below meth c C
  refine g_iload_n C dX8_pick_0 rfl ?_
  refine g_if_lt C 16 dX8_pick_1 (by decide) (fun c1 => ?_) (fun c1 => ?_)
  · have h := h.1 c1
    refine g_bipush C dX8_pick_16 kb_m9 ?_
    exact g_iret C dX8_pick_18 h
  · have h := h.2 c1
    refine g_iload_n C dX8_pick_4 rfl ?_
    refine g_aload_n C dX8_pick_5 rfl ?_
    refine g_alen C ⟨h0.1, h0.2.1, by rw [h0.2.2]; decide⟩ dX8_pick_6 ?_
    refine g_icmp_ge C 16 dX8_pick_7 (by decide) (fun c7 => ?_) (fun c7 => ?_)
    · have h := h.1 c7
      refine g_bipush C dX8_pick_16 kb_m9 ?_
      exact g_iret C dX8_pick_18 h
    · have h := h.2 c7
      refine g_aload_n C dX8_pick_10 rfl ?_
      refine g_iload_n C dX8_pick_11 rfl ?_
      refine g_iald C h0 h.1 dX8_pick_12 ?_
      have h := h.2
      refine g_goto C 18 dX8_pick_13 (by decide) ?_
      exact g_iret C dX8_pick_18 h
def rm_X8_put : Room := { frames := 0, cells := 0, slots := 0, locals := 0 }
def wp_X8_put (a0 : Nat) (a1 : Int32) (a2 : Int32) (σ : Sg) (Q : Sg → Prop) : Prop :=
  ((a1 < (nI 0) → Q σ) ∧ (¬ a1 < (nI 0) → (((nI (aN a0)) ≤ a1 → Q σ) ∧ (¬ (nI (aN a0)) ≤ a1 → vp_in a1 (aN a0) ∧ (∀ σ1 : Sg, σ1 = stA σ a0 (Int32.toNatClampNeg a1) a2 → (Q σ1))))))
set_option maxHeartbeats 4000000 in
set_option maxRecDepth 100000 in
theorem c_X8_put (l : Launch) (D : va_G) (cy : Nat → ClassId) (ad : Nat → Nat) (b0 : Nat) (hA : AdOk ad b0) (a0 : Nat) (a1 : Int32) (a2 : Int32) (h0 : 11 ≤ a0 ∧ a0 < NW ∧ aK a0 = 0) : Ctv l D cy ad b0 yX8_put cX8_put 3 none rm_X8_put [.ref (ad a0), .int a1, .int a2] (fun σ Q => wp_X8_put a0 a1 a2 σ Q) := by
  intro σ Q h
  refine g_enter hA rfl (Nat.le_of_ble_eq_true rfl) [some (.ref (ad a0)), some (.int a1), some (.int a2)] rfl ?_
  intro p e s m args below meth c C
  refine g_iload_n C dX8_put_0 rfl ?_
  refine g_if_lt C 14 dX8_put_1 (by decide) (fun c1 => ?_) (fun c1 => ?_)
  · have h := h.1 c1
    exact g_vret C dX8_put_14 h
  · have h := h.2 c1
    refine g_iload_n C dX8_put_4 rfl ?_
    refine g_aload_n C dX8_put_5 rfl ?_
    refine g_alen C ⟨h0.1, h0.2.1, by rw [h0.2.2]; decide⟩ dX8_put_6 ?_
    refine g_icmp_ge C 14 dX8_put_7 (by decide) (fun c7 => ?_) (fun c7 => ?_)
    · have h := h.1 c7
      exact g_vret C dX8_put_14 h
    · have h := h.2 c7
      refine g_aload_n C dX8_put_10 rfl ?_
      refine g_iload_n C dX8_put_11 rfl ?_
      refine g_iload_n C dX8_put_12 rfl ?_
      refine g_iast C h0 h.1 dX8_put_13 (fun σ1 e_σ1 => ?_)
      have h := h.2 σ1 e_σ1
      exact g_vret C dX8_put_14 h
def rm_X8_pickLong : Room := { frames := 0, cells := 0, slots := 0, locals := 0 }
def wp_X8_pickLong (a0 : Nat) (a1 : Int32) (σ : Sg) (Q : Int64 → Sg → Prop) : Prop :=
  ((a1 < (nI 0) → Q (lN 0) σ) ∧ (¬ a1 < (nI 0) → (((nI (aN a0)) ≤ a1 → Q (lN 0) σ) ∧ (¬ (nI (aN a0)) ≤ a1 → vp_in a1 (aN a0) ∧ (Q (gL σ a0 (Int32.toNatClampNeg a1)) σ)))))
set_option maxHeartbeats 4000000 in
set_option maxRecDepth 100000 in
theorem c_X8_pickLong (l : Launch) (D : va_G) (cy : Nat → ClassId) (ad : Nat → Nat) (b0 : Nat) (hA : AdOk ad b0) (a0 : Nat) (a1 : Int32) (h0 : 11 ≤ a0 ∧ a0 < NW ∧ aK a0 = 2) : Ctl l D cy ad b0 yX8_pickLong cX8_pickLong 2 (some .long) rm_X8_pickLong [.ref (ad a0), .int a1] (fun σ Q => wp_X8_pickLong a0 a1 σ Q) := by
  intro σ Q h
  refine g_enter hA rfl (Nat.le_of_ble_eq_true rfl) [some (.ref (ad a0)), some (.int a1)] rfl ?_
  intro p e s m args below meth c C
  refine g_iload_n C dX8_pickLong_0 rfl ?_
  refine g_if_lt C 16 dX8_pickLong_1 (by decide) (fun c1 => ?_) (fun c1 => ?_)
  · have h := h.1 c1
    refine g_lconst C dX8_pickLong_16 kl_0 ?_
    exact g_lret C dX8_pickLong_17 h
  · have h := h.2 c1
    refine g_iload_n C dX8_pickLong_4 rfl ?_
    refine g_aload_n C dX8_pickLong_5 rfl ?_
    refine g_alen C ⟨h0.1, h0.2.1, by rw [h0.2.2]; decide⟩ dX8_pickLong_6 ?_
    refine g_icmp_ge C 16 dX8_pickLong_7 (by decide) (fun c7 => ?_) (fun c7 => ?_)
    · have h := h.1 c7
      refine g_lconst C dX8_pickLong_16 kl_0 ?_
      exact g_lret C dX8_pickLong_17 h
    · have h := h.2 c7
      refine g_aload_n C dX8_pickLong_10 rfl ?_
      refine g_iload_n C dX8_pickLong_11 rfl ?_
      refine g_lald C h0 h.1 dX8_pickLong_12 ?_
      have h := h.2
      refine g_goto C 17 dX8_pickLong_13 (by decide) ?_
      exact g_lret C dX8_pickLong_17 h
def rm_X8_putLong : Room := { frames := 0, cells := 0, slots := 0, locals := 0 }
def wp_X8_putLong (a0 : Nat) (a1 : Int32) (a2 : Int64) (σ : Sg) (Q : Sg → Prop) : Prop :=
  ((a1 < (nI 0) → Q σ) ∧ (¬ a1 < (nI 0) → (((nI (aN a0)) ≤ a1 → Q σ) ∧ (¬ (nI (aN a0)) ≤ a1 → vp_in a1 (aN a0) ∧ (∀ σ1 : Sg, σ1 = stL σ a0 (Int32.toNatClampNeg a1) a2 → (Q σ1))))))
set_option maxHeartbeats 4000000 in
set_option maxRecDepth 100000 in
theorem c_X8_putLong (l : Launch) (D : va_G) (cy : Nat → ClassId) (ad : Nat → Nat) (b0 : Nat) (hA : AdOk ad b0) (a0 : Nat) (a1 : Int32) (a2 : Int64) (h0 : 11 ≤ a0 ∧ a0 < NW ∧ aK a0 = 2) : Ctv l D cy ad b0 yX8_putLong cX8_putLong 4 none rm_X8_putLong [.ref (ad a0), .int a1, .long a2] (fun σ Q => wp_X8_putLong a0 a1 a2 σ Q) := by
  intro σ Q h
  refine g_enter hA rfl (Nat.le_of_ble_eq_true rfl) [some (.ref (ad a0)), some (.int a1), some (.long a2), none] rfl ?_
  intro p e s m args below meth c C
  refine g_iload_n C dX8_putLong_0 rfl ?_
  refine g_if_lt C 14 dX8_putLong_1 (by decide) (fun c1 => ?_) (fun c1 => ?_)
  · have h := h.1 c1
    exact g_vret C dX8_putLong_14 h
  · have h := h.2 c1
    refine g_iload_n C dX8_putLong_4 rfl ?_
    refine g_aload_n C dX8_putLong_5 rfl ?_
    refine g_alen C ⟨h0.1, h0.2.1, by rw [h0.2.2]; decide⟩ dX8_putLong_6 ?_
    refine g_icmp_ge C 14 dX8_putLong_7 (by decide) (fun c7 => ?_) (fun c7 => ?_)
    · have h := h.1 c7
      exact g_vret C dX8_putLong_14 h
    · have h := h.2 c7
      refine g_aload_n C dX8_putLong_10 rfl ?_
      refine g_iload_n C dX8_putLong_11 rfl ?_
      refine g_lload_n C dX8_putLong_12 rfl ?_
      refine g_last C h0 h.1 dX8_putLong_13 (fun σ1 e_σ1 => ?_)
      have h := h.2 σ1 e_σ1
      exact g_vret C dX8_putLong_14 h
def rm_X8_isSet : Room := { frames := 0, cells := 0, slots := 0, locals := 0 }
def wp_X8_isSet (a0 : Nat) (a1 : Int32) (σ : Sg) (Q : Int32 → Sg → Prop) : Prop :=
  ((a1 < (nI 0) → Q (nI 0) σ) ∧ (¬ a1 < (nI 0) → (((nI (aN a0)) ≤ a1 → Q (nI 0) σ) ∧ (¬ (nI (aN a0)) ≤ a1 → vp_in a1 (aN a0) ∧ ((((gA σ a0 (Int32.toNatClampNeg a1)) = (nI 0) → Q (nI 0) σ) ∧ (¬ (gA σ a0 (Int32.toNatClampNeg a1)) = (nI 0) → Q (nI 1) σ)))))))
set_option maxHeartbeats 4000000 in
set_option maxRecDepth 100000 in
theorem c_X8_isSet (l : Launch) (D : va_G) (cy : Nat → ClassId) (ad : Nat → Nat) (b0 : Nat) (hA : AdOk ad b0) (a0 : Nat) (a1 : Int32) (h0 : 11 ≤ a0 ∧ a0 < NW ∧ aK a0 = 1) : Cti l D cy ad b0 yX8_isSet cX8_isSet 2 (some .boolean) rm_X8_isSet [.ref (ad a0), .int a1] (fun σ Q => wp_X8_isSet a0 a1 σ Q) := by
  intro σ Q h
  refine g_enter hA rfl (Nat.le_of_ble_eq_true rfl) [some (.ref (ad a0)), some (.int a1)] rfl ?_
  intro p e s m args below meth c C
  refine g_iload_n C dX8_isSet_0 rfl ?_
  refine g_if_lt C 20 dX8_isSet_1 (by decide) (fun c1 => ?_) (fun c1 => ?_)
  · have h := h.1 c1
    refine g_iconst C dX8_isSet_20 kc_0 ?_
    exact g_zret C (narrow_bl bl_0) dX8_isSet_21 h
  · have h := h.2 c1
    refine g_iload_n C dX8_isSet_4 rfl ?_
    refine g_aload_n C dX8_isSet_5 rfl ?_
    refine g_alen C ⟨h0.1, h0.2.1, by rw [h0.2.2]; decide⟩ dX8_isSet_6 ?_
    refine g_icmp_ge C 20 dX8_isSet_7 (by decide) (fun c7 => ?_) (fun c7 => ?_)
    · have h := h.1 c7
      refine g_iconst C dX8_isSet_20 kc_0 ?_
      exact g_zret C (narrow_bl bl_0) dX8_isSet_21 h
    · have h := h.2 c7
      refine g_aload_n C dX8_isSet_10 rfl ?_
      refine g_iload_n C dX8_isSet_11 rfl ?_
      refine g_zald C h0 h.1 dX8_isSet_12 ?_
      have h := h.2
      refine g_if_eq C 20 dX8_isSet_13 (by decide) (fun c13 => ?_) (fun c13 => ?_)
      · have h := h.1 c13
        refine g_iconst C dX8_isSet_20 kc_0 ?_
        exact g_zret C (narrow_bl bl_0) dX8_isSet_21 h
      · have h := h.2 c13
        refine g_iconst C dX8_isSet_16 kc_1 ?_
        refine g_goto C 21 dX8_isSet_17 (by decide) ?_
        exact g_zret C (narrow_bl bl_1) dX8_isSet_21 h
def rm_X8_set : Room := { frames := 0, cells := 0, slots := 0, locals := 0 }
def wp_X8_set (a0 : Nat) (a1 : Int32) (a2 : Int32) (σ : Sg) (Q : Sg → Prop) : Prop :=
  ((a1 < (nI 0) → Q σ) ∧ (¬ a1 < (nI 0) → (((nI (aN a0)) ≤ a1 → Q σ) ∧ (¬ (nI (aN a0)) ≤ a1 → vp_in a1 (aN a0) ∧ (∀ σ1 : Sg, σ1 = stA σ a0 (Int32.toNatClampNeg a1) (vp_nar .boolean a2) → (Q σ1))))))
set_option maxHeartbeats 4000000 in
set_option maxRecDepth 100000 in
theorem c_X8_set (l : Launch) (D : va_G) (cy : Nat → ClassId) (ad : Nat → Nat) (b0 : Nat) (hA : AdOk ad b0) (a0 : Nat) (a1 : Int32) (a2 : Int32) (h0 : 11 ≤ a0 ∧ a0 < NW ∧ aK a0 = 1) : Ctv l D cy ad b0 yX8_set cX8_set 3 none rm_X8_set [.ref (ad a0), .int a1, .int a2] (fun σ Q => wp_X8_set a0 a1 a2 σ Q) := by
  intro σ Q h
  refine g_enter hA rfl (Nat.le_of_ble_eq_true rfl) [some (.ref (ad a0)), some (.int a1), some (.int a2)] rfl ?_
  intro p e s m args below meth c C
  refine g_iload_n C dX8_set_0 rfl ?_
  refine g_if_lt C 14 dX8_set_1 (by decide) (fun c1 => ?_) (fun c1 => ?_)
  · have h := h.1 c1
    exact g_vret C dX8_set_14 h
  · have h := h.2 c1
    refine g_iload_n C dX8_set_4 rfl ?_
    refine g_aload_n C dX8_set_5 rfl ?_
    refine g_alen C ⟨h0.1, h0.2.1, by rw [h0.2.2]; decide⟩ dX8_set_6 ?_
    refine g_icmp_ge C 14 dX8_set_7 (by decide) (fun c7 => ?_) (fun c7 => ?_)
    · have h := h.1 c7
      exact g_vret C dX8_set_14 h
    · have h := h.2 c7
      refine g_aload_n C dX8_set_10 rfl ?_
      refine g_iload_n C dX8_set_11 rfl ?_
      refine g_iload_n C dX8_set_12 rfl ?_
      refine g_zast C h0 h.1 dX8_set_13 (fun σ1 e_σ1 => ?_)
      have h := h.2 σ1 e_σ1
      exact g_vret C dX8_set_14 h
def rm_X8_hasBit : Room := { frames := 0, cells := 0, slots := 0, locals := 0 }
def wp_X8_hasBit (a0 : Int64) (a1 : Int32) (σ : Sg) (Q : Int32 → Sg → Prop) : Prop :=
  ((¬ (lg_cmp ((lUSHR a0 a1) &&& (lN 1)) (lN 1)) = (nI 0) → Q (nI 0) σ) ∧ ((lg_cmp ((lUSHR a0 a1) &&& (lN 1)) (lN 1)) = (nI 0) → Q (nI 1) σ))
set_option maxHeartbeats 4000000 in
set_option maxRecDepth 100000 in
theorem c_X8_hasBit (l : Launch) (D : va_G) (cy : Nat → ClassId) (ad : Nat → Nat) (b0 : Nat) (hA : AdOk ad b0) (a0 : Int64) (a1 : Int32) : Cti l D cy ad b0 yX8_hasBit cX8_hasBit 3 (some .boolean) rm_X8_hasBit [.long a0, .int a1] (fun σ Q => wp_X8_hasBit a0 a1 σ Q) := by
  intro σ Q h
  refine g_enter hA rfl (Nat.le_of_ble_eq_true rfl) [some (.long a0), none, some (.int a1)] rfl ?_
  intro p e s m args below meth c C
  refine g_lload_n C dX8_hasBit_0 rfl ?_
  refine g_iload_n C dX8_hasBit_1 rfl ?_
  refine g_lushr C dX8_hasBit_2 ?_
  refine g_lconst C dX8_hasBit_3 kl_1 ?_
  refine g_land C dX8_hasBit_4 ?_
  refine g_lconst C dX8_hasBit_5 kl_1 ?_
  refine g_lcmp C dX8_hasBit_6 ?_
  refine g_if_ne C 14 dX8_hasBit_7 (by decide) (fun c7 => ?_) (fun c7 => ?_)
  · have h := h.1 c7
    refine g_iconst C dX8_hasBit_14 kc_0 ?_
    exact g_zret C (narrow_bl bl_0) dX8_hasBit_15 h
  · have h := h.2 c7
    refine g_iconst C dX8_hasBit_10 kc_1 ?_
    refine g_goto C 15 dX8_hasBit_11 (by decide) ?_
    exact g_zret C (narrow_bl bl_1) dX8_hasBit_15 h
def rm_X8_isEvent : Room := { frames := 0, cells := 0, slots := 0, locals := 0 }
def wp_X8_isEvent (a0 : Int32) (σ : Sg) (Q : Int32 → Sg → Prop) : Prop :=
  ((a0 < (nI 0) → Q (nI 0) σ) ∧ (¬ a0 < (nI 0) → (((nI 4) ≤ a0 → Q (nI 0) σ) ∧ (¬ (nI 4) ≤ a0 → Q (nI 1) σ))))
set_option maxHeartbeats 4000000 in
set_option maxRecDepth 100000 in
theorem c_X8_isEvent (l : Launch) (D : va_G) (cy : Nat → ClassId) (ad : Nat → Nat) (b0 : Nat) (hA : AdOk ad b0) (a0 : Int32) : Cti l D cy ad b0 yX8_isEvent cX8_isEvent 1 (some .boolean) rm_X8_isEvent [.int a0] (fun σ Q => wp_X8_isEvent a0 σ Q) := by
  intro σ Q h
  refine g_enter hA rfl (Nat.le_of_ble_eq_true rfl) [some (.int a0)] rfl ?_
  intro p e s m args below meth c C
  refine g_iload_n C dX8_isEvent_0 rfl ?_
  refine g_if_lt C 13 dX8_isEvent_1 (by decide) (fun c1 => ?_) (fun c1 => ?_)
  · have h := h.1 c1
    refine g_iconst C dX8_isEvent_13 kc_0 ?_
    exact g_zret C (narrow_bl bl_0) dX8_isEvent_14 h
  · have h := h.2 c1
    refine g_iload_n C dX8_isEvent_4 rfl ?_
    refine g_iconst C dX8_isEvent_5 kc_4 ?_
    refine g_icmp_ge C 13 dX8_isEvent_6 (by decide) (fun c6 => ?_) (fun c6 => ?_)
    · have h := h.1 c6
      refine g_iconst C dX8_isEvent_13 kc_0 ?_
      exact g_zret C (narrow_bl bl_0) dX8_isEvent_14 h
    · have h := h.2 c6
      refine g_iconst C dX8_isEvent_9 kc_1 ?_
      refine g_goto C 14 dX8_isEvent_10 (by decide) ?_
      exact g_zret C (narrow_bl bl_1) dX8_isEvent_14 h
def rm_X8_isVerdict : Room := { frames := 0, cells := 0, slots := 0, locals := 0 }
def wp_X8_isVerdict (a0 : Int32) (σ : Sg) (Q : Int32 → Sg → Prop) : Prop :=
  ((a0 < (nI 0) → Q (nI 0) σ) ∧ (¬ a0 < (nI 0) → (((nI 4) ≤ a0 → Q (nI 0) σ) ∧ (¬ (nI 4) ≤ a0 → Q (nI 1) σ))))
set_option maxHeartbeats 4000000 in
set_option maxRecDepth 100000 in
theorem c_X8_isVerdict (l : Launch) (D : va_G) (cy : Nat → ClassId) (ad : Nat → Nat) (b0 : Nat) (hA : AdOk ad b0) (a0 : Int32) : Cti l D cy ad b0 yX8_isVerdict cX8_isVerdict 1 (some .boolean) rm_X8_isVerdict [.int a0] (fun σ Q => wp_X8_isVerdict a0 σ Q) := by
  intro σ Q h
  refine g_enter hA rfl (Nat.le_of_ble_eq_true rfl) [some (.int a0)] rfl ?_
  intro p e s m args below meth c C
  refine g_iload_n C dX8_isVerdict_0 rfl ?_
  refine g_if_lt C 13 dX8_isVerdict_1 (by decide) (fun c1 => ?_) (fun c1 => ?_)
  · have h := h.1 c1
    refine g_iconst C dX8_isVerdict_13 kc_0 ?_
    exact g_zret C (narrow_bl bl_0) dX8_isVerdict_14 h
  · have h := h.2 c1
    refine g_iload_n C dX8_isVerdict_4 rfl ?_
    refine g_iconst C dX8_isVerdict_5 kc_4 ?_
    refine g_icmp_ge C 13 dX8_isVerdict_6 (by decide) (fun c6 => ?_) (fun c6 => ?_)
    · have h := h.1 c6
      refine g_iconst C dX8_isVerdict_13 kc_0 ?_
      exact g_zret C (narrow_bl bl_0) dX8_isVerdict_14 h
    · have h := h.2 c6
      refine g_iconst C dX8_isVerdict_9 kc_1 ?_
      refine g_goto C 14 dX8_isVerdict_10 (by decide) ?_
      exact g_zret C (narrow_bl bl_1) dX8_isVerdict_14 h
def rm_X8_isKey : Room := { frames := 0, cells := 0, slots := 0, locals := 0 }
def wp_X8_isKey (a0 : Int32) (σ : Sg) (Q : Int32 → Sg → Prop) : Prop :=
  ((a0 < (nI 0) → Q (nI 0) σ) ∧ (¬ a0 < (nI 0) → (((nI 16) ≤ a0 → Q (nI 0) σ) ∧ (¬ (nI 16) ≤ a0 → Q (nI 1) σ))))
set_option maxHeartbeats 4000000 in
set_option maxRecDepth 100000 in
theorem c_X8_isKey (l : Launch) (D : va_G) (cy : Nat → ClassId) (ad : Nat → Nat) (b0 : Nat) (hA : AdOk ad b0) (a0 : Int32) : Cti l D cy ad b0 yX8_isKey cX8_isKey 1 (some .boolean) rm_X8_isKey [.int a0] (fun σ Q => wp_X8_isKey a0 σ Q) := by
  intro σ Q h
  refine g_enter hA rfl (Nat.le_of_ble_eq_true rfl) [some (.int a0)] rfl ?_
  intro p e s m args below meth c C
  refine g_iload_n C dX8_isKey_0 rfl ?_
  refine g_if_lt C 14 dX8_isKey_1 (by decide) (fun c1 => ?_) (fun c1 => ?_)
  · have h := h.1 c1
    refine g_iconst C dX8_isKey_14 kc_0 ?_
    exact g_zret C (narrow_bl bl_0) dX8_isKey_15 h
  · have h := h.2 c1
    refine g_iload_n C dX8_isKey_4 rfl ?_
    refine g_bipush C dX8_isKey_5 kb_16 ?_
    refine g_icmp_ge C 14 dX8_isKey_7 (by decide) (fun c7 => ?_) (fun c7 => ?_)
    · have h := h.1 c7
      refine g_iconst C dX8_isKey_14 kc_0 ?_
      exact g_zret C (narrow_bl bl_0) dX8_isKey_15 h
    · have h := h.2 c7
      refine g_iconst C dX8_isKey_10 kc_1 ?_
      refine g_goto C 15 dX8_isKey_11 (by decide) ?_
      exact g_zret C (narrow_bl bl_1) dX8_isKey_15 h
def rm_X8_isRow : Room := { frames := 0, cells := 0, slots := 0, locals := 0 }
def wp_X8_isRow (a0 : Int32) (σ : Sg) (Q : Int32 → Sg → Prop) : Prop :=
  ((a0 < (nI 0) → Q (nI 0) σ) ∧ (¬ a0 < (nI 0) → (((nI 25) < a0 → Q (nI 0) σ) ∧ (¬ (nI 25) < a0 → Q (nI 1) σ))))
set_option maxHeartbeats 4000000 in
set_option maxRecDepth 100000 in
theorem c_X8_isRow (l : Launch) (D : va_G) (cy : Nat → ClassId) (ad : Nat → Nat) (b0 : Nat) (hA : AdOk ad b0) (a0 : Int32) : Cti l D cy ad b0 yX8_isRow cX8_isRow 1 (some .boolean) rm_X8_isRow [.int a0] (fun σ Q => wp_X8_isRow a0 σ Q) := by
  intro σ Q h
  refine g_enter hA rfl (Nat.le_of_ble_eq_true rfl) [some (.int a0)] rfl ?_
  intro p e s m args below meth c C
  refine g_iload_n C dX8_isRow_0 rfl ?_
  refine g_if_lt C 14 dX8_isRow_1 (by decide) (fun c1 => ?_) (fun c1 => ?_)
  · have h := h.1 c1
    refine g_iconst C dX8_isRow_14 kc_0 ?_
    exact g_zret C (narrow_bl bl_0) dX8_isRow_15 h
  · have h := h.2 c1
    refine g_iload_n C dX8_isRow_4 rfl ?_
    refine g_bipush C dX8_isRow_5 kb_25 ?_
    refine g_icmp_gt C 14 dX8_isRow_7 (by decide) (fun c7 => ?_) (fun c7 => ?_)
    · have h := h.1 c7
      refine g_iconst C dX8_isRow_14 kc_0 ?_
      exact g_zret C (narrow_bl bl_0) dX8_isRow_15 h
    · have h := h.2 c7
      refine g_iconst C dX8_isRow_10 kc_1 ?_
      refine g_goto C 15 dX8_isRow_11 (by decide) ?_
      exact g_zret C (narrow_bl bl_1) dX8_isRow_15 h
def rm_X8_byteOf : Room := { frames := 0, cells := 0, slots := 0, locals := 0 }
def wp_X8_byteOf (a0 : Int64) (a1 : Int32) (σ : Sg) (Q : Int32 → Sg → Prop) : Prop :=
  Q ((Int64.toInt32 (lUSHR a0 ((nI 8) * a1))) &&& (nI 255)) σ
set_option maxHeartbeats 4000000 in
set_option maxRecDepth 100000 in
theorem c_X8_byteOf (l : Launch) (D : va_G) (cy : Nat → ClassId) (ad : Nat → Nat) (b0 : Nat) (hA : AdOk ad b0) (a0 : Int64) (a1 : Int32) : Cti l D cy ad b0 yX8_byteOf cX8_byteOf 3 (some .int) rm_X8_byteOf [.long a0, .int a1] (fun σ Q => wp_X8_byteOf a0 a1 σ Q) := by
  intro σ Q h
  refine g_enter hA rfl (Nat.le_of_ble_eq_true rfl) [some (.long a0), none, some (.int a1)] rfl ?_
  intro p e s m args below meth c C
  refine g_lload_n C dX8_byteOf_0 rfl ?_
  refine g_bipush C dX8_byteOf_1 kb_8 ?_
  refine g_iload_n C dX8_byteOf_3 rfl ?_
  refine g_imul C dX8_byteOf_4 ?_
  refine g_lushr C dX8_byteOf_5 ?_
  refine g_l2i C dX8_byteOf_6 ?_
  refine g_sipush C dX8_byteOf_7 ks_255 ?_
  refine g_iand C dX8_byteOf_10 ?_
  exact g_iret C dX8_byteOf_11 h
def rm_X8_bytesIn : Room := { frames := 1, cells := 0, slots := 0, locals := 22 }
def wb_X8_bytesIn_2 (v0 : Int64) (v2 : Int32) (K2 : Int32 → Sg → Prop) (Q : Int32 → Sg → Prop) (σ : Sg) : Prop :=
  (((nI 8) ≤ v2 → Q (nI 8) σ) ∧ (¬ (nI 8) ≤ v2 → wp_X8_byteOf v0 v2 σ (fun r1 σ2 => ((¬ r1 = (nI 0) → ∀ x18 : Int32, x18 = v2 + (nI 1) → (K2 x18 σ2)) ∧ (r1 = (nI 0) → Q v2 σ2)))))
set_option maxHeartbeats 4000000 in
set_option maxRecDepth 100000 in
theorem kb_X8_bytesIn_2 {Q : Int32 → Sg → Prop} (C : Cx p s m args meth c D cy ad b0 yX8_bytesIn cX8_bytesIn 3 (some .int)) (v0 : Int64) (v2 : Int32) (K2 : Int32 → Sg → Prop) (hK2 : ∀ (z2 : Int32) (σ : Sg), K2 z2 σ → gI p l e rm_X8_bytesIn s m args below meth c D cy ad b0 Q 3 2 σ [some (.long v0), none, some (.int z2)] []) (σ : Sg) (h : wb_X8_bytesIn_2 v0 v2 K2 Q σ) : gI p l e rm_X8_bytesIn s m args below meth c D cy ad b0 Q 3 2 σ [some (.long v0), none, some (.int v2)] [] := by
  refine g_iload_n C dX8_bytesIn_2 rfl ?_
  refine g_bipush C dX8_bytesIn_3 kb_8 ?_
  refine g_icmp_ge C 24 dX8_bytesIn_5 (by decide) (fun c5 => ?_) (fun c5 => ?_)
  · have h := h.1 c5
    refine g_bipush C dX8_bytesIn_24 kb_8 ?_
    exact g_iret C dX8_bytesIn_26 h
  · have h := h.2 c5
    refine g_lload_n C dX8_bytesIn_8 rfl ?_
    refine g_iload_n C dX8_bytesIn_9 rfl ?_
    refine g_callSi C [.long v0, .int v2] (c_X8_byteOf l D cy ad b0 C.A v0 v2) cal_X8_byteOf mw_191 rfl ⟨Nat.le_of_ble_eq_true rfl, Nat.le_of_ble_eq_true rfl⟩ ⟨rfl, rfl⟩ ⟨Nat.zero_le _, Nat.zero_le _⟩ (Nat.le_of_ble_eq_true rfl) rfl dX8_bytesIn_10 h (fun r1 σ2 h => ?_)
    refine g_if_ne C 18 dX8_bytesIn_13 (by decide) (fun c13 => ?_) (fun c13 => ?_)
    · have h := h.1 c13
      obtain ⟨x18, e_x18⟩ : ∃ v : Int32, v = v2 + (nI 1) := ⟨_, rfl⟩
      have h := h x18 e_x18
      refine g_iinc C [some (.long v0), none, some (.int x18)] dX8_bytesIn_18 rfl e_x18.symm (by decide) rfl ?_
      refine g_goto C 2 dX8_bytesIn_21 (by decide) ?_
      exact hK2 x18 σ2 h
    · have h := h.2 c13
      refine g_iload_n C dX8_bytesIn_16 rfl ?_
      exact g_iret C dX8_bytesIn_17 h
def wl_X8_bytesIn_2 (v0 : Int64) (Q : Int32 → Sg → Prop) : Nat → Int32 → Sg → Prop
  | 0, _, _ => False
  | n + 1, v2, σ => wb_X8_bytesIn_2 v0 v2 (wl_X8_bytesIn_2 v0 Q n) Q σ
set_option maxHeartbeats 4000000 in
set_option maxRecDepth 100000 in
theorem kl_X8_bytesIn_2 {Q : Int32 → Sg → Prop} (C : Cx p s m args meth c D cy ad b0 yX8_bytesIn cX8_bytesIn 3 (some .int)) (v0 : Int64) : ∀ (n : Nat) (v2 : Int32) (σ : Sg), wl_X8_bytesIn_2 v0 Q n v2 σ → gI p l e rm_X8_bytesIn s m args below meth c D cy ad b0 Q 3 2 σ [some (.long v0), none, some (.int v2)] [] := by
  intro n
  induction n with
  | zero => intro v2 σ h; exact False.elim h
  | succ n ih =>
    intro v2 σ h
    exact kb_X8_bytesIn_2 C v0 v2 (wl_X8_bytesIn_2 v0 Q n) (fun z2 σ h => ih z2 σ h) σ h
def wp_X8_bytesIn (a0 : Int64) (σ : Sg) (Q : Int32 → Sg → Prop) : Prop :=
  ∃ n, wl_X8_bytesIn_2 a0 Q n (nI 0) σ
set_option maxHeartbeats 4000000 in
set_option maxRecDepth 100000 in
theorem c_X8_bytesIn (l : Launch) (D : va_G) (cy : Nat → ClassId) (ad : Nat → Nat) (b0 : Nat) (hA : AdOk ad b0) (a0 : Int64) : Cti l D cy ad b0 yX8_bytesIn cX8_bytesIn 3 (some .int) rm_X8_bytesIn [.long a0] (fun σ Q => wp_X8_bytesIn a0 σ Q) := by
  intro σ Q h
  refine g_enter hA rfl (Nat.le_of_ble_eq_true rfl) [some (.long a0), none, none] rfl ?_
  intro p e s m args below meth c C
  refine g_iconst C dX8_bytesIn_0 kc_0 ?_
  refine g_istore_n C [some (.long a0), none, some (.int (nI 0))] dX8_bytesIn_1 (by decide) rfl ?_
  obtain ⟨n, h⟩ := h
  exact kl_X8_bytesIn_2 C a0 n (nI 0) σ h
end
