section
variable {p : Program} {l : Launch} {e : Env} {s : State} {m : MethodId} {args : Array Value} {below : List Frame} {meth : Method} {c : Code} {D : va_G} {cy : Nat → ClassId} {ad : Nat → Nat} {b0 : Nat}
def rm_X9_spread : Room := { frames := 0, cells := 0, slots := 0, locals := 0 }
def wp_X9_spread_123 (v2 : Int32) (v3 : Int32) (K42 : Int32 → Int32 → Sg → Prop) (Q : Sg → Prop) (σ : Sg) : Prop :=
  ∀ x123 : Int32, x123 = v3 + (nI 1) → (K42 v2 x123 σ)
set_option maxHeartbeats 4000000 in
set_option maxRecDepth 100000 in
theorem k_X9_spread_123 {Q : Sg → Prop} (C : Cx p s m args meth c D cy ad b0 yX9_spread cX9_spread 6 none) (v2 : Int32) (v3 : Int32) (K42 : Int32 → Int32 → Sg → Prop) (hK42 : ∀ (z2 : Int32) (z3 : Int32) (σ : Sg), K42 z2 z3 σ → gV p l e rm_X9_spread s m args below meth c D cy ad b0 Q 6 42 σ [some (.ref (ad 10)), none, some (.int z2), some (.int z3), none, none] []) (σ : Sg) (h : wp_X9_spread_123 v2 v3 K42 Q σ) : gV p l e rm_X9_spread s m args below meth c D cy ad b0 Q 6 123 σ [some (.ref (ad 10)), none, some (.int v2), some (.int v3), none, none] [] := by
  obtain ⟨x123, e_x123⟩ : ∃ v : Int32, v = v3 + (nI 1) := ⟨_, rfl⟩
  have h := h x123 e_x123
  refine g_iinc C [some (.ref (ad 10)), none, some (.int v2), some (.int x123), none, none] dX9_spread_123 rfl e_x123.symm (by decide) rfl ?_
  refine g_goto C 42 dX9_spread_126 (by decide) ?_
  exact hK42 v2 x123 σ h
def wp_X9_spread_117 (v2 : Int32) (v3 : Int32) (v4 : Int32) (K50 : Int32 → Int32 → Sg → Prop) (Q : Sg → Prop) (σ : Sg) : Prop :=
  ∀ x117 : Int32, x117 = v4 + (nI 1) → (K50 v2 x117 σ)
set_option maxHeartbeats 4000000 in
set_option maxRecDepth 100000 in
theorem k_X9_spread_117 {Q : Sg → Prop} (C : Cx p s m args meth c D cy ad b0 yX9_spread cX9_spread 6 none) (v2 : Int32) (v3 : Int32) (v4 : Int32) (K50 : Int32 → Int32 → Sg → Prop) (hK50 : ∀ (z2 : Int32) (z4 : Int32) (σ : Sg), K50 z2 z4 σ → gV p l e rm_X9_spread s m args below meth c D cy ad b0 Q 6 50 σ [some (.ref (ad 10)), none, some (.int z2), some (.int v3), some (.int z4), none] []) (σ : Sg) (h : wp_X9_spread_117 v2 v3 v4 K50 Q σ) : gV p l e rm_X9_spread s m args below meth c D cy ad b0 Q 6 117 σ [some (.ref (ad 10)), none, some (.int v2), some (.int v3), some (.int v4), none] [] := by
  obtain ⟨x117, e_x117⟩ : ∃ v : Int32, v = v4 + (nI 1) := ⟨_, rfl⟩
  have h := h x117 e_x117
  refine g_iinc C [some (.ref (ad 10)), none, some (.int v2), some (.int v3), some (.int x117), none] dX9_spread_117 rfl e_x117.symm (by decide) rfl ?_
  refine g_goto C 50 dX9_spread_120 (by decide) ?_
  exact hK50 v2 x117 σ h
def wb_X9_spread_50 (v2 : Int32) (v3 : Int32) (v4 : Int32) (K50 : Int32 → Int32 → Sg → Prop) (K123 : Int32 → Sg → Prop) (Q : Sg → Prop) (σ : Sg) : Prop :=
  (((nI 4) ≤ v4 → K123 v2 σ) ∧ (¬ (nI 4) ≤ v4 → vp_in v3 (aN 77) ∧ (vp_in (((nI 4) * (gA σ 77 (Int32.toNatClampNeg v3))) + v4) (aN 71) ∧ (∀ x72 : Int32, x72 = (gA σ 71 (Int32.toNatClampNeg (((nI 4) * (gA σ 77 (Int32.toNatClampNeg v3))) + v4))) → (vp_in x72 (aN 76) ∧ (((¬ (gA σ 76 (Int32.toNatClampNeg x72)) = (-9 : Int32) → wp_X9_spread_117 v2 v3 v4 K50 Q σ) ∧ ((gA σ 76 (Int32.toNatClampNeg x72)) = (-9 : Int32) → vp_in v3 (aN 77) ∧ (vp_in (gA σ 77 (Int32.toNatClampNeg v3)) (aN 76) ∧ (vp_in x72 (aN 76) ∧ (∀ σ1 : Sg, σ1 = stA σ 76 (Int32.toNatClampNeg x72) ((gA σ 76 (Int32.toNatClampNeg (gA σ 77 (Int32.toNatClampNeg v3)))) + (nI 1)) → (vp_in v2 (aN 77) ∧ (∀ σ2 : Sg, σ2 = stA σ1 77 (Int32.toNatClampNeg v2) x72 → (∀ x114 : Int32, x114 = v2 + (nI 1) → (wp_X9_spread_117 x114 v3 v4 K50 Q σ2)))))))))))))))
set_option maxHeartbeats 4000000 in
set_option maxRecDepth 100000 in
theorem kb_X9_spread_50 {Q : Sg → Prop} (C : Cx p s m args meth c D cy ad b0 yX9_spread cX9_spread 6 none) (v2 : Int32) (v3 : Int32) (v4 : Int32) (K50 : Int32 → Int32 → Sg → Prop) (K123 : Int32 → Sg → Prop) (hK50 : ∀ (z2 : Int32) (z4 : Int32) (σ : Sg), K50 z2 z4 σ → gV p l e rm_X9_spread s m args below meth c D cy ad b0 Q 6 50 σ [some (.ref (ad 10)), none, some (.int z2), some (.int v3), some (.int z4), none] []) (hK123 : ∀ (z2 : Int32) (σ : Sg), K123 z2 σ → gV p l e rm_X9_spread s m args below meth c D cy ad b0 Q 6 123 σ [some (.ref (ad 10)), none, some (.int z2), some (.int v3), none, none] []) (σ : Sg) (h : wb_X9_spread_50 v2 v3 v4 K50 K123 Q σ) : gV p l e rm_X9_spread s m args below meth c D cy ad b0 Q 6 50 σ [some (.ref (ad 10)), none, some (.int v2), some (.int v3), some (.int v4), none] [] := by
  refine g_iload C dX9_spread_50 rfl ?_
  refine g_iconst C dX9_spread_52 kc_4 ?_
  refine g_icmp_ge C 123 dX9_spread_53 (by decide) (fun c53 => ?_) (fun c53 => ?_)
  · have h := h.1 c53
    refine g_mask [true, false, true, true, false, false] rfl ?_
    exact hK123 v2 σ h
  · have h := h.2 c53
    refine g_aload_n C dX9_spread_56 rfl ?_
    refine fget_10_40_X9_85 C rfl dX9_spread_57 ?_
    refine g_iconst C dX9_spread_60 kc_4 ?_
    refine g_aload_n C dX9_spread_61 rfl ?_
    refine fget_10_46_X9_103 C rfl dX9_spread_62 ?_
    refine g_iload_n C dX9_spread_65 rfl ?_
    refine g_iald C (by decide) h.1 dX9_spread_66 ?_
    have h := h.2
    refine g_imul C dX9_spread_67 ?_
    refine g_iload C dX9_spread_68 rfl ?_
    refine g_iadd C dX9_spread_70 ?_
    refine g_iald C (by decide) h.1 dX9_spread_71 ?_
    have h := h.2
    refine g_topi (fun x72 e_x72 => ?_)
    have h := h x72 e_x72
    refine g_istore C [some (.ref (ad 10)), none, some (.int v2), some (.int v3), some (.int v4), some (.int x72)] dX9_spread_72 (by decide) rfl ?_
    refine g_aload_n C dX9_spread_74 rfl ?_
    refine fget_10_45_X9_100 C rfl dX9_spread_75 ?_
    refine g_iload C dX9_spread_78 rfl ?_
    refine g_iald C (by decide) h.1 dX9_spread_80 ?_
    have h := h.2
    refine g_bipush C dX9_spread_81 kb_m9 ?_
    refine g_icmp_ne C 117 dX9_spread_83 (by decide) (fun c83 => ?_) (fun c83 => ?_)
    · have h := h.1 c83
      refine g_mask [true, false, true, true, true, false] rfl ?_
      exact k_X9_spread_117 C v2 v3 v4 K50 hK50 σ h
    · have h := h.2 c83
      refine g_aload_n C dX9_spread_86 rfl ?_
      refine fget_10_45_X9_100 C rfl dX9_spread_87 ?_
      refine g_iload C dX9_spread_90 rfl ?_
      refine g_aload_n C dX9_spread_92 rfl ?_
      refine fget_10_45_X9_100 C rfl dX9_spread_93 ?_
      refine g_aload_n C dX9_spread_96 rfl ?_
      refine fget_10_46_X9_103 C rfl dX9_spread_97 ?_
      refine g_iload_n C dX9_spread_100 rfl ?_
      refine g_iald C (by decide) h.1 dX9_spread_101 ?_
      have h := h.2
      refine g_iald C (by decide) h.1 dX9_spread_102 ?_
      have h := h.2
      refine g_iconst C dX9_spread_103 kc_1 ?_
      refine g_iadd C dX9_spread_104 ?_
      refine g_iast C (by decide) h.1 dX9_spread_105 (fun σ1 e_σ1 => ?_)
      have h := h.2 σ1 e_σ1
      refine g_aload_n C dX9_spread_106 rfl ?_
      refine fget_10_46_X9_103 C rfl dX9_spread_107 ?_
      refine g_iload_n C dX9_spread_110 rfl ?_
      refine g_iload C dX9_spread_111 rfl ?_
      refine g_iast C (by decide) h.1 dX9_spread_113 (fun σ2 e_σ2 => ?_)
      have h := h.2 σ2 e_σ2
      obtain ⟨x114, e_x114⟩ : ∃ v : Int32, v = v2 + (nI 1) := ⟨_, rfl⟩
      have h := h x114 e_x114
      refine g_iinc C [some (.ref (ad 10)), none, some (.int x114), some (.int v3), some (.int v4), some (.int x72)] dX9_spread_114 rfl e_x114.symm (by decide) rfl ?_
      refine g_mask [true, false, true, true, true, false] rfl ?_
      exact k_X9_spread_117 C x114 v3 v4 K50 hK50 σ2 h
def wl_X9_spread_50 (v3 : Int32) (K123 : Int32 → Sg → Prop) (Q : Sg → Prop) : Nat → Int32 → Int32 → Sg → Prop
  | 0, _, _, _ => False
  | n + 1, v2, v4, σ => wb_X9_spread_50 v2 v3 v4 (wl_X9_spread_50 v3 K123 Q n) K123 Q σ
set_option maxHeartbeats 4000000 in
set_option maxRecDepth 100000 in
theorem kl_X9_spread_50 {Q : Sg → Prop} (C : Cx p s m args meth c D cy ad b0 yX9_spread cX9_spread 6 none) (v3 : Int32) (K123 : Int32 → Sg → Prop) (hK123 : ∀ (z2 : Int32) (σ : Sg), K123 z2 σ → gV p l e rm_X9_spread s m args below meth c D cy ad b0 Q 6 123 σ [some (.ref (ad 10)), none, some (.int z2), some (.int v3), none, none] []) : ∀ (n : Nat) (v2 : Int32) (v4 : Int32) (σ : Sg), wl_X9_spread_50 v3 K123 Q n v2 v4 σ → gV p l e rm_X9_spread s m args below meth c D cy ad b0 Q 6 50 σ [some (.ref (ad 10)), none, some (.int v2), some (.int v3), some (.int v4), none] [] := by
  intro n
  induction n with
  | zero => intro v2 v4 σ h; exact False.elim h
  | succ n ih =>
    intro v2 v4 σ h
    exact kb_X9_spread_50 C v2 v3 v4 (wl_X9_spread_50 v3 K123 Q n) K123 (fun z2 z4 σ h => ih z2 z4 σ h) hK123 σ h
def wb_X9_spread_42 (v2 : Int32) (v3 : Int32) (K42 : Int32 → Int32 → Sg → Prop) (Q : Sg → Prop) (σ : Sg) : Prop :=
  ((v2 ≤ v3 → Q σ) ∧ (¬ v2 ≤ v3 → ∃ n, wl_X9_spread_50 v3 (fun z2 σ9 => wp_X9_spread_123 z2 v3 K42 Q σ9) Q n v2 (nI 0) σ))
set_option maxHeartbeats 4000000 in
set_option maxRecDepth 100000 in
theorem kb_X9_spread_42 {Q : Sg → Prop} (C : Cx p s m args meth c D cy ad b0 yX9_spread cX9_spread 6 none) (v2 : Int32) (v3 : Int32) (K42 : Int32 → Int32 → Sg → Prop) (hK42 : ∀ (z2 : Int32) (z3 : Int32) (σ : Sg), K42 z2 z3 σ → gV p l e rm_X9_spread s m args below meth c D cy ad b0 Q 6 42 σ [some (.ref (ad 10)), none, some (.int z2), some (.int z3), none, none] []) (σ : Sg) (h : wb_X9_spread_42 v2 v3 K42 Q σ) : gV p l e rm_X9_spread s m args below meth c D cy ad b0 Q 6 42 σ [some (.ref (ad 10)), none, some (.int v2), some (.int v3), none, none] [] := by
  refine g_iload_n C dX9_spread_42 rfl ?_
  refine g_iload_n C dX9_spread_43 rfl ?_
  refine g_icmp_ge C 129 dX9_spread_44 (by decide) (fun c44 => ?_) (fun c44 => ?_)
  · have h := h.1 c44
    exact g_vret C dX9_spread_129 h
  · have h := h.2 c44
    refine g_iconst C dX9_spread_47 kc_0 ?_
    refine g_istore C [some (.ref (ad 10)), none, some (.int v2), some (.int v3), some (.int (nI 0)), none] dX9_spread_48 (by decide) rfl ?_
    obtain ⟨n, h⟩ := h
    exact kl_X9_spread_50 C v3 _ (fun z2 σ9 h => by exact k_X9_spread_123 C z2 v3 K42 hK42 σ9 h) n v2 (nI 0) σ h
def wl_X9_spread_42 (Q : Sg → Prop) : Nat → Int32 → Int32 → Sg → Prop
  | 0, _, _, _ => False
  | n + 1, v2, v3, σ => wb_X9_spread_42 v2 v3 (wl_X9_spread_42 Q n) Q σ
set_option maxHeartbeats 4000000 in
set_option maxRecDepth 100000 in
theorem kl_X9_spread_42 {Q : Sg → Prop} (C : Cx p s m args meth c D cy ad b0 yX9_spread cX9_spread 6 none) : ∀ (n : Nat) (v2 : Int32) (v3 : Int32) (σ : Sg), wl_X9_spread_42 Q n v2 v3 σ → gV p l e rm_X9_spread s m args below meth c D cy ad b0 Q 6 42 σ [some (.ref (ad 10)), none, some (.int v2), some (.int v3), none, none] [] := by
  intro n
  induction n with
  | zero => intro v2 v3 σ h; exact False.elim h
  | succ n ih =>
    intro v2 v3 σ h
    exact kb_X9_spread_42 C v2 v3 (wl_X9_spread_42 Q n) (fun z2 z3 σ h => ih z2 z3 σ h) σ h
def wp_X9_spread_24 (v1 : Int32) (Q : Sg → Prop) (σ : Sg) : Prop :=
  vp_in v1 (aN 76) ∧ (∀ σ1 : Sg, σ1 = stA σ 76 (Int32.toNatClampNeg v1) (nI 0) → (vp_in (nI 0) (aN 77) ∧ (∀ σ2 : Sg, σ2 = stA σ1 77 (Int32.toNatClampNeg (nI 0)) v1 → (∃ n, wl_X9_spread_42 Q n (nI 1) (nI 0) σ2))))
set_option maxHeartbeats 4000000 in
set_option maxRecDepth 100000 in
theorem k_X9_spread_24 {Q : Sg → Prop} (C : Cx p s m args meth c D cy ad b0 yX9_spread cX9_spread 6 none) (v1 : Int32) (σ : Sg) (h : wp_X9_spread_24 v1 Q σ) : gV p l e rm_X9_spread s m args below meth c D cy ad b0 Q 6 24 σ [some (.ref (ad 10)), some (.int v1), none, none, none, none] [] := by
  refine g_aload_n C dX9_spread_24 rfl ?_
  refine fget_10_45_X9_100 C rfl dX9_spread_25 ?_
  refine g_iload_n C dX9_spread_28 rfl ?_
  refine g_iconst C dX9_spread_29 kc_0 ?_
  refine g_iast C (by decide) h.1 dX9_spread_30 (fun σ1 e_σ1 => ?_)
  have h := h.2 σ1 e_σ1
  refine g_aload_n C dX9_spread_31 rfl ?_
  refine fget_10_46_X9_103 C rfl dX9_spread_32 ?_
  refine g_iconst C dX9_spread_35 kc_0 ?_
  refine g_iload_n C dX9_spread_36 rfl ?_
  refine g_iast C (by decide) h.1 dX9_spread_37 (fun σ2 e_σ2 => ?_)
  have h := h.2 σ2 e_σ2
  refine g_iconst C dX9_spread_38 kc_1 ?_
  refine g_istore_n C [some (.ref (ad 10)), some (.int v1), some (.int (nI 1)), none, none, none] dX9_spread_39 (by decide) rfl ?_
  refine g_iconst C dX9_spread_40 kc_0 ?_
  refine g_istore_n C [some (.ref (ad 10)), some (.int v1), some (.int (nI 1)), some (.int (nI 0)), none, none] dX9_spread_41 (by decide) rfl ?_
  refine g_mask [true, false, true, true, false, false] rfl ?_
  obtain ⟨n, h⟩ := h
  exact kl_X9_spread_42 C n (nI 1) (nI 0) σ2 h
def wb_X9_spread_2 (v1 : Int32) (v2 : Int32) (K2 : Int32 → Sg → Prop) (K24 : Sg → Prop) (Q : Sg → Prop) (σ : Sg) : Prop :=
  (((gF σ 10 39) ≤ v2 → K24 σ) ∧ (¬ (gF σ 10 39) ≤ v2 → vp_in v2 (aN 76) ∧ (∀ σ1 : Sg, σ1 = stA σ 76 (Int32.toNatClampNeg v2) (-9 : Int32) → (∀ x18 : Int32, x18 = v2 + (nI 1) → (K2 x18 σ1)))))
set_option maxHeartbeats 4000000 in
set_option maxRecDepth 100000 in
theorem kb_X9_spread_2 {Q : Sg → Prop} (C : Cx p s m args meth c D cy ad b0 yX9_spread cX9_spread 6 none) (v1 : Int32) (v2 : Int32) (K2 : Int32 → Sg → Prop) (K24 : Sg → Prop) (hK2 : ∀ (z2 : Int32) (σ : Sg), K2 z2 σ → gV p l e rm_X9_spread s m args below meth c D cy ad b0 Q 6 2 σ [some (.ref (ad 10)), some (.int v1), some (.int z2), none, none, none] []) (hK24 : ∀  (σ : Sg), K24 σ → gV p l e rm_X9_spread s m args below meth c D cy ad b0 Q 6 24 σ [some (.ref (ad 10)), some (.int v1), none, none, none, none] []) (σ : Sg) (h : wb_X9_spread_2 v1 v2 K2 K24 Q σ) : gV p l e rm_X9_spread s m args below meth c D cy ad b0 Q 6 2 σ [some (.ref (ad 10)), some (.int v1), some (.int v2), none, none, none] [] := by
  refine g_iload_n C dX9_spread_2 rfl ?_
  refine g_aload_n C dX9_spread_3 rfl ?_
  refine fget_10_39_X9_237 C rfl dX9_spread_4 ?_
  refine g_icmp_ge C 24 dX9_spread_7 (by decide) (fun c7 => ?_) (fun c7 => ?_)
  · have h := h.1 c7
    refine g_mask [true, true, false, false, false, false] rfl ?_
    exact hK24 σ h
  · have h := h.2 c7
    refine g_aload_n C dX9_spread_10 rfl ?_
    refine fget_10_45_X9_100 C rfl dX9_spread_11 ?_
    refine g_iload_n C dX9_spread_14 rfl ?_
    refine g_bipush C dX9_spread_15 kb_m9 ?_
    refine g_iast C (by decide) h.1 dX9_spread_17 (fun σ1 e_σ1 => ?_)
    have h := h.2 σ1 e_σ1
    obtain ⟨x18, e_x18⟩ : ∃ v : Int32, v = v2 + (nI 1) := ⟨_, rfl⟩
    have h := h x18 e_x18
    refine g_iinc C [some (.ref (ad 10)), some (.int v1), some (.int x18), none, none, none] dX9_spread_18 rfl e_x18.symm (by decide) rfl ?_
    refine g_goto C 2 dX9_spread_21 (by decide) ?_
    exact hK2 x18 σ1 h
def wl_X9_spread_2 (v1 : Int32) (K24 : Sg → Prop) (Q : Sg → Prop) : Nat → Int32 → Sg → Prop
  | 0, _, _ => False
  | n + 1, v2, σ => wb_X9_spread_2 v1 v2 (wl_X9_spread_2 v1 K24 Q n) K24 Q σ
set_option maxHeartbeats 4000000 in
set_option maxRecDepth 100000 in
theorem kl_X9_spread_2 {Q : Sg → Prop} (C : Cx p s m args meth c D cy ad b0 yX9_spread cX9_spread 6 none) (v1 : Int32) (K24 : Sg → Prop) (hK24 : ∀  (σ : Sg), K24 σ → gV p l e rm_X9_spread s m args below meth c D cy ad b0 Q 6 24 σ [some (.ref (ad 10)), some (.int v1), none, none, none, none] []) : ∀ (n : Nat) (v2 : Int32) (σ : Sg), wl_X9_spread_2 v1 K24 Q n v2 σ → gV p l e rm_X9_spread s m args below meth c D cy ad b0 Q 6 2 σ [some (.ref (ad 10)), some (.int v1), some (.int v2), none, none, none] [] := by
  intro n
  induction n with
  | zero => intro v2 σ h; exact False.elim h
  | succ n ih =>
    intro v2 σ h
    exact kb_X9_spread_2 C v1 v2 (wl_X9_spread_2 v1 K24 Q n) K24 (fun z2 σ h => ih z2 σ h) hK24 σ h
def wp_X9_spread (a0 : Int32) (σ : Sg) (Q : Sg → Prop) : Prop :=
  ∃ n, wl_X9_spread_2 a0 (fun σ9 => wp_X9_spread_24 a0 Q σ9) Q n (nI 0) σ
set_option maxHeartbeats 4000000 in
set_option maxRecDepth 100000 in
theorem c_X9_spread (l : Launch) (D : va_G) (cy : Nat → ClassId) (ad : Nat → Nat) (b0 : Nat) (hA : AdOk ad b0) (a0 : Int32) : Ctv l D cy ad b0 yX9_spread cX9_spread 6 none rm_X9_spread [.ref (ad 10), .int a0] (fun σ Q => wp_X9_spread a0 σ Q) := by
  intro σ Q h
  refine g_enter hA rfl (Nat.le_of_ble_eq_true rfl) [some (.ref (ad 10)), some (.int a0), none, none, none, none] rfl ?_
  intro p e s m args below meth c C
  refine g_iconst C dX9_spread_0 kc_0 ?_
  refine g_istore_n C [some (.ref (ad 10)), some (.int a0), some (.int (nI 0)), none, none, none] dX9_spread_1 (by decide) rfl ?_
  obtain ⟨n, h⟩ := h
  exact kl_X9_spread_2 C a0 _ (fun σ9 h => by exact k_X9_spread_24 C a0 σ9 h) n (nI 0) σ h
def rm_X9_number : Room := { frames := 2, cells := 0, slots := 0, locals := 41 }
def wp_X9_number_292 (v1 : Int32) (s0 : Int32) (s1 : Int32) (K185 : Int32 → Sg → Prop) (Q : Sg → Prop) (σ : Sg) : Prop :=
  vp_in s1 (aN 73) ∧ (∀ σ1 : Sg, σ1 = stA σ 73 (Int32.toNatClampNeg s1) s0 → (∀ x293 : Int32, x293 = v1 + (nI 1) → (K185 x293 σ1)))
set_option maxHeartbeats 4000000 in
set_option maxRecDepth 100000 in
theorem k_X9_number_292 {Q : Sg → Prop} (C : Cx p s m args meth c D cy ad b0 yX9_number cX9_number 5 none) (v1 : Int32) (s0 : Int32) (s1 : Int32) (K185 : Int32 → Sg → Prop) (hK185 : ∀ (z1 : Int32) (σ : Sg), K185 z1 σ → gV p l e rm_X9_number s m args below meth c D cy ad b0 Q 5 185 σ [some (.ref (ad 10)), some (.int z1), none, none, none] []) (σ : Sg) (h : wp_X9_number_292 v1 s0 s1 K185 Q σ) : gV p l e rm_X9_number s m args below meth c D cy ad b0 Q 5 292 σ [some (.ref (ad 10)), some (.int v1), none, none, none] [.int s0, .int s1, .ref (ad 73)] := by
  refine g_iast C (by decide) h.1 dX9_number_292 (fun σ1 e_σ1 => ?_)
  have h := h.2 σ1 e_σ1
  obtain ⟨x293, e_x293⟩ : ∃ v : Int32, v = v1 + (nI 1) := ⟨_, rfl⟩
  have h := h x293 e_x293
  refine g_iinc C [some (.ref (ad 10)), some (.int x293), none, none, none] dX9_number_293 rfl e_x293.symm (by decide) rfl ?_
  refine g_goto C 185 dX9_number_296 (by decide) ?_
  exact hK185 x293 σ1 h
def wp_X9_number_252 (v1 : Int32) (v2 : Int32) (K185 : Int32 → Sg → Prop) (Q : Sg → Prop) (σ : Sg) : Prop :=
  ((v2 = (nI 0) → vp_in v1 (aN 72) ∧ ((((gA σ 72 (Int32.toNatClampNeg v1)) = (nI 0) → wp_X9_number_292 v1 (nI 0) v1 K185 Q σ) ∧ (¬ (gA σ 72 (Int32.toNatClampNeg v1)) = (nI 0) → wp_X9_number_292 v1 (nI 1) v1 K185 Q σ)))) ∧ (¬ v2 = (nI 0) → vp_in v1 (aN 72) ∧ ((((gA σ 72 (Int32.toNatClampNeg v1)) = (nI 0) → wp_X9_number_292 v1 (nI 2) v1 K185 Q σ) ∧ (¬ (gA σ 72 (Int32.toNatClampNeg v1)) = (nI 0) → wp_X9_number_292 v1 (nI 3) v1 K185 Q σ)))))
set_option maxHeartbeats 4000000 in
set_option maxRecDepth 100000 in
theorem k_X9_number_252 {Q : Sg → Prop} (C : Cx p s m args meth c D cy ad b0 yX9_number cX9_number 5 none) (v1 : Int32) (v2 : Int32) (K185 : Int32 → Sg → Prop) (hK185 : ∀ (z1 : Int32) (σ : Sg), K185 z1 σ → gV p l e rm_X9_number s m args below meth c D cy ad b0 Q 5 185 σ [some (.ref (ad 10)), some (.int z1), none, none, none] []) (σ : Sg) (h : wp_X9_number_252 v1 v2 K185 Q σ) : gV p l e rm_X9_number s m args below meth c D cy ad b0 Q 5 252 σ [some (.ref (ad 10)), some (.int v1), some (.int v2), none, none] [] := by
  refine g_aload_n C dX9_number_252 rfl ?_
  refine fget_10_42_X9_91 C rfl dX9_number_253 ?_
  refine g_iload_n C dX9_number_256 rfl ?_
  refine g_iload_n C dX9_number_257 rfl ?_
  refine g_if_eq C 278 dX9_number_258 (by decide) (fun c258 => ?_) (fun c258 => ?_)
  · have h := h.1 c258
    refine g_aload_n C dX9_number_278 rfl ?_
    refine fget_10_41_X9_88 C rfl dX9_number_279 ?_
    refine g_iload_n C dX9_number_282 rfl ?_
    refine g_zald C (by decide) h.1 dX9_number_283 ?_
    have h := h.2
    refine g_if_eq C 291 dX9_number_284 (by decide) (fun c284 => ?_) (fun c284 => ?_)
    · have h := h.1 c284
      refine g_iconst C dX9_number_291 kc_0 ?_
      refine g_mask [true, true, false, false, false] rfl ?_
      exact k_X9_number_292 C v1 (nI 0) v1 K185 hK185 σ h
    · have h := h.2 c284
      refine g_iconst C dX9_number_287 kc_1 ?_
      refine g_goto C 292 dX9_number_288 (by decide) ?_
      refine g_mask [true, true, false, false, false] rfl ?_
      exact k_X9_number_292 C v1 (nI 1) v1 K185 hK185 σ h
  · have h := h.2 c258
    refine g_aload_n C dX9_number_261 rfl ?_
    refine fget_10_41_X9_88 C rfl dX9_number_262 ?_
    refine g_iload_n C dX9_number_265 rfl ?_
    refine g_zald C (by decide) h.1 dX9_number_266 ?_
    have h := h.2
    refine g_if_eq C 274 dX9_number_267 (by decide) (fun c267 => ?_) (fun c267 => ?_)
    · have h := h.1 c267
      refine g_iconst C dX9_number_274 kc_2 ?_
      refine g_goto C 292 dX9_number_275 (by decide) ?_
      refine g_mask [true, true, false, false, false] rfl ?_
      exact k_X9_number_292 C v1 (nI 2) v1 K185 hK185 σ h
    · have h := h.2 c267
      refine g_iconst C dX9_number_270 kc_3 ?_
      refine g_goto C 292 dX9_number_271 (by decide) ?_
      refine g_mask [true, true, false, false, false] rfl ?_
      exact k_X9_number_292 C v1 (nI 3) v1 K185 hK185 σ h
def wp_X9_number_245 (v1 : Int32) (v3 : Int32) (s0 : Int32) (K202 : Int32 → Int32 → Sg → Prop) (Q : Sg → Prop) (σ : Sg) : Prop :=
  ∀ x246 : Int32, x246 = v3 + (nI 1) → (K202 s0 x246 σ)
set_option maxHeartbeats 4000000 in
set_option maxRecDepth 100000 in
theorem k_X9_number_245 {Q : Sg → Prop} (C : Cx p s m args meth c D cy ad b0 yX9_number cX9_number 5 none) (v1 : Int32) (v3 : Int32) (s0 : Int32) (K202 : Int32 → Int32 → Sg → Prop) (hK202 : ∀ (z2 : Int32) (z3 : Int32) (σ : Sg), K202 z2 z3 σ → gV p l e rm_X9_number s m args below meth c D cy ad b0 Q 5 202 σ [some (.ref (ad 10)), some (.int v1), some (.int z2), some (.int z3), none] []) (σ : Sg) (h : wp_X9_number_245 v1 v3 s0 K202 Q σ) : gV p l e rm_X9_number s m args below meth c D cy ad b0 Q 5 245 σ [some (.ref (ad 10)), some (.int v1), none, some (.int v3), none] [.int s0] := by
  refine g_istore_n C [some (.ref (ad 10)), some (.int v1), some (.int s0), some (.int v3), none] dX9_number_245 (by decide) rfl ?_
  obtain ⟨x246, e_x246⟩ : ∃ v : Int32, v = v3 + (nI 1) := ⟨_, rfl⟩
  have h := h x246 e_x246
  refine g_iinc C [some (.ref (ad 10)), some (.int v1), some (.int s0), some (.int x246), none] dX9_number_246 rfl e_x246.symm (by decide) rfl ?_
  refine g_goto C 202 dX9_number_249 (by decide) ?_
  exact hK202 s0 x246 σ h
def wp_X9_number_244 (v1 : Int32) (v3 : Int32) (K202 : Int32 → Int32 → Sg → Prop) (Q : Sg → Prop) (σ : Sg) : Prop :=
  wp_X9_number_245 v1 v3 (nI 0) K202 Q σ
set_option maxHeartbeats 4000000 in
set_option maxRecDepth 100000 in
theorem k_X9_number_244 {Q : Sg → Prop} (C : Cx p s m args meth c D cy ad b0 yX9_number cX9_number 5 none) (v1 : Int32) (v3 : Int32) (K202 : Int32 → Int32 → Sg → Prop) (hK202 : ∀ (z2 : Int32) (z3 : Int32) (σ : Sg), K202 z2 z3 σ → gV p l e rm_X9_number s m args below meth c D cy ad b0 Q 5 202 σ [some (.ref (ad 10)), some (.int v1), some (.int z2), some (.int z3), none] []) (σ : Sg) (h : wp_X9_number_244 v1 v3 K202 Q σ) : gV p l e rm_X9_number s m args below meth c D cy ad b0 Q 5 244 σ [some (.ref (ad 10)), some (.int v1), none, some (.int v3), none] [] := by
  refine g_iconst C dX9_number_244 kc_0 ?_
  exact k_X9_number_245 C v1 v3 (nI 0) K202 hK202 σ h
def wp_X9_number_240 (v1 : Int32) (v3 : Int32) (K202 : Int32 → Int32 → Sg → Prop) (Q : Sg → Prop) (σ : Sg) : Prop :=
  wp_X9_number_245 v1 v3 (nI 1) K202 Q σ
set_option maxHeartbeats 4000000 in
set_option maxRecDepth 100000 in
theorem k_X9_number_240 {Q : Sg → Prop} (C : Cx p s m args meth c D cy ad b0 yX9_number cX9_number 5 none) (v1 : Int32) (v3 : Int32) (K202 : Int32 → Int32 → Sg → Prop) (hK202 : ∀ (z2 : Int32) (z3 : Int32) (σ : Sg), K202 z2 z3 σ → gV p l e rm_X9_number s m args below meth c D cy ad b0 Q 5 202 σ [some (.ref (ad 10)), some (.int v1), some (.int z2), some (.int z3), none] []) (σ : Sg) (h : wp_X9_number_240 v1 v3 K202 Q σ) : gV p l e rm_X9_number s m args below meth c D cy ad b0 Q 5 240 σ [some (.ref (ad 10)), some (.int v1), none, some (.int v3), none] [] := by
  refine g_iconst C dX9_number_240 kc_1 ?_
  refine g_goto C 245 dX9_number_241 (by decide) ?_
  exact k_X9_number_245 C v1 v3 (nI 1) K202 hK202 σ h
def wb_X9_number_202 (v1 : Int32) (v2 : Int32) (v3 : Int32) (K202 : Int32 → Int32 → Sg → Prop) (K252 : Int32 → Sg → Prop) (Q : Sg → Prop) (σ : Sg) : Prop :=
  (((gF σ 10 39) ≤ v3 → K252 v2 σ) ∧ (¬ (gF σ 10 39) ≤ v3 → ((v2 = (nI 0) → wp_X9_number_244 v1 v3 K202 Q σ) ∧ (¬ v2 = (nI 0) → vp_in v3 (aN 76) ∧ ((((gA σ 76 (Int32.toNatClampNeg v3)) = (-9 : Int32) → wp_X9_number_240 v1 v3 K202 Q σ) ∧ (¬ (gA σ 76 (Int32.toNatClampNeg v3)) = (-9 : Int32) → vp_in v3 (aN 72) ∧ (vp_in v1 (aN 72) ∧ (((¬ (gA σ 72 (Int32.toNatClampNeg v3)) = (gA σ 72 (Int32.toNatClampNeg v1)) → wp_X9_number_244 v1 v3 K202 Q σ) ∧ ((gA σ 72 (Int32.toNatClampNeg v3)) = (gA σ 72 (Int32.toNatClampNeg v1)) → wp_X9_number_240 v1 v3 K202 Q σ)))))))))))
set_option maxHeartbeats 4000000 in
set_option maxRecDepth 100000 in
theorem kb_X9_number_202 {Q : Sg → Prop} (C : Cx p s m args meth c D cy ad b0 yX9_number cX9_number 5 none) (v1 : Int32) (v2 : Int32) (v3 : Int32) (K202 : Int32 → Int32 → Sg → Prop) (K252 : Int32 → Sg → Prop) (hK202 : ∀ (z2 : Int32) (z3 : Int32) (σ : Sg), K202 z2 z3 σ → gV p l e rm_X9_number s m args below meth c D cy ad b0 Q 5 202 σ [some (.ref (ad 10)), some (.int v1), some (.int z2), some (.int z3), none] []) (hK252 : ∀ (z2 : Int32) (σ : Sg), K252 z2 σ → gV p l e rm_X9_number s m args below meth c D cy ad b0 Q 5 252 σ [some (.ref (ad 10)), some (.int v1), some (.int z2), none, none] []) (σ : Sg) (h : wb_X9_number_202 v1 v2 v3 K202 K252 Q σ) : gV p l e rm_X9_number s m args below meth c D cy ad b0 Q 5 202 σ [some (.ref (ad 10)), some (.int v1), some (.int v2), some (.int v3), none] [] := by
  refine g_iload_n C dX9_number_202 rfl ?_
  refine g_aload_n C dX9_number_203 rfl ?_
  refine fget_10_39_X9_237 C rfl dX9_number_204 ?_
  refine g_icmp_ge C 252 dX9_number_207 (by decide) (fun c207 => ?_) (fun c207 => ?_)
  · have h := h.1 c207
    refine g_mask [true, true, true, false, false] rfl ?_
    exact hK252 v2 σ h
  · have h := h.2 c207
    refine g_iload_n C dX9_number_210 rfl ?_
    refine g_if_eq C 244 dX9_number_211 (by decide) (fun c211 => ?_) (fun c211 => ?_)
    · have h := h.1 c211
      refine g_mask [true, true, false, true, false] rfl ?_
      exact k_X9_number_244 C v1 v3 K202 hK202 σ h
    · have h := h.2 c211
      refine g_aload_n C dX9_number_214 rfl ?_
      refine fget_10_45_X9_100 C rfl dX9_number_215 ?_
      refine g_iload_n C dX9_number_218 rfl ?_
      refine g_iald C (by decide) h.1 dX9_number_219 ?_
      have h := h.2
      refine g_bipush C dX9_number_220 kb_m9 ?_
      refine g_icmp_eq C 240 dX9_number_222 (by decide) (fun c222 => ?_) (fun c222 => ?_)
      · have h := h.1 c222
        refine g_mask [true, true, false, true, false] rfl ?_
        exact k_X9_number_240 C v1 v3 K202 hK202 σ h
      · have h := h.2 c222
        refine g_aload_n C dX9_number_225 rfl ?_
        refine fget_10_41_X9_88 C rfl dX9_number_226 ?_
        refine g_iload_n C dX9_number_229 rfl ?_
        refine g_zald C (by decide) h.1 dX9_number_230 ?_
        have h := h.2
        refine g_aload_n C dX9_number_231 rfl ?_
        refine fget_10_41_X9_88 C rfl dX9_number_232 ?_
        refine g_iload_n C dX9_number_235 rfl ?_
        refine g_zald C (by decide) h.1 dX9_number_236 ?_
        have h := h.2
        refine g_icmp_ne C 244 dX9_number_237 (by decide) (fun c237 => ?_) (fun c237 => ?_)
        · have h := h.1 c237
          refine g_mask [true, true, false, true, false] rfl ?_
          exact k_X9_number_244 C v1 v3 K202 hK202 σ h
        · have h := h.2 c237
          refine g_mask [true, true, false, true, false] rfl ?_
          exact k_X9_number_240 C v1 v3 K202 hK202 σ h
def wl_X9_number_202 (v1 : Int32) (K252 : Int32 → Sg → Prop) (Q : Sg → Prop) : Nat → Int32 → Int32 → Sg → Prop
  | 0, _, _, _ => False
  | n + 1, v2, v3, σ => wb_X9_number_202 v1 v2 v3 (wl_X9_number_202 v1 K252 Q n) K252 Q σ
set_option maxHeartbeats 4000000 in
set_option maxRecDepth 100000 in
theorem kl_X9_number_202 {Q : Sg → Prop} (C : Cx p s m args meth c D cy ad b0 yX9_number cX9_number 5 none) (v1 : Int32) (K252 : Int32 → Sg → Prop) (hK252 : ∀ (z2 : Int32) (σ : Sg), K252 z2 σ → gV p l e rm_X9_number s m args below meth c D cy ad b0 Q 5 252 σ [some (.ref (ad 10)), some (.int v1), some (.int z2), none, none] []) : ∀ (n : Nat) (v2 : Int32) (v3 : Int32) (σ : Sg), wl_X9_number_202 v1 K252 Q n v2 v3 σ → gV p l e rm_X9_number s m args below meth c D cy ad b0 Q 5 202 σ [some (.ref (ad 10)), some (.int v1), some (.int v2), some (.int v3), none] [] := by
  intro n
  induction n with
  | zero => intro v2 v3 σ h; exact False.elim h
  | succ n ih =>
    intro v2 v3 σ h
    exact kb_X9_number_202 C v1 v2 v3 (wl_X9_number_202 v1 K252 Q n) K252 (fun z2 z3 σ h => ih z2 z3 σ h) hK252 σ h
def wb_X9_number_185 (v1 : Int32) (K185 : Int32 → Sg → Prop) (Q : Sg → Prop) (σ : Sg) : Prop :=
  (((gF σ 10 39) ≤ v1 → Q σ) ∧ (¬ (gF σ 10 39) ≤ v1 → wp_X9_spread v1 σ (fun σ1 => ∃ n, wl_X9_number_202 v1 (fun z2 σ9 => wp_X9_number_252 v1 z2 K185 Q σ9) Q n (nI 1) (nI 0) σ1)))
set_option maxHeartbeats 4000000 in
set_option maxRecDepth 100000 in
theorem kb_X9_number_185 {Q : Sg → Prop} (C : Cx p s m args meth c D cy ad b0 yX9_number cX9_number 5 none) (v1 : Int32) (K185 : Int32 → Sg → Prop) (hK185 : ∀ (z1 : Int32) (σ : Sg), K185 z1 σ → gV p l e rm_X9_number s m args below meth c D cy ad b0 Q 5 185 σ [some (.ref (ad 10)), some (.int z1), none, none, none] []) (σ : Sg) (h : wb_X9_number_185 v1 K185 Q σ) : gV p l e rm_X9_number s m args below meth c D cy ad b0 Q 5 185 σ [some (.ref (ad 10)), some (.int v1), none, none, none] [] := by
  refine g_iload_n C dX9_number_185 rfl ?_
  refine g_aload_n C dX9_number_186 rfl ?_
  refine fget_10_39_X9_237 C rfl dX9_number_187 ?_
  refine g_icmp_ge C 299 dX9_number_190 (by decide) (fun c190 => ?_) (fun c190 => ?_)
  · have h := h.1 c190
    exact g_vret C dX9_number_299 h
  · have h := h.2 c190
    refine g_aload_n C dX9_number_193 rfl ?_
    refine g_iload_n C dX9_number_194 rfl ?_
    refine g_callVv C 10 [.int v1] (c_X9_spread l D cy ad b0 C.A v1) cal_X9_spread mw_630 (by decide) rfl rfl ⟨Nat.le_of_ble_eq_true rfl, Nat.le_of_ble_eq_true rfl⟩ ⟨rfl, rfl⟩ ⟨Nat.zero_le _, Nat.zero_le _⟩ (Nat.le_of_ble_eq_true rfl) rfl dX9_number_195 h (fun σ1 h => ?_)
    refine g_iconst C dX9_number_198 kc_1 ?_
    refine g_istore_n C [some (.ref (ad 10)), some (.int v1), some (.int (nI 1)), none, none] dX9_number_199 (by decide) rfl ?_
    refine g_iconst C dX9_number_200 kc_0 ?_
    refine g_istore_n C [some (.ref (ad 10)), some (.int v1), some (.int (nI 1)), some (.int (nI 0)), none] dX9_number_201 (by decide) rfl ?_
    obtain ⟨n, h⟩ := h
    exact kl_X9_number_202 C v1 _ (fun z2 σ9 h => by exact k_X9_number_252 C v1 z2 K185 hK185 σ9 h) n (nI 1) (nI 0) σ1 h
def wl_X9_number_185 (Q : Sg → Prop) : Nat → Int32 → Sg → Prop
  | 0, _, _ => False
  | n + 1, v1, σ => wb_X9_number_185 v1 (wl_X9_number_185 Q n) Q σ
set_option maxHeartbeats 4000000 in
set_option maxRecDepth 100000 in
theorem kl_X9_number_185 {Q : Sg → Prop} (C : Cx p s m args meth c D cy ad b0 yX9_number cX9_number 5 none) : ∀ (n : Nat) (v1 : Int32) (σ : Sg), wl_X9_number_185 Q n v1 σ → gV p l e rm_X9_number s m args below meth c D cy ad b0 Q 5 185 σ [some (.ref (ad 10)), some (.int v1), none, none, none] [] := by
  intro n
  induction n with
  | zero => intro v1 σ h; exact False.elim h
  | succ n ih =>
    intro v1 σ h
    exact kb_X9_number_185 C v1 (wl_X9_number_185 Q n) (fun z1 σ h => ih z1 σ h) σ h
def wp_X9_number_183 (Q : Sg → Prop) (σ : Sg) : Prop :=
  ∃ n, wl_X9_number_185 Q n (nI 0) σ
set_option maxHeartbeats 4000000 in
set_option maxRecDepth 100000 in
theorem k_X9_number_183 {Q : Sg → Prop} (C : Cx p s m args meth c D cy ad b0 yX9_number cX9_number 5 none) (σ : Sg) (h : wp_X9_number_183 Q σ) : gV p l e rm_X9_number s m args below meth c D cy ad b0 Q 5 183 σ [some (.ref (ad 10)), none, none, none, none] [] := by
  refine g_iconst C dX9_number_183 kc_0 ?_
  refine g_istore_n C [some (.ref (ad 10)), some (.int (nI 0)), none, none, none] dX9_number_184 (by decide) rfl ?_
  obtain ⟨n, h⟩ := h
  exact kl_X9_number_185 C n (nI 0) σ h
def wp_X9_number_177 (v1 : Int32) (K55 : Int32 → Sg → Prop) (Q : Sg → Prop) (σ : Sg) : Prop :=
  ∀ x177 : Int32, x177 = v1 + (nI 1) → (K55 x177 σ)
set_option maxHeartbeats 4000000 in
set_option maxRecDepth 100000 in
theorem k_X9_number_177 {Q : Sg → Prop} (C : Cx p s m args meth c D cy ad b0 yX9_number cX9_number 5 none) (v1 : Int32) (K55 : Int32 → Sg → Prop) (hK55 : ∀ (z1 : Int32) (σ : Sg), K55 z1 σ → gV p l e rm_X9_number s m args below meth c D cy ad b0 Q 5 55 σ [some (.ref (ad 10)), some (.int z1), none, none, none] []) (σ : Sg) (h : wp_X9_number_177 v1 K55 Q σ) : gV p l e rm_X9_number s m args below meth c D cy ad b0 Q 5 177 σ [some (.ref (ad 10)), some (.int v1), none, none, none] [] := by
  obtain ⟨x177, e_x177⟩ : ∃ v : Int32, v = v1 + (nI 1) := ⟨_, rfl⟩
  have h := h x177 e_x177
  refine g_iinc C [some (.ref (ad 10)), some (.int x177), none, none, none] dX9_number_177 rfl e_x177.symm (by decide) rfl ?_
  refine g_goto C 55 dX9_number_180 (by decide) ?_
  exact hK55 x177 σ h
def wp_X9_number_154 (v1 : Int32) (v2 : Int32) (v3 : Int32) (v4 : Int32) (K88 : Int32 → Sg → Prop) (Q : Sg → Prop) (σ : Sg) : Prop :=
  vp_in v4 (aN 74) ∧ (vp_in (((nI 4) * v1) + v3) (aN 71) ∧ (∀ σ1 : Sg, σ1 = stA σ 71 (Int32.toNatClampNeg (((nI 4) * v1) + v3)) (gA σ 74 (Int32.toNatClampNeg v4)) → (∀ x171 : Int32, x171 = v3 + (nI 1) → (K88 x171 σ1))))
set_option maxHeartbeats 4000000 in
set_option maxRecDepth 100000 in
theorem k_X9_number_154 {Q : Sg → Prop} (C : Cx p s m args meth c D cy ad b0 yX9_number cX9_number 5 none) (v1 : Int32) (v2 : Int32) (v3 : Int32) (v4 : Int32) (K88 : Int32 → Sg → Prop) (hK88 : ∀ (z3 : Int32) (σ : Sg), K88 z3 σ → gV p l e rm_X9_number s m args below meth c D cy ad b0 Q 5 88 σ [some (.ref (ad 10)), some (.int v1), some (.int v2), some (.int z3), none] []) (σ : Sg) (h : wp_X9_number_154 v1 v2 v3 v4 K88 Q σ) : gV p l e rm_X9_number s m args below meth c D cy ad b0 Q 5 154 σ [some (.ref (ad 10)), some (.int v1), some (.int v2), some (.int v3), some (.int v4)] [] := by
  refine g_aload_n C dX9_number_154 rfl ?_
  refine fget_10_40_X9_85 C rfl dX9_number_155 ?_
  refine g_iconst C dX9_number_158 kc_4 ?_
  refine g_iload_n C dX9_number_159 rfl ?_
  refine g_imul C dX9_number_160 ?_
  refine g_iload_n C dX9_number_161 rfl ?_
  refine g_iadd C dX9_number_162 ?_
  refine g_aload_n C dX9_number_163 rfl ?_
  refine fget_10_43_X9_94 C rfl dX9_number_164 ?_
  refine g_iload C dX9_number_167 rfl ?_
  refine g_iald C (by decide) h.1 dX9_number_169 ?_
  have h := h.2
  refine g_iast C (by decide) h.1 dX9_number_170 (fun σ1 e_σ1 => ?_)
  have h := h.2 σ1 e_σ1
  obtain ⟨x171, e_x171⟩ : ∃ v : Int32, v = v3 + (nI 1) := ⟨_, rfl⟩
  have h := h x171 e_x171
  refine g_iinc C [some (.ref (ad 10)), some (.int v1), some (.int v2), some (.int x171), some (.int v4)] dX9_number_171 rfl e_x171.symm (by decide) rfl ?_
  refine g_goto C 88 dX9_number_174 (by decide) ?_
  refine g_mask [true, true, true, true, false] rfl ?_
  exact hK88 x171 σ1 h
def wb_X9_number_88 (v1 : Int32) (v2 : Int32) (v3 : Int32) (K88 : Int32 → Sg → Prop) (K177 : Sg → Prop) (Q : Sg → Prop) (σ : Sg) : Prop :=
  (((nI 4) ≤ v3 → K177 σ) ∧ (¬ (nI 4) ≤ v3 → vp_in (((nI 4) * v2) + v3) (aN 64) ∧ (vp_in (gA σ 64 (Int32.toNatClampNeg (((nI 4) * v2) + v3))) (aN 68) ∧ (∀ x108 : Int32, x108 = (gA σ 68 (Int32.toNatClampNeg (gA σ 64 (Int32.toNatClampNeg (((nI 4) * v2) + v3))))) → (vp_in x108 (aN 74) ∧ (((¬ (gA σ 74 (Int32.toNatClampNeg x108)) = (-9 : Int32) → wp_X9_number_154 v1 v2 v3 x108 K88 Q σ) ∧ ((gA σ 74 (Int32.toNatClampNeg x108)) = (-9 : Int32) → vp_in x108 (aN 74) ∧ (∀ σ1 : Sg, σ1 = stA σ 74 (Int32.toNatClampNeg x108) (gF σ 10 39) → (vp_in (gF σ1 10 39) (aN 75) ∧ (∀ σ2 : Sg, σ2 = stA σ1 75 (Int32.toNatClampNeg (gF σ1 10 39)) x108 → (∀ σ3 : Sg, σ3 = stF σ2 10 39 ((gF σ2 10 39) + (nI 1)) → (wp_X9_number_154 v1 v2 v3 x108 K88 Q σ3)))))))))))))
set_option maxHeartbeats 4000000 in
set_option maxRecDepth 100000 in
theorem kb_X9_number_88 {Q : Sg → Prop} (C : Cx p s m args meth c D cy ad b0 yX9_number cX9_number 5 none) (v1 : Int32) (v2 : Int32) (v3 : Int32) (K88 : Int32 → Sg → Prop) (K177 : Sg → Prop) (hK88 : ∀ (z3 : Int32) (σ : Sg), K88 z3 σ → gV p l e rm_X9_number s m args below meth c D cy ad b0 Q 5 88 σ [some (.ref (ad 10)), some (.int v1), some (.int v2), some (.int z3), none] []) (hK177 : ∀  (σ : Sg), K177 σ → gV p l e rm_X9_number s m args below meth c D cy ad b0 Q 5 177 σ [some (.ref (ad 10)), some (.int v1), none, none, none] []) (σ : Sg) (h : wb_X9_number_88 v1 v2 v3 K88 K177 Q σ) : gV p l e rm_X9_number s m args below meth c D cy ad b0 Q 5 88 σ [some (.ref (ad 10)), some (.int v1), some (.int v2), some (.int v3), none] [] := by
  refine g_iload_n C dX9_number_88 rfl ?_
  refine g_iconst C dX9_number_89 kc_4 ?_
  refine g_icmp_ge C 177 dX9_number_90 (by decide) (fun c90 => ?_) (fun c90 => ?_)
  · have h := h.1 c90
    refine g_mask [true, true, false, false, false] rfl ?_
    exact hK177 σ h
  · have h := h.2 c90
    refine g_aload_n C dX9_number_93 rfl ?_
    refine fget_10_34_X9_76 C rfl dX9_number_94 ?_
    refine g_aload_n C dX9_number_97 rfl ?_
    refine fget_10_30_X9_64 C rfl dX9_number_98 ?_
    refine g_iconst C dX9_number_101 kc_4 ?_
    refine g_iload_n C dX9_number_102 rfl ?_
    refine g_imul C dX9_number_103 ?_
    refine g_iload_n C dX9_number_104 rfl ?_
    refine g_iadd C dX9_number_105 ?_
    refine g_iald C (by decide) h.1 dX9_number_106 ?_
    have h := h.2
    refine g_iald C (by decide) h.1 dX9_number_107 ?_
    have h := h.2
    refine g_topi (fun x108 e_x108 => ?_)
    have h := h x108 e_x108
    refine g_istore C [some (.ref (ad 10)), some (.int v1), some (.int v2), some (.int v3), some (.int x108)] dX9_number_108 (by decide) rfl ?_
    refine g_aload_n C dX9_number_110 rfl ?_
    refine fget_10_43_X9_94 C rfl dX9_number_111 ?_
    refine g_iload C dX9_number_114 rfl ?_
    refine g_iald C (by decide) h.1 dX9_number_116 ?_
    have h := h.2
    refine g_bipush C dX9_number_117 kb_m9 ?_
    refine g_icmp_ne C 154 dX9_number_119 (by decide) (fun c119 => ?_) (fun c119 => ?_)
    · have h := h.1 c119
      exact k_X9_number_154 C v1 v2 v3 x108 K88 hK88 σ h
    · have h := h.2 c119
      refine g_aload_n C dX9_number_122 rfl ?_
      refine fget_10_43_X9_94 C rfl dX9_number_123 ?_
      refine g_iload C dX9_number_126 rfl ?_
      refine g_aload_n C dX9_number_128 rfl ?_
      refine fget_10_39_X9_237 C rfl dX9_number_129 ?_
      refine g_iast C (by decide) h.1 dX9_number_132 (fun σ1 e_σ1 => ?_)
      have h := h.2 σ1 e_σ1
      refine g_aload_n C dX9_number_133 rfl ?_
      refine fget_10_44_X9_97 C rfl dX9_number_134 ?_
      refine g_aload_n C dX9_number_137 rfl ?_
      refine fget_10_39_X9_237 C rfl dX9_number_138 ?_
      refine g_iload C dX9_number_141 rfl ?_
      refine g_iast C (by decide) h.1 dX9_number_143 (fun σ2 e_σ2 => ?_)
      have h := h.2 σ2 e_σ2
      refine g_aload_n C dX9_number_144 rfl ?_
      refine g_dup C dX9_number_145 rfl ?_
      refine fget_10_39_X9_237 C rfl dX9_number_146 ?_
      refine g_iconst C dX9_number_149 kc_1 ?_
      refine g_iadd C dX9_number_150 ?_
      refine fput_10_39_X9_237 C rfl dX9_number_151 (fun σ3 e_σ3 => ?_)
      have h := h σ3 e_σ3
      exact k_X9_number_154 C v1 v2 v3 x108 K88 hK88 σ3 h
def wl_X9_number_88 (v1 : Int32) (v2 : Int32) (K177 : Sg → Prop) (Q : Sg → Prop) : Nat → Int32 → Sg → Prop
  | 0, _, _ => False
  | n + 1, v3, σ => wb_X9_number_88 v1 v2 v3 (wl_X9_number_88 v1 v2 K177 Q n) K177 Q σ
set_option maxHeartbeats 4000000 in
set_option maxRecDepth 100000 in
theorem kl_X9_number_88 {Q : Sg → Prop} (C : Cx p s m args meth c D cy ad b0 yX9_number cX9_number 5 none) (v1 : Int32) (v2 : Int32) (K177 : Sg → Prop) (hK177 : ∀  (σ : Sg), K177 σ → gV p l e rm_X9_number s m args below meth c D cy ad b0 Q 5 177 σ [some (.ref (ad 10)), some (.int v1), none, none, none] []) : ∀ (n : Nat) (v3 : Int32) (σ : Sg), wl_X9_number_88 v1 v2 K177 Q n v3 σ → gV p l e rm_X9_number s m args below meth c D cy ad b0 Q 5 88 σ [some (.ref (ad 10)), some (.int v1), some (.int v2), some (.int v3), none] [] := by
  intro n
  induction n with
  | zero => intro v3 σ h; exact False.elim h
  | succ n ih =>
    intro v3 σ h
    exact kb_X9_number_88 C v1 v2 v3 (wl_X9_number_88 v1 v2 K177 Q n) K177 (fun z3 σ h => ih z3 σ h) hK177 σ h
def wb_X9_number_55 (v1 : Int32) (K55 : Int32 → Sg → Prop) (K183 : Sg → Prop) (Q : Sg → Prop) (σ : Sg) : Prop :=
  (((gF σ 10 39) ≤ v1 → K183 σ) ∧ (¬ (gF σ 10 39) ≤ v1 → vp_in v1 (aN 75) ∧ (vp_in (gA σ 75 (Int32.toNatClampNeg v1)) (aN 70) ∧ (∀ x74 : Int32, x74 = (gA σ 70 (Int32.toNatClampNeg (gA σ 75 (Int32.toNatClampNeg v1)))) → (wp_X9_isKept x74 σ (fun r1 σ2 => vp_in v1 (aN 72) ∧ (∀ σ3 : Sg, σ3 = stA σ2 72 (Int32.toNatClampNeg v1) (vp_nar .boolean r1) → (∃ n, wl_X9_number_88 v1 x74 (fun σ9 => wp_X9_number_177 v1 K55 Q σ9) Q n (nI 0) σ3))))))))
set_option maxHeartbeats 4000000 in
set_option maxRecDepth 100000 in
theorem kb_X9_number_55 {Q : Sg → Prop} (C : Cx p s m args meth c D cy ad b0 yX9_number cX9_number 5 none) (v1 : Int32) (K55 : Int32 → Sg → Prop) (K183 : Sg → Prop) (hK55 : ∀ (z1 : Int32) (σ : Sg), K55 z1 σ → gV p l e rm_X9_number s m args below meth c D cy ad b0 Q 5 55 σ [some (.ref (ad 10)), some (.int z1), none, none, none] []) (hK183 : ∀  (σ : Sg), K183 σ → gV p l e rm_X9_number s m args below meth c D cy ad b0 Q 5 183 σ [some (.ref (ad 10)), none, none, none, none] []) (σ : Sg) (h : wb_X9_number_55 v1 K55 K183 Q σ) : gV p l e rm_X9_number s m args below meth c D cy ad b0 Q 5 55 σ [some (.ref (ad 10)), some (.int v1), none, none, none] [] := by
  refine g_iload_n C dX9_number_55 rfl ?_
  refine g_aload_n C dX9_number_56 rfl ?_
  refine fget_10_39_X9_237 C rfl dX9_number_57 ?_
  refine g_icmp_ge C 183 dX9_number_60 (by decide) (fun c60 => ?_) (fun c60 => ?_)
  · have h := h.1 c60
    refine g_mask [true, false, false, false, false] rfl ?_
    exact hK183 σ h
  · have h := h.2 c60
    refine g_aload_n C dX9_number_63 rfl ?_
    refine fget_10_37_X9_82 C rfl dX9_number_64 ?_
    refine g_aload_n C dX9_number_67 rfl ?_
    refine fget_10_44_X9_97 C rfl dX9_number_68 ?_
    refine g_iload_n C dX9_number_71 rfl ?_
    refine g_iald C (by decide) h.1 dX9_number_72 ?_
    have h := h.2
    refine g_iald C (by decide) h.1 dX9_number_73 ?_
    have h := h.2
    refine g_topi (fun x74 e_x74 => ?_)
    have h := h x74 e_x74
    refine g_istore_n C [some (.ref (ad 10)), some (.int v1), some (.int x74), none, none] dX9_number_74 (by decide) rfl ?_
    refine g_aload_n C dX9_number_75 rfl ?_
    refine fget_10_41_X9_88 C rfl dX9_number_76 ?_
    refine g_iload_n C dX9_number_79 rfl ?_
    refine g_aload_n C dX9_number_80 rfl ?_
    refine g_iload_n C dX9_number_81 rfl ?_
    refine g_callVi C 10 [.int x74] (c_X9_isKept l D cy ad b0 C.A x74) cal_X9_isKept mw_614 (by decide) rfl rfl ⟨Nat.le_of_ble_eq_true rfl, Nat.le_of_ble_eq_true rfl⟩ ⟨rfl, rfl⟩ ⟨Nat.zero_le _, Nat.zero_le _⟩ (Nat.le_of_ble_eq_true rfl) rfl dX9_number_82 h (fun r1 σ2 h => ?_)
    refine g_zast C (by decide) h.1 dX9_number_85 (fun σ3 e_σ3 => ?_)
    have h := h.2 σ3 e_σ3
    refine g_iconst C dX9_number_86 kc_0 ?_
    refine g_istore_n C [some (.ref (ad 10)), some (.int v1), some (.int x74), some (.int (nI 0)), none] dX9_number_87 (by decide) rfl ?_
    obtain ⟨n, h⟩ := h
    exact kl_X9_number_88 C v1 x74 _ (fun σ9 h => by exact k_X9_number_177 C v1 K55 hK55 σ9 h) n (nI 0) σ3 h
def wl_X9_number_55 (K183 : Sg → Prop) (Q : Sg → Prop) : Nat → Int32 → Sg → Prop
  | 0, _, _ => False
  | n + 1, v1, σ => wb_X9_number_55 v1 (wl_X9_number_55 K183 Q n) K183 Q σ
set_option maxHeartbeats 4000000 in
set_option maxRecDepth 100000 in
theorem kl_X9_number_55 {Q : Sg → Prop} (C : Cx p s m args meth c D cy ad b0 yX9_number cX9_number 5 none) (K183 : Sg → Prop) (hK183 : ∀  (σ : Sg), K183 σ → gV p l e rm_X9_number s m args below meth c D cy ad b0 Q 5 183 σ [some (.ref (ad 10)), none, none, none, none] []) : ∀ (n : Nat) (v1 : Int32) (σ : Sg), wl_X9_number_55 K183 Q n v1 σ → gV p l e rm_X9_number s m args below meth c D cy ad b0 Q 5 55 σ [some (.ref (ad 10)), some (.int v1), none, none, none] [] := by
  intro n
  induction n with
  | zero => intro v1 σ h; exact False.elim h
  | succ n ih =>
    intro v1 σ h
    exact kb_X9_number_55 C v1 (wl_X9_number_55 K183 Q n) K183 (fun z1 σ h => ih z1 σ h) hK183 σ h
def wp_X9_number_24 (Q : Sg → Prop) (σ : Sg) : Prop :=
  ∀ σ1 : Sg, σ1 = stF σ 10 39 (nI 1) → (vp_in (nI 0) (aN 68) ∧ (vp_in (gA σ1 68 (Int32.toNatClampNeg (nI 0))) (aN 74) ∧ (∀ σ2 : Sg, σ2 = stA σ1 74 (Int32.toNatClampNeg (gA σ1 68 (Int32.toNatClampNeg (nI 0)))) (nI 0) → (vp_in (nI 0) (aN 68) ∧ (vp_in (nI 0) (aN 75) ∧ (∀ σ3 : Sg, σ3 = stA σ2 75 (Int32.toNatClampNeg (nI 0)) (gA σ2 68 (Int32.toNatClampNeg (nI 0))) → (∃ n, wl_X9_number_55 (fun σ9 => wp_X9_number_183 Q σ9) Q n (nI 0) σ3)))))))
set_option maxHeartbeats 4000000 in
set_option maxRecDepth 100000 in
theorem k_X9_number_24 {Q : Sg → Prop} (C : Cx p s m args meth c D cy ad b0 yX9_number cX9_number 5 none) (σ : Sg) (h : wp_X9_number_24 Q σ) : gV p l e rm_X9_number s m args below meth c D cy ad b0 Q 5 24 σ [some (.ref (ad 10)), none, none, none, none] [] := by
  refine g_aload_n C dX9_number_24 rfl ?_
  refine g_iconst C dX9_number_25 kc_1 ?_
  refine fput_10_39_X9_237 C rfl dX9_number_26 (fun σ1 e_σ1 => ?_)
  have h := h σ1 e_σ1
  refine g_aload_n C dX9_number_29 rfl ?_
  refine fget_10_43_X9_94 C rfl dX9_number_30 ?_
  refine g_aload_n C dX9_number_33 rfl ?_
  refine fget_10_34_X9_76 C rfl dX9_number_34 ?_
  refine g_iconst C dX9_number_37 kc_0 ?_
  refine g_iald C (by decide) h.1 dX9_number_38 ?_
  have h := h.2
  refine g_iconst C dX9_number_39 kc_0 ?_
  refine g_iast C (by decide) h.1 dX9_number_40 (fun σ2 e_σ2 => ?_)
  have h := h.2 σ2 e_σ2
  refine g_aload_n C dX9_number_41 rfl ?_
  refine fget_10_44_X9_97 C rfl dX9_number_42 ?_
  refine g_iconst C dX9_number_45 kc_0 ?_
  refine g_aload_n C dX9_number_46 rfl ?_
  refine fget_10_34_X9_76 C rfl dX9_number_47 ?_
  refine g_iconst C dX9_number_50 kc_0 ?_
  refine g_iald C (by decide) h.1 dX9_number_51 ?_
  have h := h.2
  refine g_iast C (by decide) h.1 dX9_number_52 (fun σ3 e_σ3 => ?_)
  have h := h.2 σ3 e_σ3
  refine g_iconst C dX9_number_53 kc_0 ?_
  refine g_istore_n C [some (.ref (ad 10)), some (.int (nI 0)), none, none, none] dX9_number_54 (by decide) rfl ?_
  obtain ⟨n, h⟩ := h
  exact kl_X9_number_55 C _ (fun σ9 h => by exact k_X9_number_183 C σ9 h) n (nI 0) σ3 h
def wb_X9_number_2 (v1 : Int32) (K2 : Int32 → Sg → Prop) (K24 : Sg → Prop) (Q : Sg → Prop) (σ : Sg) : Prop :=
  (((gF σ 10 36) ≤ v1 → K24 σ) ∧ (¬ (gF σ 10 36) ≤ v1 → vp_in v1 (aN 74) ∧ (∀ σ1 : Sg, σ1 = stA σ 74 (Int32.toNatClampNeg v1) (-9 : Int32) → (∀ x18 : Int32, x18 = v1 + (nI 1) → (K2 x18 σ1)))))
set_option maxHeartbeats 4000000 in
set_option maxRecDepth 100000 in
theorem kb_X9_number_2 {Q : Sg → Prop} (C : Cx p s m args meth c D cy ad b0 yX9_number cX9_number 5 none) (v1 : Int32) (K2 : Int32 → Sg → Prop) (K24 : Sg → Prop) (hK2 : ∀ (z1 : Int32) (σ : Sg), K2 z1 σ → gV p l e rm_X9_number s m args below meth c D cy ad b0 Q 5 2 σ [some (.ref (ad 10)), some (.int z1), none, none, none] []) (hK24 : ∀  (σ : Sg), K24 σ → gV p l e rm_X9_number s m args below meth c D cy ad b0 Q 5 24 σ [some (.ref (ad 10)), none, none, none, none] []) (σ : Sg) (h : wb_X9_number_2 v1 K2 K24 Q σ) : gV p l e rm_X9_number s m args below meth c D cy ad b0 Q 5 2 σ [some (.ref (ad 10)), some (.int v1), none, none, none] [] := by
  refine g_iload_n C dX9_number_2 rfl ?_
  refine g_aload_n C dX9_number_3 rfl ?_
  refine fget_10_36_X9_228 C rfl dX9_number_4 ?_
  refine g_icmp_ge C 24 dX9_number_7 (by decide) (fun c7 => ?_) (fun c7 => ?_)
  · have h := h.1 c7
    refine g_mask [true, false, false, false, false] rfl ?_
    exact hK24 σ h
  · have h := h.2 c7
    refine g_aload_n C dX9_number_10 rfl ?_
    refine fget_10_43_X9_94 C rfl dX9_number_11 ?_
    refine g_iload_n C dX9_number_14 rfl ?_
    refine g_bipush C dX9_number_15 kb_m9 ?_
    refine g_iast C (by decide) h.1 dX9_number_17 (fun σ1 e_σ1 => ?_)
    have h := h.2 σ1 e_σ1
    obtain ⟨x18, e_x18⟩ : ∃ v : Int32, v = v1 + (nI 1) := ⟨_, rfl⟩
    have h := h x18 e_x18
    refine g_iinc C [some (.ref (ad 10)), some (.int x18), none, none, none] dX9_number_18 rfl e_x18.symm (by decide) rfl ?_
    refine g_goto C 2 dX9_number_21 (by decide) ?_
    exact hK2 x18 σ1 h
def wl_X9_number_2 (K24 : Sg → Prop) (Q : Sg → Prop) : Nat → Int32 → Sg → Prop
  | 0, _, _ => False
  | n + 1, v1, σ => wb_X9_number_2 v1 (wl_X9_number_2 K24 Q n) K24 Q σ
set_option maxHeartbeats 4000000 in
set_option maxRecDepth 100000 in
theorem kl_X9_number_2 {Q : Sg → Prop} (C : Cx p s m args meth c D cy ad b0 yX9_number cX9_number 5 none) (K24 : Sg → Prop) (hK24 : ∀  (σ : Sg), K24 σ → gV p l e rm_X9_number s m args below meth c D cy ad b0 Q 5 24 σ [some (.ref (ad 10)), none, none, none, none] []) : ∀ (n : Nat) (v1 : Int32) (σ : Sg), wl_X9_number_2 K24 Q n v1 σ → gV p l e rm_X9_number s m args below meth c D cy ad b0 Q 5 2 σ [some (.ref (ad 10)), some (.int v1), none, none, none] [] := by
  intro n
  induction n with
  | zero => intro v1 σ h; exact False.elim h
  | succ n ih =>
    intro v1 σ h
    exact kb_X9_number_2 C v1 (wl_X9_number_2 K24 Q n) K24 (fun z1 σ h => ih z1 σ h) hK24 σ h
def wp_X9_number (σ : Sg) (Q : Sg → Prop) : Prop :=
  ∃ n, wl_X9_number_2 (fun σ9 => wp_X9_number_24 Q σ9) Q n (nI 0) σ
set_option maxHeartbeats 4000000 in
set_option maxRecDepth 100000 in
theorem c_X9_number (l : Launch) (D : va_G) (cy : Nat → ClassId) (ad : Nat → Nat) (b0 : Nat) (hA : AdOk ad b0) : Ctv l D cy ad b0 yX9_number cX9_number 5 none rm_X9_number [.ref (ad 10)] (fun σ Q => wp_X9_number σ Q) := by
  intro σ Q h
  refine g_enter hA rfl (Nat.le_of_ble_eq_true rfl) [some (.ref (ad 10)), none, none, none, none] rfl ?_
  intro p e s m args below meth c C
  refine g_iconst C dX9_number_0 kc_0 ?_
  refine g_istore_n C [some (.ref (ad 10)), some (.int (nI 0)), none, none, none] dX9_number_1 (by decide) rfl ?_
  obtain ⟨n, h⟩ := h
  exact kl_X9_number_2 C _ (fun σ9 h => by exact k_X9_number_24 C σ9 h) n (nI 0) σ h
def rm_X9_begin : Room := { frames := 0, cells := 0, slots := 0, locals := 0 }
def wp_X9_begin_34 (v1 : Int32) (Q : Sg → Prop) (σ : Sg) : Prop :=
  vp_in v1 (aN 81) ∧ (∀ σ1 : Sg, σ1 = stA σ 81 (Int32.toNatClampNeg v1) (nI 0) → (Q σ1))
set_option maxHeartbeats 4000000 in
set_option maxRecDepth 100000 in
theorem k_X9_begin_34 {Q : Sg → Prop} (C : Cx p s m args meth c D cy ad b0 yX9_begin cX9_begin 3 none) (v1 : Int32) (σ : Sg) (h : wp_X9_begin_34 v1 Q σ) : gV p l e rm_X9_begin s m args below meth c D cy ad b0 Q 3 34 σ [some (.ref (ad 10)), some (.int v1), none] [] := by
  refine g_aload_n C dX9_begin_34 rfl ?_
  refine fget_10_50_X9_116 C rfl dX9_begin_35 ?_
  refine g_iload_n C dX9_begin_38 rfl ?_
  refine g_iconst C dX9_begin_39 kc_0 ?_
  refine g_iast C (by decide) h.1 dX9_begin_40 (fun σ1 e_σ1 => ?_)
  have h := h.2 σ1 e_σ1
  exact g_vret C dX9_begin_41 h
def wp_X9_begin_27 (v1 : Int32) (v2 : Int32) (s0 : Int32) (s1 : Int32) (K2 : Int32 → Sg → Prop) (Q : Sg → Prop) (σ : Sg) : Prop :=
  vp_in s1 (aN 79) ∧ (∀ σ1 : Sg, σ1 = stA σ 79 (Int32.toNatClampNeg s1) (vp_nar .boolean s0) → (∀ x28 : Int32, x28 = v2 + (nI 1) → (K2 x28 σ1)))
set_option maxHeartbeats 4000000 in
set_option maxRecDepth 100000 in
theorem k_X9_begin_27 {Q : Sg → Prop} (C : Cx p s m args meth c D cy ad b0 yX9_begin cX9_begin 3 none) (v1 : Int32) (v2 : Int32) (s0 : Int32) (s1 : Int32) (K2 : Int32 → Sg → Prop) (hK2 : ∀ (z2 : Int32) (σ : Sg), K2 z2 σ → gV p l e rm_X9_begin s m args below meth c D cy ad b0 Q 3 2 σ [some (.ref (ad 10)), some (.int v1), some (.int z2)] []) (σ : Sg) (h : wp_X9_begin_27 v1 v2 s0 s1 K2 Q σ) : gV p l e rm_X9_begin s m args below meth c D cy ad b0 Q 3 27 σ [some (.ref (ad 10)), some (.int v1), some (.int v2)] [.int s0, .int s1, .ref (ad 79)] := by
  refine g_zast C (by decide) h.1 dX9_begin_27 (fun σ1 e_σ1 => ?_)
  have h := h.2 σ1 e_σ1
  obtain ⟨x28, e_x28⟩ : ∃ v : Int32, v = v2 + (nI 1) := ⟨_, rfl⟩
  have h := h x28 e_x28
  refine g_iinc C [some (.ref (ad 10)), some (.int v1), some (.int x28)] dX9_begin_28 rfl e_x28.symm (by decide) rfl ?_
  refine g_goto C 2 dX9_begin_31 (by decide) ?_
  exact hK2 x28 σ1 h
def wb_X9_begin_2 (v1 : Int32) (v2 : Int32) (K2 : Int32 → Sg → Prop) (K34 : Sg → Prop) (Q : Sg → Prop) (σ : Sg) : Prop :=
  (((nI 60) ≤ v2 → K34 σ) ∧ (¬ (nI 60) ≤ v2 → ((¬ v2 = (nI 0) → wp_X9_begin_27 v1 v2 (nI 0) (((nI 60) * v1) + v2) K2 Q σ) ∧ (v2 = (nI 0) → wp_X9_begin_27 v1 v2 (nI 1) (((nI 60) * v1) + v2) K2 Q σ))))
set_option maxHeartbeats 4000000 in
set_option maxRecDepth 100000 in
theorem kb_X9_begin_2 {Q : Sg → Prop} (C : Cx p s m args meth c D cy ad b0 yX9_begin cX9_begin 3 none) (v1 : Int32) (v2 : Int32) (K2 : Int32 → Sg → Prop) (K34 : Sg → Prop) (hK2 : ∀ (z2 : Int32) (σ : Sg), K2 z2 σ → gV p l e rm_X9_begin s m args below meth c D cy ad b0 Q 3 2 σ [some (.ref (ad 10)), some (.int v1), some (.int z2)] []) (hK34 : ∀  (σ : Sg), K34 σ → gV p l e rm_X9_begin s m args below meth c D cy ad b0 Q 3 34 σ [some (.ref (ad 10)), some (.int v1), none] []) (σ : Sg) (h : wb_X9_begin_2 v1 v2 K2 K34 Q σ) : gV p l e rm_X9_begin s m args below meth c D cy ad b0 Q 3 2 σ [some (.ref (ad 10)), some (.int v1), some (.int v2)] [] := by
  refine g_iload_n C dX9_begin_2 rfl ?_
  refine g_bipush C dX9_begin_3 kb_60 ?_
  refine g_icmp_ge C 34 dX9_begin_5 (by decide) (fun c5 => ?_) (fun c5 => ?_)
  · have h := h.1 c5
    refine g_mask [true, true, false] rfl ?_
    exact hK34 σ h
  · have h := h.2 c5
    refine g_aload_n C dX9_begin_8 rfl ?_
    refine fget_10_48_X9_110 C rfl dX9_begin_9 ?_
    refine g_bipush C dX9_begin_12 kb_60 ?_
    refine g_iload_n C dX9_begin_14 rfl ?_
    refine g_imul C dX9_begin_15 ?_
    refine g_iload_n C dX9_begin_16 rfl ?_
    refine g_iadd C dX9_begin_17 ?_
    refine g_iload_n C dX9_begin_18 rfl ?_
    refine g_if_ne C 26 dX9_begin_19 (by decide) (fun c19 => ?_) (fun c19 => ?_)
    · have h := h.1 c19
      refine g_iconst C dX9_begin_26 kc_0 ?_
      exact k_X9_begin_27 C v1 v2 (nI 0) (((nI 60) * v1) + v2) K2 hK2 σ h
    · have h := h.2 c19
      refine g_iconst C dX9_begin_22 kc_1 ?_
      refine g_goto C 27 dX9_begin_23 (by decide) ?_
      exact k_X9_begin_27 C v1 v2 (nI 1) (((nI 60) * v1) + v2) K2 hK2 σ h
def wl_X9_begin_2 (v1 : Int32) (K34 : Sg → Prop) (Q : Sg → Prop) : Nat → Int32 → Sg → Prop
  | 0, _, _ => False
  | n + 1, v2, σ => wb_X9_begin_2 v1 v2 (wl_X9_begin_2 v1 K34 Q n) K34 Q σ
set_option maxHeartbeats 4000000 in
set_option maxRecDepth 100000 in
theorem kl_X9_begin_2 {Q : Sg → Prop} (C : Cx p s m args meth c D cy ad b0 yX9_begin cX9_begin 3 none) (v1 : Int32) (K34 : Sg → Prop) (hK34 : ∀  (σ : Sg), K34 σ → gV p l e rm_X9_begin s m args below meth c D cy ad b0 Q 3 34 σ [some (.ref (ad 10)), some (.int v1), none] []) : ∀ (n : Nat) (v2 : Int32) (σ : Sg), wl_X9_begin_2 v1 K34 Q n v2 σ → gV p l e rm_X9_begin s m args below meth c D cy ad b0 Q 3 2 σ [some (.ref (ad 10)), some (.int v1), some (.int v2)] [] := by
  intro n
  induction n with
  | zero => intro v2 σ h; exact False.elim h
  | succ n ih =>
    intro v2 σ h
    exact kb_X9_begin_2 C v1 v2 (wl_X9_begin_2 v1 K34 Q n) K34 (fun z2 σ h => ih z2 σ h) hK34 σ h
def wp_X9_begin (a0 : Int32) (σ : Sg) (Q : Sg → Prop) : Prop :=
  ∃ n, wl_X9_begin_2 a0 (fun σ9 => wp_X9_begin_34 a0 Q σ9) Q n (nI 0) σ
set_option maxHeartbeats 4000000 in
set_option maxRecDepth 100000 in
theorem c_X9_begin (l : Launch) (D : va_G) (cy : Nat → ClassId) (ad : Nat → Nat) (b0 : Nat) (hA : AdOk ad b0) (a0 : Int32) : Ctv l D cy ad b0 yX9_begin cX9_begin 3 none rm_X9_begin [.ref (ad 10), .int a0] (fun σ Q => wp_X9_begin a0 σ Q) := by
  intro σ Q h
  refine g_enter hA rfl (Nat.le_of_ble_eq_true rfl) [some (.ref (ad 10)), some (.int a0), none] rfl ?_
  intro p e s m args below meth c C
  refine g_iconst C dX9_begin_0 kc_0 ?_
  refine g_istore_n C [some (.ref (ad 10)), some (.int a0), some (.int (nI 0))] dX9_begin_1 (by decide) rfl ?_
  obtain ⟨n, h⟩ := h
  exact kl_X9_begin_2 C a0 _ (fun σ9 h => by exact k_X9_begin_34 C a0 σ9 h) n (nI 0) σ h
def rm_X9_read : Room := { frames := 4, cells := 0, slots := 0, locals := 96 }
def wp_X9_read_74 (Q : Int32 → Sg → Prop) (σ : Sg) : Prop :=
  Q (gF σ 10 39) σ
set_option maxHeartbeats 4000000 in
set_option maxRecDepth 100000 in
theorem k_X9_read_74 {Q : Int32 → Sg → Prop} (C : Cx p s m args meth c D cy ad b0 yX9_read cX9_read 2 (some .int)) (σ : Sg) (h : wp_X9_read_74 Q σ) : gI p l e rm_X9_read s m args below meth c D cy ad b0 Q 2 74 σ [some (.ref (ad 10)), none] [] := by
  refine g_aload_n C dX9_read_74 rfl ?_
  refine fget_10_39_X9_237 C rfl dX9_read_75 ?_
  exact g_iret C dX9_read_78 h
def wb_X9_read_57 (v1 : Int32) (K57 : Int32 → Sg → Prop) (K74 : Sg → Prop) (Q : Int32 → Sg → Prop) (σ : Sg) : Prop :=
  (((nI 16) ≤ v1 → K74 σ) ∧ (¬ (nI 16) ≤ v1 → wp_X9_begin v1 σ (fun σ1 => ∀ x68 : Int32, x68 = v1 + (nI 1) → (K57 x68 σ1))))
set_option maxHeartbeats 4000000 in
set_option maxRecDepth 100000 in
theorem kb_X9_read_57 {Q : Int32 → Sg → Prop} (C : Cx p s m args meth c D cy ad b0 yX9_read cX9_read 2 (some .int)) (v1 : Int32) (K57 : Int32 → Sg → Prop) (K74 : Sg → Prop) (hK57 : ∀ (z1 : Int32) (σ : Sg), K57 z1 σ → gI p l e rm_X9_read s m args below meth c D cy ad b0 Q 2 57 σ [some (.ref (ad 10)), some (.int z1)] []) (hK74 : ∀  (σ : Sg), K74 σ → gI p l e rm_X9_read s m args below meth c D cy ad b0 Q 2 74 σ [some (.ref (ad 10)), none] []) (σ : Sg) (h : wb_X9_read_57 v1 K57 K74 Q σ) : gI p l e rm_X9_read s m args below meth c D cy ad b0 Q 2 57 σ [some (.ref (ad 10)), some (.int v1)] [] := by
  refine g_iload_n C dX9_read_57 rfl ?_
  refine g_bipush C dX9_read_58 kb_16 ?_
  refine g_icmp_ge C 74 dX9_read_60 (by decide) (fun c60 => ?_) (fun c60 => ?_)
  · have h := h.1 c60
    refine g_mask [true, false] rfl ?_
    exact hK74 σ h
  · have h := h.2 c60
    refine g_aload_n C dX9_read_63 rfl ?_
    refine g_iload_n C dX9_read_64 rfl ?_
    refine g_callVv C 10 [.int v1] (c_X9_begin l D cy ad b0 C.A v1) cal_X9_begin mw_634 (by decide) rfl rfl ⟨Nat.le_of_ble_eq_true rfl, Nat.le_of_ble_eq_true rfl⟩ ⟨rfl, rfl⟩ ⟨Nat.zero_le _, Nat.zero_le _⟩ (Nat.le_of_ble_eq_true rfl) rfl dX9_read_65 h (fun σ1 h => ?_)
    obtain ⟨x68, e_x68⟩ : ∃ v : Int32, v = v1 + (nI 1) := ⟨_, rfl⟩
    have h := h x68 e_x68
    refine g_iinc C [some (.ref (ad 10)), some (.int x68)] dX9_read_68 rfl e_x68.symm (by decide) rfl ?_
    refine g_goto C 57 dX9_read_71 (by decide) ?_
    exact hK57 x68 σ1 h
def wl_X9_read_57 (K74 : Sg → Prop) (Q : Int32 → Sg → Prop) : Nat → Int32 → Sg → Prop
  | 0, _, _ => False
  | n + 1, v1, σ => wb_X9_read_57 v1 (wl_X9_read_57 K74 Q n) K74 Q σ
set_option maxHeartbeats 4000000 in
set_option maxRecDepth 100000 in
theorem kl_X9_read_57 {Q : Int32 → Sg → Prop} (C : Cx p s m args meth c D cy ad b0 yX9_read cX9_read 2 (some .int)) (K74 : Sg → Prop) (hK74 : ∀  (σ : Sg), K74 σ → gI p l e rm_X9_read s m args below meth c D cy ad b0 Q 2 74 σ [some (.ref (ad 10)), none] []) : ∀ (n : Nat) (v1 : Int32) (σ : Sg), wl_X9_read_57 K74 Q n v1 σ → gI p l e rm_X9_read s m args below meth c D cy ad b0 Q 2 57 σ [some (.ref (ad 10)), some (.int v1)] [] := by
  intro n
  induction n with
  | zero => intro v1 σ h; exact False.elim h
  | succ n ih =>
    intro v1 σ h
    exact kb_X9_read_57 C v1 (wl_X9_read_57 K74 Q n) K74 (fun z1 σ h => ih z1 σ h) hK74 σ h
def wp_X9_read (σ : Sg) (Q : Int32 → Sg → Prop) : Prop :=
  ∀ σ1 : Sg, σ1 = stF σ 10 2 (nI 0) → (wp_X9_parse σ1 (fun r2 σ3 => ((¬ r2 = (nI 0) → wp_X9_prepare σ3 (fun σ4 => wp_X9_meet σ4 (fun r5 σ6 => ((r5 = (nI 0) → Q (-4 : Int32) σ6) ∧ (¬ r5 = (nI 0) → wp_X9_least σ6 (fun r7 σ8 => ((¬ r7 = (nI 0) → wp_X9_number σ8 (fun σ9 => ∀ σ10 : Sg, σ10 = stF σ9 10 1 (nI 0) → (∀ σ11 : Sg, σ11 = stF σ10 10 38 (nI 1) → (∃ n, wl_X9_read_57 (fun σ9 => wp_X9_read_74 Q σ9) Q n (nI 0) σ11)))) ∧ (r7 = (nI 0) → Q (-4 : Int32) σ8)))))))) ∧ (r2 = (nI 0) → Q ((-100 : Int32) - (gF σ3 10 3)) σ3))))
set_option maxHeartbeats 4000000 in
set_option maxRecDepth 100000 in
theorem c_X9_read (l : Launch) (D : va_G) (cy : Nat → ClassId) (ad : Nat → Nat) (b0 : Nat) (hA : AdOk ad b0) : Cti l D cy ad b0 yX9_read cX9_read 2 (some .int) rm_X9_read [.ref (ad 10)] (fun σ Q => wp_X9_read σ Q) := by
  intro σ Q h
  refine g_enter hA rfl (Nat.le_of_ble_eq_true rfl) [some (.ref (ad 10)), none] rfl ?_
  intro p e s m args below meth c C
  refine g_aload_n C dX9_read_0 rfl ?_
  refine g_iconst C dX9_read_1 kc_0 ?_
  refine fput_10_2_X9_140 C rfl dX9_read_2 (fun σ1 e_σ1 => ?_)
  have h := h σ1 e_σ1
  refine g_aload_n C dX9_read_5 rfl ?_
  refine g_callVi C 10 [] (c_X9_parse l D cy ad b0 C.A) cal_X9_parse mw_537 (by decide) rfl rfl ⟨Nat.le_of_ble_eq_true rfl, Nat.le_of_ble_eq_true rfl⟩ ⟨rfl, rfl⟩ ⟨Nat.zero_le _, Nat.zero_le _⟩ (Nat.le_of_ble_eq_true rfl) rfl dX9_read_6 h (fun r2 σ3 h => ?_)
  refine g_if_ne C 20 dX9_read_9 (by decide) (fun c9 => ?_) (fun c9 => ?_)
  · have h := h.1 c9
    refine g_aload_n C dX9_read_20 rfl ?_
    refine g_callVv C 10 [] (c_X9_prepare l D cy ad b0 C.A) cal_X9_prepare mw_574 (by decide) rfl rfl ⟨Nat.le_of_ble_eq_true rfl, Nat.le_of_ble_eq_true rfl⟩ ⟨rfl, rfl⟩ ⟨Nat.zero_le _, Nat.zero_le _⟩ (Nat.le_of_ble_eq_true rfl) rfl dX9_read_21 h (fun σ4 h => ?_)
    refine g_aload_n C dX9_read_24 rfl ?_
    refine g_callVi C 10 [] (c_X9_meet l D cy ad b0 C.A) cal_X9_meet mw_600 (by decide) rfl rfl ⟨Nat.le_of_ble_eq_true rfl, Nat.le_of_ble_eq_true rfl⟩ ⟨rfl, rfl⟩ ⟨Nat.zero_le _, Nat.zero_le _⟩ (Nat.le_of_ble_eq_true rfl) rfl dX9_read_25 h (fun r5 σ6 h => ?_)
    refine g_if_eq C 38 dX9_read_28 (by decide) (fun c28 => ?_) (fun c28 => ?_)
    · have h := h.1 c28
      refine g_bipush C dX9_read_38 kb_m4 ?_
      exact g_iret C dX9_read_40 h
    · have h := h.2 c28
      refine g_aload_n C dX9_read_31 rfl ?_
      refine g_callVi C 10 [] (c_X9_least l D cy ad b0 C.A) cal_X9_least mw_609 (by decide) rfl rfl ⟨Nat.le_of_ble_eq_true rfl, Nat.le_of_ble_eq_true rfl⟩ ⟨rfl, rfl⟩ ⟨Nat.zero_le _, Nat.zero_le _⟩ (Nat.le_of_ble_eq_true rfl) rfl dX9_read_32 h (fun r7 σ8 h => ?_)
      refine g_if_ne C 41 dX9_read_35 (by decide) (fun c35 => ?_) (fun c35 => ?_)
      · have h := h.1 c35
        refine g_aload_n C dX9_read_41 rfl ?_
        refine g_callVv C 10 [] (c_X9_number l D cy ad b0 C.A) cal_X9_number mw_626 (by decide) rfl rfl ⟨Nat.le_of_ble_eq_true rfl, Nat.le_of_ble_eq_true rfl⟩ ⟨rfl, rfl⟩ ⟨Nat.zero_le _, Nat.zero_le _⟩ (Nat.le_of_ble_eq_true rfl) rfl dX9_read_42 h (fun σ9 h => ?_)
        refine g_aload_n C dX9_read_45 rfl ?_
        refine g_iconst C dX9_read_46 kc_0 ?_
        refine fput_10_1_X9_136 C rfl dX9_read_47 (fun σ10 e_σ10 => ?_)
        have h := h σ10 e_σ10
        refine g_aload_n C dX9_read_50 rfl ?_
        refine g_iconst C dX9_read_51 kc_1 ?_
        refine fputZ_10_38_X9_257 C rfl bl_1 dX9_read_52 (fun σ11 e_σ11 => ?_)
        have h := h σ11 e_σ11
        refine g_iconst C dX9_read_55 kc_0 ?_
        refine g_istore_n C [some (.ref (ad 10)), some (.int (nI 0))] dX9_read_56 (by decide) rfl ?_
        obtain ⟨n, h⟩ := h
        exact kl_X9_read_57 C _ (fun σ9 h => by exact k_X9_read_74 C σ9 h) n (nI 0) σ11 h
      · have h := h.2 c35
        refine g_bipush C dX9_read_38 kb_m4 ?_
        exact g_iret C dX9_read_40 h
  · have h := h.2 c9
    refine g_bipush C dX9_read_12 kb_m100 ?_
    refine g_aload_n C dX9_read_14 rfl ?_
    refine fget_10_3_X9_160 C rfl dX9_read_15 ?_
    refine g_isub C dX9_read_18 ?_
    exact g_iret C dX9_read_19 h
def rm_X9_isState : Room := { frames := 1, cells := 0, slots := 0, locals := 25 }
def wp_X9_isState (a0 : Int32) (σ : Sg) (Q : Int32 → Sg → Prop) : Prop :=
  wp_X9_in (Int32.toInt64 a0) (lN 0) (Int32.toInt64 ((gF σ 10 39) - (nI 1))) σ (fun r1 σ2 => (bl r1 ∧ Q r1 σ2))
set_option maxHeartbeats 4000000 in
set_option maxRecDepth 100000 in
theorem c_X9_isState (l : Launch) (D : va_G) (cy : Nat → ClassId) (ad : Nat → Nat) (b0 : Nat) (hA : AdOk ad b0) (a0 : Int32) : Cti l D cy ad b0 yX9_isState cX9_isState 2 (some .boolean) rm_X9_isState [.ref (ad 10), .int a0] (fun σ Q => wp_X9_isState a0 σ Q) := by
  intro σ Q h
  refine g_enter hA rfl (Nat.le_of_ble_eq_true rfl) [some (.ref (ad 10)), some (.int a0)] rfl ?_
  intro p e s m args below meth c C
  refine g_iload_n C dX9_isState_0 rfl ?_
  refine g_i2l C dX9_isState_1 ?_
  refine g_lconst C dX9_isState_2 kl_0 ?_
  refine g_aload_n C dX9_isState_3 rfl ?_
  refine fget_10_39_X9_237 C rfl dX9_isState_4 ?_
  refine g_iconst C dX9_isState_7 kc_1 ?_
  refine g_isub C dX9_isState_8 ?_
  refine g_i2l C dX9_isState_9 ?_
  refine g_callSi C [.long (Int32.toInt64 a0), .long (lN 0), .long (Int32.toInt64 ((gF σ 10 39) - (nI 1)))] (c_X9_in l D cy ad b0 C.A (Int32.toInt64 a0) (lN 0) (Int32.toInt64 ((gF σ 10 39) - (nI 1)))) cal_X9_in mw_679 rfl ⟨Nat.le_of_ble_eq_true rfl, Nat.le_of_ble_eq_true rfl⟩ ⟨rfl, rfl⟩ ⟨Nat.zero_le _, Nat.zero_le _⟩ (Nat.le_of_ble_eq_true rfl) rfl dX9_isState_10 h (fun r1 σ2 h => ?_)
  exact g_zret C (narrow_bl h.1) dX9_isState_13 h.2
def rm_X9_leads : Room := { frames := 2, cells := 0, slots := 0, locals := 46 }
def wp_X9_leads (a0 : Int32) (a1 : Int32) (σ : Sg) (Q : Int32 → Sg → Prop) : Prop :=
  ((¬ (gF σ 10 38) = (nI 0) → wp_X9_isState a0 σ (fun r1 σ2 => ((r1 = (nI 0) → Q (-1 : Int32) σ2) ∧ (¬ r1 = (nI 0) → wp_X9_in (Int32.toInt64 a1) (lN 0) (lN 3) σ2 (fun r3 σ4 => ((r3 = (nI 0) → Q (-1 : Int32) σ4) ∧ (¬ r3 = (nI 0) → vp_in (((nI 4) * a0) + a1) (aN 71) ∧ (Q (gA σ4 71 (Int32.toNatClampNeg (((nI 4) * a0) + a1))) σ4)))))))) ∧ ((gF σ 10 38) = (nI 0) → Q (-3 : Int32) σ))
set_option maxHeartbeats 4000000 in
set_option maxRecDepth 100000 in
theorem c_X9_leads (l : Launch) (D : va_G) (cy : Nat → ClassId) (ad : Nat → Nat) (b0 : Nat) (hA : AdOk ad b0) (a0 : Int32) (a1 : Int32) : Cti l D cy ad b0 yX9_leads cX9_leads 3 (some .int) rm_X9_leads [.ref (ad 10), .int a0, .int a1] (fun σ Q => wp_X9_leads a0 a1 σ Q) := by
  intro σ Q h
  refine g_enter hA rfl (Nat.le_of_ble_eq_true rfl) [some (.ref (ad 10)), some (.int a0), some (.int a1)] rfl ?_
  intro p e s m args below meth c C
  refine g_aload_n C dX9_leads_0 rfl ?_
  refine fget_10_38_X9_257 C rfl dX9_leads_1 ?_
  refine g_if_ne C 10 dX9_leads_4 (by decide) (fun c4 => ?_) (fun c4 => ?_)
  · have h := h.1 c4
    refine g_aload_n C dX9_leads_10 rfl ?_
    refine g_iload_n C dX9_leads_11 rfl ?_
    refine g_callVi C 10 [.int a0] (c_X9_isState l D cy ad b0 C.A a0) cal_X9_isState mw_675 (by decide) rfl rfl ⟨Nat.le_of_ble_eq_true rfl, Nat.le_of_ble_eq_true rfl⟩ ⟨rfl, rfl⟩ ⟨Nat.zero_le _, Nat.zero_le _⟩ (Nat.le_of_ble_eq_true rfl) rfl dX9_leads_12 h (fun r1 σ2 h => ?_)
    refine g_if_eq C 43 dX9_leads_15 (by decide) (fun c15 => ?_) (fun c15 => ?_)
    · have h := h.1 c15
      refine g_iconst C dX9_leads_43 kc_m1 ?_
      exact g_iret C dX9_leads_44 h
    · have h := h.2 c15
      refine g_iload_n C dX9_leads_18 rfl ?_
      refine g_i2l C dX9_leads_19 ?_
      refine g_lconst C dX9_leads_20 kl_0 ?_
      refine g_ldc2 C (v := (lN 3)) mw_674 dX9_leads_21 ?_
      refine g_callSi C [.long (Int32.toInt64 a1), .long (lN 0), .long (lN 3)] (c_X9_in l D cy ad b0 C.A (Int32.toInt64 a1) (lN 0) (lN 3)) cal_X9_in mw_679 rfl ⟨Nat.le_of_ble_eq_true rfl, Nat.le_of_ble_eq_true rfl⟩ ⟨rfl, rfl⟩ ⟨Nat.zero_le _, Nat.zero_le _⟩ (Nat.le_of_ble_eq_true rfl) rfl dX9_leads_24 h (fun r3 σ4 h => ?_)
      refine g_if_eq C 43 dX9_leads_27 (by decide) (fun c27 => ?_) (fun c27 => ?_)
      · have h := h.1 c27
        refine g_iconst C dX9_leads_43 kc_m1 ?_
        exact g_iret C dX9_leads_44 h
      · have h := h.2 c27
        refine g_aload_n C dX9_leads_30 rfl ?_
        refine fget_10_40_X9_85 C rfl dX9_leads_31 ?_
        refine g_iconst C dX9_leads_34 kc_4 ?_
        refine g_iload_n C dX9_leads_35 rfl ?_
        refine g_imul C dX9_leads_36 ?_
        refine g_iload_n C dX9_leads_37 rfl ?_
        refine g_iadd C dX9_leads_38 ?_
        refine g_iald C (by decide) h.1 dX9_leads_39 ?_
        have h := h.2
        refine g_goto C 44 dX9_leads_40 (by decide) ?_
        exact g_iret C dX9_leads_44 h
  · have h := h.2 c4
    refine g_bipush C dX9_leads_7 kb_m3 ?_
    exact g_iret C dX9_leads_9 h
def rm_X9_verdict : Room := { frames := 2, cells := 0, slots := 0, locals := 46 }
def wp_X9_verdict (a0 : Int32) (σ : Sg) (Q : Int32 → Sg → Prop) : Prop :=
  ((¬ (gF σ 10 38) = (nI 0) → wp_X9_isState a0 σ (fun r1 σ2 => ((r1 = (nI 0) → Q (-1 : Int32) σ2) ∧ (¬ r1 = (nI 0) → vp_in a0 (aN 73) ∧ (Q (gA σ2 73 (Int32.toNatClampNeg a0)) σ2))))) ∧ ((gF σ 10 38) = (nI 0) → Q (-3 : Int32) σ))
set_option maxHeartbeats 4000000 in
set_option maxRecDepth 100000 in
theorem c_X9_verdict (l : Launch) (D : va_G) (cy : Nat → ClassId) (ad : Nat → Nat) (b0 : Nat) (hA : AdOk ad b0) (a0 : Int32) : Cti l D cy ad b0 yX9_verdict cX9_verdict 2 (some .int) rm_X9_verdict [.ref (ad 10), .int a0] (fun σ Q => wp_X9_verdict a0 σ Q) := by
  intro σ Q h
  refine g_enter hA rfl (Nat.le_of_ble_eq_true rfl) [some (.ref (ad 10)), some (.int a0)] rfl ?_
  intro p e s m args below meth c C
  refine g_aload_n C dX9_verdict_0 rfl ?_
  refine fget_10_38_X9_257 C rfl dX9_verdict_1 ?_
  refine g_if_ne C 10 dX9_verdict_4 (by decide) (fun c4 => ?_) (fun c4 => ?_)
  · have h := h.1 c4
    refine g_aload_n C dX9_verdict_10 rfl ?_
    refine g_iload_n C dX9_verdict_11 rfl ?_
    refine g_callVi C 10 [.int a0] (c_X9_isState l D cy ad b0 C.A a0) cal_X9_isState mw_675 (by decide) rfl rfl ⟨Nat.le_of_ble_eq_true rfl, Nat.le_of_ble_eq_true rfl⟩ ⟨rfl, rfl⟩ ⟨Nat.zero_le _, Nat.zero_le _⟩ (Nat.le_of_ble_eq_true rfl) rfl dX9_verdict_12 h (fun r1 σ2 h => ?_)
    refine g_if_eq C 27 dX9_verdict_15 (by decide) (fun c15 => ?_) (fun c15 => ?_)
    · have h := h.1 c15
      refine g_iconst C dX9_verdict_27 kc_m1 ?_
      exact g_iret C dX9_verdict_28 h
    · have h := h.2 c15
      refine g_aload_n C dX9_verdict_18 rfl ?_
      refine fget_10_42_X9_91 C rfl dX9_verdict_19 ?_
      refine g_iload_n C dX9_verdict_22 rfl ?_
      refine g_iald C (by decide) h.1 dX9_verdict_23 ?_
      have h := h.2
      refine g_goto C 28 dX9_verdict_24 (by decide) ?_
      exact g_iret C dX9_verdict_28 h
  · have h := h.2 c4
    refine g_bipush C dX9_verdict_7 kb_m3 ?_
    exact g_iret C dX9_verdict_9 h
def rm_X9_farTo : Room := { frames := 1, cells := 0, slots := 0, locals := 25 }
def wp_X9_farTo_71 (v2 : Int32) (v4 : Int32) (s0 : Int32) (K11 : Int32 → Int32 → Sg → Prop) (Q : Int32 → Sg → Prop) (σ : Sg) : Prop :=
  ∀ x72 : Int32, x72 = v4 + (nI 1) → (K11 s0 x72 σ)
set_option maxHeartbeats 4000000 in
set_option maxRecDepth 100000 in
theorem k_X9_farTo_71 {Q : Int32 → Sg → Prop} (C : Cx p s m args meth c D cy ad b0 yX9_farTo cX9_farTo 5 (some .int)) (v2 : Int32) (v4 : Int32) (s0 : Int32) (K11 : Int32 → Int32 → Sg → Prop) (hK11 : ∀ (z3 : Int32) (z4 : Int32) (σ : Sg), K11 z3 z4 σ → gI p l e rm_X9_farTo s m args below meth c D cy ad b0 Q 5 11 σ [some (.ref (ad 10)), none, some (.int v2), some (.int z3), some (.int z4)] []) (σ : Sg) (h : wp_X9_farTo_71 v2 v4 s0 K11 Q σ) : gI p l e rm_X9_farTo s m args below meth c D cy ad b0 Q 5 71 σ [some (.ref (ad 10)), none, some (.int v2), none, some (.int v4)] [.int s0] := by
  refine g_istore_n C [some (.ref (ad 10)), none, some (.int v2), some (.int s0), some (.int v4)] dX9_farTo_71 (by decide) rfl ?_
  obtain ⟨x72, e_x72⟩ : ∃ v : Int32, v = v4 + (nI 1) := ⟨_, rfl⟩
  have h := h x72 e_x72
  refine g_iinc C [some (.ref (ad 10)), none, some (.int v2), some (.int s0), some (.int x72)] dX9_farTo_72 rfl e_x72.symm (by decide) rfl ?_
  refine g_goto C 11 dX9_farTo_75 (by decide) ?_
  exact hK11 s0 x72 σ h
def wp_X9_farTo_70 (v2 : Int32) (v3 : Int32) (v4 : Int32) (K11 : Int32 → Int32 → Sg → Prop) (Q : Int32 → Sg → Prop) (σ : Sg) : Prop :=
  wp_X9_farTo_71 v2 v4 v3 K11 Q σ
set_option maxHeartbeats 4000000 in
set_option maxRecDepth 100000 in
theorem k_X9_farTo_70 {Q : Int32 → Sg → Prop} (C : Cx p s m args meth c D cy ad b0 yX9_farTo cX9_farTo 5 (some .int)) (v2 : Int32) (v3 : Int32) (v4 : Int32) (K11 : Int32 → Int32 → Sg → Prop) (hK11 : ∀ (z3 : Int32) (z4 : Int32) (σ : Sg), K11 z3 z4 σ → gI p l e rm_X9_farTo s m args below meth c D cy ad b0 Q 5 11 σ [some (.ref (ad 10)), none, some (.int v2), some (.int z3), some (.int z4)] []) (σ : Sg) (h : wp_X9_farTo_70 v2 v3 v4 K11 Q σ) : gI p l e rm_X9_farTo s m args below meth c D cy ad b0 Q 5 70 σ [some (.ref (ad 10)), none, some (.int v2), some (.int v3), some (.int v4)] [] := by
  refine g_iload_n C dX9_farTo_70 rfl ?_
  refine g_mask [true, false, true, false, true] rfl ?_
  exact k_X9_farTo_71 C v2 v4 v3 K11 hK11 σ h
def wp_X9_farTo_60 (v2 : Int32) (v4 : Int32) (K11 : Int32 → Int32 → Sg → Prop) (Q : Int32 → Sg → Prop) (σ : Sg) : Prop :=
  vp_in v4 (aN 76) ∧ (wp_X9_farTo_71 v2 v4 (gA σ 76 (Int32.toNatClampNeg v4)) K11 Q σ)
set_option maxHeartbeats 4000000 in
set_option maxRecDepth 100000 in
theorem k_X9_farTo_60 {Q : Int32 → Sg → Prop} (C : Cx p s m args meth c D cy ad b0 yX9_farTo cX9_farTo 5 (some .int)) (v2 : Int32) (v4 : Int32) (K11 : Int32 → Int32 → Sg → Prop) (hK11 : ∀ (z3 : Int32) (z4 : Int32) (σ : Sg), K11 z3 z4 σ → gI p l e rm_X9_farTo s m args below meth c D cy ad b0 Q 5 11 σ [some (.ref (ad 10)), none, some (.int v2), some (.int z3), some (.int z4)] []) (σ : Sg) (h : wp_X9_farTo_60 v2 v4 K11 Q σ) : gI p l e rm_X9_farTo s m args below meth c D cy ad b0 Q 5 60 σ [some (.ref (ad 10)), none, some (.int v2), none, some (.int v4)] [] := by
  refine g_aload_n C dX9_farTo_60 rfl ?_
  refine fget_10_45_X9_100 C rfl dX9_farTo_61 ?_
  refine g_iload C dX9_farTo_64 rfl ?_
  refine g_iald C (by decide) h.1 dX9_farTo_66 ?_
  have h := h.2
  refine g_goto C 71 dX9_farTo_67 (by decide) ?_
  exact k_X9_farTo_71 C v2 v4 (gA σ 76 (Int32.toNatClampNeg v4)) K11 hK11 σ h
def wb_X9_farTo_11 (v2 : Int32) (v3 : Int32) (v4 : Int32) (K11 : Int32 → Int32 → Sg → Prop) (Q : Int32 → Sg → Prop) (σ : Sg) : Prop :=
  (((gF σ 10 39) ≤ v4 → Q v3 σ) ∧ (¬ (gF σ 10 39) ≤ v4 → vp_in v4 (aN 73) ∧ (((¬ (gA σ 73 (Int32.toNatClampNeg v4)) = v2 → wp_X9_farTo_70 v2 v3 v4 K11 Q σ) ∧ ((gA σ 73 (Int32.toNatClampNeg v4)) = v2 → vp_in v4 (aN 76) ∧ ((((gA σ 76 (Int32.toNatClampNeg v4)) = (-9 : Int32) → wp_X9_farTo_70 v2 v3 v4 K11 Q σ) ∧ (¬ (gA σ 76 (Int32.toNatClampNeg v4)) = (-9 : Int32) → ((v3 = (-9 : Int32) → wp_X9_farTo_60 v2 v4 K11 Q σ) ∧ (¬ v3 = (-9 : Int32) → vp_in v4 (aN 76) ∧ (((v3 ≤ (gA σ 76 (Int32.toNatClampNeg v4)) → wp_X9_farTo_70 v2 v3 v4 K11 Q σ) ∧ (¬ v3 ≤ (gA σ 76 (Int32.toNatClampNeg v4)) → wp_X9_farTo_60 v2 v4 K11 Q σ)))))))))))))
set_option maxHeartbeats 4000000 in
set_option maxRecDepth 100000 in
theorem kb_X9_farTo_11 {Q : Int32 → Sg → Prop} (C : Cx p s m args meth c D cy ad b0 yX9_farTo cX9_farTo 5 (some .int)) (v2 : Int32) (v3 : Int32) (v4 : Int32) (K11 : Int32 → Int32 → Sg → Prop) (hK11 : ∀ (z3 : Int32) (z4 : Int32) (σ : Sg), K11 z3 z4 σ → gI p l e rm_X9_farTo s m args below meth c D cy ad b0 Q 5 11 σ [some (.ref (ad 10)), none, some (.int v2), some (.int z3), some (.int z4)] []) (σ : Sg) (h : wb_X9_farTo_11 v2 v3 v4 K11 Q σ) : gI p l e rm_X9_farTo s m args below meth c D cy ad b0 Q 5 11 σ [some (.ref (ad 10)), none, some (.int v2), some (.int v3), some (.int v4)] [] := by
  refine g_iload C dX9_farTo_11 rfl ?_
  refine g_aload_n C dX9_farTo_13 rfl ?_
  refine fget_10_39_X9_237 C rfl dX9_farTo_14 ?_
  refine g_icmp_ge C 78 dX9_farTo_17 (by decide) (fun c17 => ?_) (fun c17 => ?_)
  · have h := h.1 c17
    refine g_iload_n C dX9_farTo_78 rfl ?_
    exact g_iret C dX9_farTo_79 h
  · have h := h.2 c17
    refine g_aload_n C dX9_farTo_20 rfl ?_
    refine fget_10_42_X9_91 C rfl dX9_farTo_21 ?_
    refine g_iload C dX9_farTo_24 rfl ?_
    refine g_iald C (by decide) h.1 dX9_farTo_26 ?_
    have h := h.2
    refine g_iload_n C dX9_farTo_27 rfl ?_
    refine g_icmp_ne C 70 dX9_farTo_28 (by decide) (fun c28 => ?_) (fun c28 => ?_)
    · have h := h.1 c28
      exact k_X9_farTo_70 C v2 v3 v4 K11 hK11 σ h
    · have h := h.2 c28
      refine g_aload_n C dX9_farTo_31 rfl ?_
      refine fget_10_45_X9_100 C rfl dX9_farTo_32 ?_
      refine g_iload C dX9_farTo_35 rfl ?_
      refine g_iald C (by decide) h.1 dX9_farTo_37 ?_
      have h := h.2
      refine g_bipush C dX9_farTo_38 kb_m9 ?_
      refine g_icmp_eq C 70 dX9_farTo_40 (by decide) (fun c40 => ?_) (fun c40 => ?_)
      · have h := h.1 c40
        exact k_X9_farTo_70 C v2 v3 v4 K11 hK11 σ h
      · have h := h.2 c40
        refine g_iload_n C dX9_farTo_43 rfl ?_
        refine g_bipush C dX9_farTo_44 kb_m9 ?_
        refine g_icmp_eq C 60 dX9_farTo_46 (by decide) (fun c46 => ?_) (fun c46 => ?_)
        · have h := h.1 c46
          refine g_mask [true, false, true, false, true] rfl ?_
          exact k_X9_farTo_60 C v2 v4 K11 hK11 σ h
        · have h := h.2 c46
          refine g_aload_n C dX9_farTo_49 rfl ?_
          refine fget_10_45_X9_100 C rfl dX9_farTo_50 ?_
          refine g_iload C dX9_farTo_53 rfl ?_
          refine g_iald C (by decide) h.1 dX9_farTo_55 ?_
          have h := h.2
          refine g_iload_n C dX9_farTo_56 rfl ?_
          refine g_icmp_ge C 70 dX9_farTo_57 (by decide) (fun c57 => ?_) (fun c57 => ?_)
          · have h := h.1 c57
            exact k_X9_farTo_70 C v2 v3 v4 K11 hK11 σ h
          · have h := h.2 c57
            refine g_mask [true, false, true, false, true] rfl ?_
            exact k_X9_farTo_60 C v2 v4 K11 hK11 σ h
def wl_X9_farTo_11 (v2 : Int32) (Q : Int32 → Sg → Prop) : Nat → Int32 → Int32 → Sg → Prop
  | 0, _, _, _ => False
  | n + 1, v3, v4, σ => wb_X9_farTo_11 v2 v3 v4 (wl_X9_farTo_11 v2 Q n) Q σ
set_option maxHeartbeats 4000000 in
set_option maxRecDepth 100000 in
theorem kl_X9_farTo_11 {Q : Int32 → Sg → Prop} (C : Cx p s m args meth c D cy ad b0 yX9_farTo cX9_farTo 5 (some .int)) (v2 : Int32) : ∀ (n : Nat) (v3 : Int32) (v4 : Int32) (σ : Sg), wl_X9_farTo_11 v2 Q n v3 v4 σ → gI p l e rm_X9_farTo s m args below meth c D cy ad b0 Q 5 11 σ [some (.ref (ad 10)), none, some (.int v2), some (.int v3), some (.int v4)] [] := by
  intro n
  induction n with
  | zero => intro v3 v4 σ h; exact False.elim h
  | succ n ih =>
    intro v3 v4 σ h
    exact kb_X9_farTo_11 C v2 v3 v4 (wl_X9_farTo_11 v2 Q n) (fun z3 z4 σ h => ih z3 z4 σ h) σ h
def wp_X9_farTo (a0 : Int32) (a1 : Int32) (σ : Sg) (Q : Int32 → Sg → Prop) : Prop :=
  wp_X9_spread a0 σ (fun σ1 => ∃ n, wl_X9_farTo_11 a1 Q n (-9 : Int32) (nI 0) σ1)
set_option maxHeartbeats 4000000 in
set_option maxRecDepth 100000 in
theorem c_X9_farTo (l : Launch) (D : va_G) (cy : Nat → ClassId) (ad : Nat → Nat) (b0 : Nat) (hA : AdOk ad b0) (a0 : Int32) (a1 : Int32) : Cti l D cy ad b0 yX9_farTo cX9_farTo 5 (some .int) rm_X9_farTo [.ref (ad 10), .int a0, .int a1] (fun σ Q => wp_X9_farTo a0 a1 σ Q) := by
  intro σ Q h
  refine g_enter hA rfl (Nat.le_of_ble_eq_true rfl) [some (.ref (ad 10)), some (.int a0), some (.int a1), none, none] rfl ?_
  intro p e s m args below meth c C
  refine g_aload_n C dX9_farTo_0 rfl ?_
  refine g_iload_n C dX9_farTo_1 rfl ?_
  refine g_callVv C 10 [.int a0] (c_X9_spread l D cy ad b0 C.A a0) cal_X9_spread mw_630 (by decide) rfl rfl ⟨Nat.le_of_ble_eq_true rfl, Nat.le_of_ble_eq_true rfl⟩ ⟨rfl, rfl⟩ ⟨Nat.zero_le _, Nat.zero_le _⟩ (Nat.le_of_ble_eq_true rfl) rfl dX9_farTo_2 h (fun σ1 h => ?_)
  refine g_bipush C dX9_farTo_5 kb_m9 ?_
  refine g_istore_n C [some (.ref (ad 10)), some (.int a0), some (.int a1), some (.int (-9 : Int32)), none] dX9_farTo_7 (by decide) rfl ?_
  refine g_iconst C dX9_farTo_8 kc_0 ?_
  refine g_istore C [some (.ref (ad 10)), some (.int a0), some (.int a1), some (.int (-9 : Int32)), some (.int (nI 0))] dX9_farTo_9 (by decide) rfl ?_
  refine g_mask [true, false, true, true, true] rfl ?_
  obtain ⟨n, h⟩ := h
  exact kl_X9_farTo_11 C a1 n (-9 : Int32) (nI 0) σ1 h
def rm_X9_far : Room := { frames := 2, cells := 0, slots := 0, locals := 49 }
def wp_X9_far (a0 : Int32) (a1 : Int32) (σ : Sg) (Q : Int32 → Sg → Prop) : Prop :=
  ((¬ (gF σ 10 38) = (nI 0) → wp_X9_isState a0 σ (fun r1 σ2 => ((¬ r1 = (nI 0) → wp_X9_in (Int32.toInt64 a1) (lN 0) (lN 3) σ2 (fun r3 σ4 => ((r3 = (nI 0) → Q (-2 : Int32) σ4) ∧ (¬ r3 = (nI 0) → wp_X9_farTo a0 a1 σ4 (fun r5 σ6 => Q r5 σ6))))) ∧ (r1 = (nI 0) → Q (-1 : Int32) σ2)))) ∧ ((gF σ 10 38) = (nI 0) → Q (-3 : Int32) σ))
set_option maxHeartbeats 4000000 in
set_option maxRecDepth 100000 in
theorem c_X9_far (l : Launch) (D : va_G) (cy : Nat → ClassId) (ad : Nat → Nat) (b0 : Nat) (hA : AdOk ad b0) (a0 : Int32) (a1 : Int32) : Cti l D cy ad b0 yX9_far cX9_far 3 (some .int) rm_X9_far [.ref (ad 10), .int a0, .int a1] (fun σ Q => wp_X9_far a0 a1 σ Q) := by
  intro σ Q h
  refine g_enter hA rfl (Nat.le_of_ble_eq_true rfl) [some (.ref (ad 10)), some (.int a0), some (.int a1)] rfl ?_
  intro p e s m args below meth c C
  refine g_aload_n C dX9_far_0 rfl ?_
  refine fget_10_38_X9_257 C rfl dX9_far_1 ?_
  refine g_if_ne C 10 dX9_far_4 (by decide) (fun c4 => ?_) (fun c4 => ?_)
  · have h := h.1 c4
    refine g_aload_n C dX9_far_10 rfl ?_
    refine g_iload_n C dX9_far_11 rfl ?_
    refine g_callVi C 10 [.int a0] (c_X9_isState l D cy ad b0 C.A a0) cal_X9_isState mw_675 (by decide) rfl rfl ⟨Nat.le_of_ble_eq_true rfl, Nat.le_of_ble_eq_true rfl⟩ ⟨rfl, rfl⟩ ⟨Nat.zero_le _, Nat.zero_le _⟩ (Nat.le_of_ble_eq_true rfl) rfl dX9_far_12 h (fun r1 σ2 h => ?_)
    refine g_if_ne C 20 dX9_far_15 (by decide) (fun c15 => ?_) (fun c15 => ?_)
    · have h := h.1 c15
      refine g_iload_n C dX9_far_20 rfl ?_
      refine g_i2l C dX9_far_21 ?_
      refine g_lconst C dX9_far_22 kl_0 ?_
      refine g_ldc2 C (v := (lN 3)) mw_674 dX9_far_23 ?_
      refine g_callSi C [.long (Int32.toInt64 a1), .long (lN 0), .long (lN 3)] (c_X9_in l D cy ad b0 C.A (Int32.toInt64 a1) (lN 0) (lN 3)) cal_X9_in mw_679 rfl ⟨Nat.le_of_ble_eq_true rfl, Nat.le_of_ble_eq_true rfl⟩ ⟨rfl, rfl⟩ ⟨Nat.zero_le _, Nat.zero_le _⟩ (Nat.le_of_ble_eq_true rfl) rfl dX9_far_26 h (fun r3 σ4 h => ?_)
      refine g_if_eq C 41 dX9_far_29 (by decide) (fun c29 => ?_) (fun c29 => ?_)
      · have h := h.1 c29
        refine g_bipush C dX9_far_41 kb_m2 ?_
        exact g_iret C dX9_far_43 h
      · have h := h.2 c29
        refine g_aload_n C dX9_far_32 rfl ?_
        refine g_iload_n C dX9_far_33 rfl ?_
        refine g_iload_n C dX9_far_34 rfl ?_
        refine g_callVi C 10 [.int a0, .int a1] (c_X9_farTo l D cy ad b0 C.A a0 a1) cal_X9_farTo mw_707 (by decide) rfl rfl ⟨Nat.le_of_ble_eq_true rfl, Nat.le_of_ble_eq_true rfl⟩ ⟨rfl, rfl⟩ ⟨Nat.zero_le _, Nat.zero_le _⟩ (Nat.le_of_ble_eq_true rfl) rfl dX9_far_35 h (fun r5 σ6 h => ?_)
        refine g_goto C 43 dX9_far_38 (by decide) ?_
        exact g_iret C dX9_far_43 h
    · have h := h.2 c15
      refine g_iconst C dX9_far_18 kc_m1 ?_
      exact g_iret C dX9_far_19 h
  · have h := h.2 c4
    refine g_bipush C dX9_far_7 kb_m3 ?_
    exact g_iret C dX9_far_9 h
def rm_X9_toward : Room := { frames := 3, cells := 0, slots := 0, locals := 71 }
def wb_X9_toward_25 (v1 : Int32) (v2 : Int32) (v3 : Int32) (v4 : Int32) (K25 : Int32 → Sg → Prop) (Q : Int32 → Sg → Prop) (σ : Sg) : Prop :=
  vp_in (((nI 4) * v1) + v4) (aN 71) ∧ (wp_X9_farTo (gA σ 71 (Int32.toNatClampNeg (((nI 4) * v1) + v4))) v2 σ (fun r1 σ2 => ((r1 = (v3 - (nI 1)) → Q v4 σ2) ∧ (¬ r1 = (v3 - (nI 1)) → ∀ x47 : Int32, x47 = v4 + (nI 1) → (K25 x47 σ2)))))
set_option maxHeartbeats 4000000 in
set_option maxRecDepth 100000 in
theorem kb_X9_toward_25 {Q : Int32 → Sg → Prop} (C : Cx p s m args meth c D cy ad b0 yX9_toward cX9_toward 5 (some .int)) (v1 : Int32) (v2 : Int32) (v3 : Int32) (v4 : Int32) (K25 : Int32 → Sg → Prop) (hK25 : ∀ (z4 : Int32) (σ : Sg), K25 z4 σ → gI p l e rm_X9_toward s m args below meth c D cy ad b0 Q 5 25 σ [some (.ref (ad 10)), some (.int v1), some (.int v2), some (.int v3), some (.int z4)] []) (σ : Sg) (h : wb_X9_toward_25 v1 v2 v3 v4 K25 Q σ) : gI p l e rm_X9_toward s m args below meth c D cy ad b0 Q 5 25 σ [some (.ref (ad 10)), some (.int v1), some (.int v2), some (.int v3), some (.int v4)] [] := by
  refine g_aload_n C dX9_toward_25 rfl ?_
  refine g_aload_n C dX9_toward_26 rfl ?_
  refine fget_10_40_X9_85 C rfl dX9_toward_27 ?_
  refine g_iconst C dX9_toward_30 kc_4 ?_
  refine g_iload_n C dX9_toward_31 rfl ?_
  refine g_imul C dX9_toward_32 ?_
  refine g_iload C dX9_toward_33 rfl ?_
  refine g_iadd C dX9_toward_35 ?_
  refine g_iald C (by decide) h.1 dX9_toward_36 ?_
  have h := h.2
  refine g_iload_n C dX9_toward_37 rfl ?_
  refine g_callVi C 10 [.int (gA σ 71 (Int32.toNatClampNeg (((nI 4) * v1) + v4))), .int v2] (c_X9_farTo l D cy ad b0 C.A (gA σ 71 (Int32.toNatClampNeg (((nI 4) * v1) + v4))) v2) cal_X9_farTo mw_707 (by decide) rfl rfl ⟨Nat.le_of_ble_eq_true rfl, Nat.le_of_ble_eq_true rfl⟩ ⟨rfl, rfl⟩ ⟨Nat.zero_le _, Nat.zero_le _⟩ (Nat.le_of_ble_eq_true rfl) rfl dX9_toward_38 h (fun r1 σ2 h => ?_)
  refine g_iload_n C dX9_toward_41 rfl ?_
  refine g_iconst C dX9_toward_42 kc_1 ?_
  refine g_isub C dX9_toward_43 ?_
  refine g_icmp_eq C 53 dX9_toward_44 (by decide) (fun c44 => ?_) (fun c44 => ?_)
  · have h := h.1 c44
    refine g_iload C dX9_toward_53 rfl ?_
    exact g_iret C dX9_toward_55 h
  · have h := h.2 c44
    obtain ⟨x47, e_x47⟩ : ∃ v : Int32, v = v4 + (nI 1) := ⟨_, rfl⟩
    have h := h x47 e_x47
    refine g_iinc C [some (.ref (ad 10)), some (.int v1), some (.int v2), some (.int v3), some (.int x47)] dX9_toward_47 rfl e_x47.symm (by decide) rfl ?_
    refine g_goto C 25 dX9_toward_50 (by decide) ?_
    exact hK25 x47 σ2 h
def wl_X9_toward_25 (v1 : Int32) (v2 : Int32) (v3 : Int32) (Q : Int32 → Sg → Prop) : Nat → Int32 → Sg → Prop
  | 0, _, _ => False
  | n + 1, v4, σ => wb_X9_toward_25 v1 v2 v3 v4 (wl_X9_toward_25 v1 v2 v3 Q n) Q σ
set_option maxHeartbeats 4000000 in
set_option maxRecDepth 100000 in
theorem kl_X9_toward_25 {Q : Int32 → Sg → Prop} (C : Cx p s m args meth c D cy ad b0 yX9_toward cX9_toward 5 (some .int)) (v1 : Int32) (v2 : Int32) (v3 : Int32) : ∀ (n : Nat) (v4 : Int32) (σ : Sg), wl_X9_toward_25 v1 v2 v3 Q n v4 σ → gI p l e rm_X9_toward s m args below meth c D cy ad b0 Q 5 25 σ [some (.ref (ad 10)), some (.int v1), some (.int v2), some (.int v3), some (.int v4)] [] := by
  intro n
  induction n with
  | zero => intro v4 σ h; exact False.elim h
  | succ n ih =>
    intro v4 σ h
    exact kb_X9_toward_25 C v1 v2 v3 v4 (wl_X9_toward_25 v1 v2 v3 Q n) (fun z4 σ h => ih z4 σ h) σ h
def wp_X9_toward (a0 : Int32) (a1 : Int32) (σ : Sg) (Q : Int32 → Sg → Prop) : Prop :=
  wp_X9_far a0 a1 σ (fun r1 σ2 => (((nI 0) < r1 → ∃ n, wl_X9_toward_25 a0 a1 r1 Q n (nI 0) σ2) ∧ (¬ (nI 0) < r1 → ((¬ r1 = (nI 0) → Q r1 σ2) ∧ (r1 = (nI 0) → Q (-9 : Int32) σ2)))))
set_option maxHeartbeats 4000000 in
set_option maxRecDepth 100000 in
theorem c_X9_toward (l : Launch) (D : va_G) (cy : Nat → ClassId) (ad : Nat → Nat) (b0 : Nat) (hA : AdOk ad b0) (a0 : Int32) (a1 : Int32) : Cti l D cy ad b0 yX9_toward cX9_toward 5 (some .int) rm_X9_toward [.ref (ad 10), .int a0, .int a1] (fun σ Q => wp_X9_toward a0 a1 σ Q) := by
  intro σ Q h
  refine g_enter hA rfl (Nat.le_of_ble_eq_true rfl) [some (.ref (ad 10)), some (.int a0), some (.int a1), none, none] rfl ?_
  intro p e s m args below meth c C
  refine g_aload_n C dX9_toward_0 rfl ?_
  refine g_iload_n C dX9_toward_1 rfl ?_
  refine g_iload_n C dX9_toward_2 rfl ?_
  refine g_callVi C 10 [.int a0, .int a1] (c_X9_far l D cy ad b0 C.A a0 a1) cal_X9_far mw_723 (by decide) rfl rfl ⟨Nat.le_of_ble_eq_true rfl, Nat.le_of_ble_eq_true rfl⟩ ⟨rfl, rfl⟩ ⟨Nat.zero_le _, Nat.zero_le _⟩ (Nat.le_of_ble_eq_true rfl) rfl dX9_toward_3 h (fun r1 σ2 h => ?_)
  refine g_istore_n C [some (.ref (ad 10)), some (.int a0), some (.int a1), some (.int r1), none] dX9_toward_6 (by decide) rfl ?_
  refine g_iload_n C dX9_toward_7 rfl ?_
  refine g_if_gt C 22 dX9_toward_8 (by decide) (fun c8 => ?_) (fun c8 => ?_)
  · have h := h.1 c8
    refine g_iconst C dX9_toward_22 kc_0 ?_
    refine g_istore C [some (.ref (ad 10)), some (.int a0), some (.int a1), some (.int r1), some (.int (nI 0))] dX9_toward_23 (by decide) rfl ?_
    obtain ⟨n, h⟩ := h
    exact kl_X9_toward_25 C a0 a1 r1 n (nI 0) σ2 h
  · have h := h.2 c8
    refine g_iload_n C dX9_toward_11 rfl ?_
    refine g_if_ne C 20 dX9_toward_12 (by decide) (fun c12 => ?_) (fun c12 => ?_)
    · have h := h.1 c12
      refine g_iload_n C dX9_toward_20 rfl ?_
      exact g_iret C dX9_toward_21 h
    · have h := h.2 c12
      refine g_bipush C dX9_toward_15 kb_m9 ?_
      refine g_goto C 21 dX9_toward_17 (by decide) ?_
      exact g_iret C dX9_toward_21 h
def rm_X9_countTo : Room := { frames := 0, cells := 0, slots := 0, locals := 0 }
def wp_X9_countTo_103 (v1 : Int32) (v2 : Int32) (K2 : Int32 → Sg → Prop) (Q : Sg → Prop) (σ : Sg) : Prop :=
  ∀ x103 : Int32, x103 = v2 + (nI 1) → (K2 x103 σ)
set_option maxHeartbeats 4000000 in
set_option maxRecDepth 100000 in
theorem k_X9_countTo_103 {Q : Sg → Prop} (C : Cx p s m args meth c D cy ad b0 yX9_countTo cX9_countTo 7 none) (v1 : Int32) (v2 : Int32) (K2 : Int32 → Sg → Prop) (hK2 : ∀ (z2 : Int32) (σ : Sg), K2 z2 σ → gV p l e rm_X9_countTo s m args below meth c D cy ad b0 Q 7 2 σ [some (.ref (ad 10)), some (.int v1), some (.int z2), none, none, none, none] []) (σ : Sg) (h : wp_X9_countTo_103 v1 v2 K2 Q σ) : gV p l e rm_X9_countTo s m args below meth c D cy ad b0 Q 7 103 σ [some (.ref (ad 10)), some (.int v1), some (.int v2), none, none, none, none] [] := by
  obtain ⟨x103, e_x103⟩ : ∃ v : Int32, v = v2 + (nI 1) := ⟨_, rfl⟩
  have h := h x103 e_x103
  refine g_iinc C [some (.ref (ad 10)), some (.int v1), some (.int x103), none, none, none, none] dX9_countTo_103 rfl e_x103.symm (by decide) rfl ?_
  refine g_goto C 2 dX9_countTo_106 (by decide) ?_
  exact hK2 x103 σ h
def wp_X9_countTo_84 (v1 : Int32) (v2 : Int32) (v3 : Int32) (v4 : Int64) (K9 : Int32 → Sg → Prop) (Q : Sg → Prop) (σ : Sg) : Prop :=
  vp_in (((nI 60) * v2) + v3) (aN 78) ∧ (∀ σ1 : Sg, σ1 = stL σ 78 (Int32.toNatClampNeg (((nI 60) * v2) + v3)) v4 → (∀ x97 : Int32, x97 = v3 + (nI 1) → (K9 x97 σ1)))
set_option maxHeartbeats 4000000 in
set_option maxRecDepth 100000 in
theorem k_X9_countTo_84 {Q : Sg → Prop} (C : Cx p s m args meth c D cy ad b0 yX9_countTo cX9_countTo 7 none) (v1 : Int32) (v2 : Int32) (v3 : Int32) (v4 : Int64) (K9 : Int32 → Sg → Prop) (hK9 : ∀ (z3 : Int32) (σ : Sg), K9 z3 σ → gV p l e rm_X9_countTo s m args below meth c D cy ad b0 Q 7 9 σ [some (.ref (ad 10)), some (.int v1), some (.int v2), some (.int z3), none, none, none] []) (σ : Sg) (h : wp_X9_countTo_84 v1 v2 v3 v4 K9 Q σ) : gV p l e rm_X9_countTo s m args below meth c D cy ad b0 Q 7 84 σ [some (.ref (ad 10)), some (.int v1), some (.int v2), some (.int v3), some (.long v4), none, none] [] := by
  refine g_aload_n C dX9_countTo_84 rfl ?_
  refine fget_10_47_X9_106 C rfl dX9_countTo_85 ?_
  refine g_bipush C dX9_countTo_88 kb_60 ?_
  refine g_iload_n C dX9_countTo_90 rfl ?_
  refine g_imul C dX9_countTo_91 ?_
  refine g_iload_n C dX9_countTo_92 rfl ?_
  refine g_iadd C dX9_countTo_93 ?_
  refine g_lload C dX9_countTo_94 rfl ?_
  refine g_last C (by decide) h.1 dX9_countTo_96 (fun σ1 e_σ1 => ?_)
  have h := h.2 σ1 e_σ1
  obtain ⟨x97, e_x97⟩ : ∃ v : Int32, v = v3 + (nI 1) := ⟨_, rfl⟩
  have h := h x97 e_x97
  refine g_iinc C [some (.ref (ad 10)), some (.int v1), some (.int v2), some (.int x97), some (.long v4), none, none] dX9_countTo_97 rfl e_x97.symm (by decide) rfl ?_
  refine g_goto C 9 dX9_countTo_100 (by decide) ?_
  refine g_mask [true, true, true, true, false, false, false] rfl ?_
  exact hK9 x97 σ1 h
def wb_X9_countTo_40 (v1 : Int32) (v2 : Int32) (v3 : Int32) (v4 : Int64) (v6 : Int32) (K40 : Int64 → Int32 → Sg → Prop) (K84 : Int64 → Sg → Prop) (Q : Sg → Prop) (σ : Sg) : Prop :=
  (((nI 4) ≤ v6 → K84 v4 σ) ∧ (¬ (nI 4) ≤ v6 → ((v2 ≤ (nI 0) → K84 v4 σ) ∧ (¬ v2 ≤ (nI 0) → vp_in (((nI 4) * v3) + v6) (aN 71) ∧ (vp_in (((nI 60) * (v2 - (nI 1))) + (gA σ 71 (Int32.toNatClampNeg (((nI 4) * v3) + v6)))) (aN 78) ∧ (∀ x76 : Int64, x76 = (v4 + (gL σ 78 (Int32.toNatClampNeg (((nI 60) * (v2 - (nI 1))) + (gA σ 71 (Int32.toNatClampNeg (((nI 4) * v3) + v6))))))) → (∀ x78 : Int32, x78 = v6 + (nI 1) → (K40 x76 x78 σ))))))))
set_option maxHeartbeats 4000000 in
set_option maxRecDepth 100000 in
theorem kb_X9_countTo_40 {Q : Sg → Prop} (C : Cx p s m args meth c D cy ad b0 yX9_countTo cX9_countTo 7 none) (v1 : Int32) (v2 : Int32) (v3 : Int32) (v4 : Int64) (v6 : Int32) (K40 : Int64 → Int32 → Sg → Prop) (K84 : Int64 → Sg → Prop) (hK40 : ∀ (z4 : Int64) (z6 : Int32) (σ : Sg), K40 z4 z6 σ → gV p l e rm_X9_countTo s m args below meth c D cy ad b0 Q 7 40 σ [some (.ref (ad 10)), some (.int v1), some (.int v2), some (.int v3), some (.long z4), none, some (.int z6)] []) (hK84 : ∀ (z4 : Int64) (σ : Sg), K84 z4 σ → gV p l e rm_X9_countTo s m args below meth c D cy ad b0 Q 7 84 σ [some (.ref (ad 10)), some (.int v1), some (.int v2), some (.int v3), some (.long z4), none, none] []) (σ : Sg) (h : wb_X9_countTo_40 v1 v2 v3 v4 v6 K40 K84 Q σ) : gV p l e rm_X9_countTo s m args below meth c D cy ad b0 Q 7 40 σ [some (.ref (ad 10)), some (.int v1), some (.int v2), some (.int v3), some (.long v4), none, some (.int v6)] [] := by
  refine g_iload C dX9_countTo_40 rfl ?_
  refine g_iconst C dX9_countTo_42 kc_4 ?_
  refine g_icmp_ge C 84 dX9_countTo_43 (by decide) (fun c43 => ?_) (fun c43 => ?_)
  · have h := h.1 c43
    refine g_mask [true, true, true, true, true, false, false] rfl ?_
    exact hK84 v4 σ h
  · have h := h.2 c43
    refine g_iload_n C dX9_countTo_46 rfl ?_
    refine g_if_le C 84 dX9_countTo_47 (by decide) (fun c47 => ?_) (fun c47 => ?_)
    · have h := h.1 c47
      refine g_mask [true, true, true, true, true, false, false] rfl ?_
      exact hK84 v4 σ h
    · have h := h.2 c47
      refine g_lload C dX9_countTo_50 rfl ?_
      refine g_aload_n C dX9_countTo_52 rfl ?_
      refine fget_10_47_X9_106 C rfl dX9_countTo_53 ?_
      refine g_bipush C dX9_countTo_56 kb_60 ?_
      refine g_iload_n C dX9_countTo_58 rfl ?_
      refine g_iconst C dX9_countTo_59 kc_1 ?_
      refine g_isub C dX9_countTo_60 ?_
      refine g_imul C dX9_countTo_61 ?_
      refine g_aload_n C dX9_countTo_62 rfl ?_
      refine fget_10_40_X9_85 C rfl dX9_countTo_63 ?_
      refine g_iconst C dX9_countTo_66 kc_4 ?_
      refine g_iload_n C dX9_countTo_67 rfl ?_
      refine g_imul C dX9_countTo_68 ?_
      refine g_iload C dX9_countTo_69 rfl ?_
      refine g_iadd C dX9_countTo_71 ?_
      refine g_iald C (by decide) h.1 dX9_countTo_72 ?_
      have h := h.2
      refine g_iadd C dX9_countTo_73 ?_
      refine g_lald C (by decide) h.1 dX9_countTo_74 ?_
      have h := h.2
      refine g_ladd C dX9_countTo_75 ?_
      refine g_topl (fun x76 e_x76 => ?_)
      have h := h x76 e_x76
      refine g_lstore C [some (.ref (ad 10)), some (.int v1), some (.int v2), some (.int v3), some (.long x76), none, some (.int v6)] dX9_countTo_76 (by decide) rfl ?_
      obtain ⟨x78, e_x78⟩ : ∃ v : Int32, v = v6 + (nI 1) := ⟨_, rfl⟩
      have h := h x78 e_x78
      refine g_iinc C [some (.ref (ad 10)), some (.int v1), some (.int v2), some (.int v3), some (.long x76), none, some (.int x78)] dX9_countTo_78 rfl e_x78.symm (by decide) rfl ?_
      refine g_goto C 40 dX9_countTo_81 (by decide) ?_
      exact hK40 x76 x78 σ h
def wl_X9_countTo_40 (v1 : Int32) (v2 : Int32) (v3 : Int32) (K84 : Int64 → Sg → Prop) (Q : Sg → Prop) : Nat → Int64 → Int32 → Sg → Prop
  | 0, _, _, _ => False
  | n + 1, v4, v6, σ => wb_X9_countTo_40 v1 v2 v3 v4 v6 (wl_X9_countTo_40 v1 v2 v3 K84 Q n) K84 Q σ
set_option maxHeartbeats 4000000 in
set_option maxRecDepth 100000 in
theorem kl_X9_countTo_40 {Q : Sg → Prop} (C : Cx p s m args meth c D cy ad b0 yX9_countTo cX9_countTo 7 none) (v1 : Int32) (v2 : Int32) (v3 : Int32) (K84 : Int64 → Sg → Prop) (hK84 : ∀ (z4 : Int64) (σ : Sg), K84 z4 σ → gV p l e rm_X9_countTo s m args below meth c D cy ad b0 Q 7 84 σ [some (.ref (ad 10)), some (.int v1), some (.int v2), some (.int v3), some (.long z4), none, none] []) : ∀ (n : Nat) (v4 : Int64) (v6 : Int32) (σ : Sg), wl_X9_countTo_40 v1 v2 v3 K84 Q n v4 v6 σ → gV p l e rm_X9_countTo s m args below meth c D cy ad b0 Q 7 40 σ [some (.ref (ad 10)), some (.int v1), some (.int v2), some (.int v3), some (.long v4), none, some (.int v6)] [] := by
  intro n
  induction n with
  | zero => intro v4 v6 σ h; exact False.elim h
  | succ n ih =>
    intro v4 v6 σ h
    exact kb_X9_countTo_40 C v1 v2 v3 v4 v6 (wl_X9_countTo_40 v1 v2 v3 K84 Q n) K84 (fun z4 z6 σ h => ih z4 z6 σ h) hK84 σ h
def wp_X9_countTo_35 (v1 : Int32) (v2 : Int32) (v3 : Int32) (s0 : Int64) (K9 : Int32 → Sg → Prop) (Q : Sg → Prop) (σ : Sg) : Prop :=
  ∃ n, wl_X9_countTo_40 v1 v2 v3 (fun z4 σ9 => wp_X9_countTo_84 v1 v2 v3 z4 K9 Q σ9) Q n s0 (nI 0) σ
set_option maxHeartbeats 4000000 in
set_option maxRecDepth 100000 in
theorem k_X9_countTo_35 {Q : Sg → Prop} (C : Cx p s m args meth c D cy ad b0 yX9_countTo cX9_countTo 7 none) (v1 : Int32) (v2 : Int32) (v3 : Int32) (s0 : Int64) (K9 : Int32 → Sg → Prop) (hK9 : ∀ (z3 : Int32) (σ : Sg), K9 z3 σ → gV p l e rm_X9_countTo s m args below meth c D cy ad b0 Q 7 9 σ [some (.ref (ad 10)), some (.int v1), some (.int v2), some (.int z3), none, none, none] []) (σ : Sg) (h : wp_X9_countTo_35 v1 v2 v3 s0 K9 Q σ) : gV p l e rm_X9_countTo s m args below meth c D cy ad b0 Q 7 35 σ [some (.ref (ad 10)), some (.int v1), some (.int v2), some (.int v3), none, none, none] [.long s0] := by
  refine g_lstore C [some (.ref (ad 10)), some (.int v1), some (.int v2), some (.int v3), some (.long s0), none, none] dX9_countTo_35 (by decide) rfl ?_
  refine g_iconst C dX9_countTo_37 kc_0 ?_
  refine g_istore C [some (.ref (ad 10)), some (.int v1), some (.int v2), some (.int v3), some (.long s0), none, some (.int (nI 0))] dX9_countTo_38 (by decide) rfl ?_
  obtain ⟨n, h⟩ := h
  exact kl_X9_countTo_40 C v1 v2 v3 _ (fun z4 σ9 h => by exact k_X9_countTo_84 C v1 v2 v3 z4 K9 hK9 σ9 h) n s0 (nI 0) σ h
def wp_X9_countTo_34 (v1 : Int32) (v2 : Int32) (v3 : Int32) (K9 : Int32 → Sg → Prop) (Q : Sg → Prop) (σ : Sg) : Prop :=
  wp_X9_countTo_35 v1 v2 v3 (lN 0) K9 Q σ
set_option maxHeartbeats 4000000 in
set_option maxRecDepth 100000 in
theorem k_X9_countTo_34 {Q : Sg → Prop} (C : Cx p s m args meth c D cy ad b0 yX9_countTo cX9_countTo 7 none) (v1 : Int32) (v2 : Int32) (v3 : Int32) (K9 : Int32 → Sg → Prop) (hK9 : ∀ (z3 : Int32) (σ : Sg), K9 z3 σ → gV p l e rm_X9_countTo s m args below meth c D cy ad b0 Q 7 9 σ [some (.ref (ad 10)), some (.int v1), some (.int v2), some (.int z3), none, none, none] []) (σ : Sg) (h : wp_X9_countTo_34 v1 v2 v3 K9 Q σ) : gV p l e rm_X9_countTo s m args below meth c D cy ad b0 Q 7 34 σ [some (.ref (ad 10)), some (.int v1), some (.int v2), some (.int v3), none, none, none] [] := by
  refine g_lconst C dX9_countTo_34 kl_0 ?_
  exact k_X9_countTo_35 C v1 v2 v3 (lN 0) K9 hK9 σ h
def wb_X9_countTo_9 (v1 : Int32) (v2 : Int32) (v3 : Int32) (K9 : Int32 → Sg → Prop) (K103 : Sg → Prop) (Q : Sg → Prop) (σ : Sg) : Prop :=
  (((gF σ 10 39) ≤ v3 → K103 σ) ∧ (¬ (gF σ 10 39) ≤ v3 → ((¬ v2 = (nI 0) → wp_X9_countTo_34 v1 v2 v3 K9 Q σ) ∧ (v2 = (nI 0) → vp_in v3 (aN 72) ∧ ((((gA σ 72 (Int32.toNatClampNeg v3)) = (nI 0) → wp_X9_countTo_34 v1 v2 v3 K9 Q σ) ∧ (¬ (gA σ 72 (Int32.toNatClampNeg v3)) = (nI 0) → wp_X9_countTo_35 v1 v2 v3 (lN 1) K9 Q σ)))))))
set_option maxHeartbeats 4000000 in
set_option maxRecDepth 100000 in
theorem kb_X9_countTo_9 {Q : Sg → Prop} (C : Cx p s m args meth c D cy ad b0 yX9_countTo cX9_countTo 7 none) (v1 : Int32) (v2 : Int32) (v3 : Int32) (K9 : Int32 → Sg → Prop) (K103 : Sg → Prop) (hK9 : ∀ (z3 : Int32) (σ : Sg), K9 z3 σ → gV p l e rm_X9_countTo s m args below meth c D cy ad b0 Q 7 9 σ [some (.ref (ad 10)), some (.int v1), some (.int v2), some (.int z3), none, none, none] []) (hK103 : ∀  (σ : Sg), K103 σ → gV p l e rm_X9_countTo s m args below meth c D cy ad b0 Q 7 103 σ [some (.ref (ad 10)), some (.int v1), some (.int v2), none, none, none, none] []) (σ : Sg) (h : wb_X9_countTo_9 v1 v2 v3 K9 K103 Q σ) : gV p l e rm_X9_countTo s m args below meth c D cy ad b0 Q 7 9 σ [some (.ref (ad 10)), some (.int v1), some (.int v2), some (.int v3), none, none, none] [] := by
  refine g_iload_n C dX9_countTo_9 rfl ?_
  refine g_aload_n C dX9_countTo_10 rfl ?_
  refine fget_10_39_X9_237 C rfl dX9_countTo_11 ?_
  refine g_icmp_ge C 103 dX9_countTo_14 (by decide) (fun c14 => ?_) (fun c14 => ?_)
  · have h := h.1 c14
    refine g_mask [true, true, true, false, false, false, false] rfl ?_
    exact hK103 σ h
  · have h := h.2 c14
    refine g_iload_n C dX9_countTo_17 rfl ?_
    refine g_if_ne C 34 dX9_countTo_18 (by decide) (fun c18 => ?_) (fun c18 => ?_)
    · have h := h.1 c18
      exact k_X9_countTo_34 C v1 v2 v3 K9 hK9 σ h
    · have h := h.2 c18
      refine g_aload_n C dX9_countTo_21 rfl ?_
      refine fget_10_41_X9_88 C rfl dX9_countTo_22 ?_
      refine g_iload_n C dX9_countTo_25 rfl ?_
      refine g_zald C (by decide) h.1 dX9_countTo_26 ?_
      have h := h.2
      refine g_if_eq C 34 dX9_countTo_27 (by decide) (fun c27 => ?_) (fun c27 => ?_)
      · have h := h.1 c27
        exact k_X9_countTo_34 C v1 v2 v3 K9 hK9 σ h
      · have h := h.2 c27
        refine g_lconst C dX9_countTo_30 kl_1 ?_
        refine g_goto C 35 dX9_countTo_31 (by decide) ?_
        exact k_X9_countTo_35 C v1 v2 v3 (lN 1) K9 hK9 σ h
def wl_X9_countTo_9 (v1 : Int32) (v2 : Int32) (K103 : Sg → Prop) (Q : Sg → Prop) : Nat → Int32 → Sg → Prop
  | 0, _, _ => False
  | n + 1, v3, σ => wb_X9_countTo_9 v1 v2 v3 (wl_X9_countTo_9 v1 v2 K103 Q n) K103 Q σ
set_option maxHeartbeats 4000000 in
set_option maxRecDepth 100000 in
theorem kl_X9_countTo_9 {Q : Sg → Prop} (C : Cx p s m args meth c D cy ad b0 yX9_countTo cX9_countTo 7 none) (v1 : Int32) (v2 : Int32) (K103 : Sg → Prop) (hK103 : ∀  (σ : Sg), K103 σ → gV p l e rm_X9_countTo s m args below meth c D cy ad b0 Q 7 103 σ [some (.ref (ad 10)), some (.int v1), some (.int v2), none, none, none, none] []) : ∀ (n : Nat) (v3 : Int32) (σ : Sg), wl_X9_countTo_9 v1 v2 K103 Q n v3 σ → gV p l e rm_X9_countTo s m args below meth c D cy ad b0 Q 7 9 σ [some (.ref (ad 10)), some (.int v1), some (.int v2), some (.int v3), none, none, none] [] := by
  intro n
  induction n with
  | zero => intro v3 σ h; exact False.elim h
  | succ n ih =>
    intro v3 σ h
    exact kb_X9_countTo_9 C v1 v2 v3 (wl_X9_countTo_9 v1 v2 K103 Q n) K103 (fun z3 σ h => ih z3 σ h) hK103 σ h
def wb_X9_countTo_2 (v1 : Int32) (v2 : Int32) (K2 : Int32 → Sg → Prop) (Q : Sg → Prop) (σ : Sg) : Prop :=
  ((v1 < v2 → Q σ) ∧ (¬ v1 < v2 → ∃ n, wl_X9_countTo_9 v1 v2 (fun σ9 => wp_X9_countTo_103 v1 v2 K2 Q σ9) Q n (nI 0) σ))
set_option maxHeartbeats 4000000 in
set_option maxRecDepth 100000 in
theorem kb_X9_countTo_2 {Q : Sg → Prop} (C : Cx p s m args meth c D cy ad b0 yX9_countTo cX9_countTo 7 none) (v1 : Int32) (v2 : Int32) (K2 : Int32 → Sg → Prop) (hK2 : ∀ (z2 : Int32) (σ : Sg), K2 z2 σ → gV p l e rm_X9_countTo s m args below meth c D cy ad b0 Q 7 2 σ [some (.ref (ad 10)), some (.int v1), some (.int z2), none, none, none, none] []) (σ : Sg) (h : wb_X9_countTo_2 v1 v2 K2 Q σ) : gV p l e rm_X9_countTo s m args below meth c D cy ad b0 Q 7 2 σ [some (.ref (ad 10)), some (.int v1), some (.int v2), none, none, none, none] [] := by
  refine g_iload_n C dX9_countTo_2 rfl ?_
  refine g_iload_n C dX9_countTo_3 rfl ?_
  refine g_icmp_gt C 109 dX9_countTo_4 (by decide) (fun c4 => ?_) (fun c4 => ?_)
  · have h := h.1 c4
    exact g_vret C dX9_countTo_109 h
  · have h := h.2 c4
    refine g_iconst C dX9_countTo_7 kc_0 ?_
    refine g_istore_n C [some (.ref (ad 10)), some (.int v1), some (.int v2), some (.int (nI 0)), none, none, none] dX9_countTo_8 (by decide) rfl ?_
    obtain ⟨n, h⟩ := h
    exact kl_X9_countTo_9 C v1 v2 _ (fun σ9 h => by exact k_X9_countTo_103 C v1 v2 K2 hK2 σ9 h) n (nI 0) σ h
def wl_X9_countTo_2 (v1 : Int32) (Q : Sg → Prop) : Nat → Int32 → Sg → Prop
  | 0, _, _ => False
  | n + 1, v2, σ => wb_X9_countTo_2 v1 v2 (wl_X9_countTo_2 v1 Q n) Q σ
set_option maxHeartbeats 4000000 in
set_option maxRecDepth 100000 in
theorem kl_X9_countTo_2 {Q : Sg → Prop} (C : Cx p s m args meth c D cy ad b0 yX9_countTo cX9_countTo 7 none) (v1 : Int32) : ∀ (n : Nat) (v2 : Int32) (σ : Sg), wl_X9_countTo_2 v1 Q n v2 σ → gV p l e rm_X9_countTo s m args below meth c D cy ad b0 Q 7 2 σ [some (.ref (ad 10)), some (.int v1), some (.int v2), none, none, none, none] [] := by
  intro n
  induction n with
  | zero => intro v2 σ h; exact False.elim h
  | succ n ih =>
    intro v2 σ h
    exact kb_X9_countTo_2 C v1 v2 (wl_X9_countTo_2 v1 Q n) (fun z2 σ h => ih z2 σ h) σ h
def wp_X9_countTo (a0 : Int32) (σ : Sg) (Q : Sg → Prop) : Prop :=
  ∃ n, wl_X9_countTo_2 a0 Q n (nI 0) σ
set_option maxHeartbeats 4000000 in
set_option maxRecDepth 100000 in
theorem c_X9_countTo (l : Launch) (D : va_G) (cy : Nat → ClassId) (ad : Nat → Nat) (b0 : Nat) (hA : AdOk ad b0) (a0 : Int32) : Ctv l D cy ad b0 yX9_countTo cX9_countTo 7 none rm_X9_countTo [.ref (ad 10), .int a0] (fun σ Q => wp_X9_countTo a0 σ Q) := by
  intro σ Q h
  refine g_enter hA rfl (Nat.le_of_ble_eq_true rfl) [some (.ref (ad 10)), some (.int a0), none, none, none, none, none] rfl ?_
  intro p e s m args below meth c C
  refine g_iconst C dX9_countTo_0 kc_0 ?_
  refine g_istore_n C [some (.ref (ad 10)), some (.int a0), some (.int (nI 0)), none, none, none, none] dX9_countTo_1 (by decide) rfl ?_
  obtain ⟨n, h⟩ := h
  exact kl_X9_countTo_2 C a0 n (nI 0) σ h
def rm_X9_runs : Room := { frames := 2, cells := 0, slots := 0, locals := 46 }
def wp_X9_runs (a0 : Int32) (a1 : Int32) (σ : Sg) (Q : Int64 → Sg → Prop) : Prop :=
  ((¬ (gF σ 10 38) = (nI 0) → wp_X9_isState a0 σ (fun r1 σ2 => ((¬ r1 = (nI 0) → wp_X9_in (Int32.toInt64 a1) (lN 0) (lN 25) σ2 (fun r3 σ4 => ((¬ r3 = (nI 0) → wp_X9_countTo a1 σ4 (fun σ5 => vp_in (((nI 60) * a1) + a0) (aN 78) ∧ (Q (gL σ5 78 (Int32.toNatClampNeg (((nI 60) * a1) + a0))) σ5))) ∧ (r3 = (nI 0) → Q (-2 : Int64) σ4)))) ∧ (r1 = (nI 0) → Q (-1 : Int64) σ2)))) ∧ ((gF σ 10 38) = (nI 0) → Q (-3 : Int64) σ))
set_option maxHeartbeats 4000000 in
set_option maxRecDepth 100000 in
theorem c_X9_runs (l : Launch) (D : va_G) (cy : Nat → ClassId) (ad : Nat → Nat) (b0 : Nat) (hA : AdOk ad b0) (a0 : Int32) (a1 : Int32) : Ctl l D cy ad b0 yX9_runs cX9_runs 3 (some .long) rm_X9_runs [.ref (ad 10), .int a0, .int a1] (fun σ Q => wp_X9_runs a0 a1 σ Q) := by
  intro σ Q h
  refine g_enter hA rfl (Nat.le_of_ble_eq_true rfl) [some (.ref (ad 10)), some (.int a0), some (.int a1)] rfl ?_
  intro p e s m args below meth c C
  refine g_aload_n C dX9_runs_0 rfl ?_
  refine fget_10_38_X9_257 C rfl dX9_runs_1 ?_
  refine g_if_ne C 11 dX9_runs_4 (by decide) (fun c4 => ?_) (fun c4 => ?_)
  · have h := h.1 c4
    refine g_aload_n C dX9_runs_11 rfl ?_
    refine g_iload_n C dX9_runs_12 rfl ?_
    refine g_callVi C 10 [.int a0] (c_X9_isState l D cy ad b0 C.A a0) cal_X9_isState mw_675 (by decide) rfl rfl ⟨Nat.le_of_ble_eq_true rfl, Nat.le_of_ble_eq_true rfl⟩ ⟨rfl, rfl⟩ ⟨Nat.zero_le _, Nat.zero_le _⟩ (Nat.le_of_ble_eq_true rfl) rfl dX9_runs_13 h (fun r1 σ2 h => ?_)
    refine g_if_ne C 23 dX9_runs_16 (by decide) (fun c16 => ?_) (fun c16 => ?_)
    · have h := h.1 c16
      refine g_iload_n C dX9_runs_23 rfl ?_
      refine g_i2l C dX9_runs_24 ?_
      refine g_lconst C dX9_runs_25 kl_0 ?_
      refine g_ldc2 C (v := (lN 25)) mw_739 dX9_runs_26 ?_
      refine g_callSi C [.long (Int32.toInt64 a1), .long (lN 0), .long (lN 25)] (c_X9_in l D cy ad b0 C.A (Int32.toInt64 a1) (lN 0) (lN 25)) cal_X9_in mw_679 rfl ⟨Nat.le_of_ble_eq_true rfl, Nat.le_of_ble_eq_true rfl⟩ ⟨rfl, rfl⟩ ⟨Nat.zero_le _, Nat.zero_le _⟩ (Nat.le_of_ble_eq_true rfl) rfl dX9_runs_29 h (fun r3 σ4 h => ?_)
      refine g_if_ne C 39 dX9_runs_32 (by decide) (fun c32 => ?_) (fun c32 => ?_)
      · have h := h.1 c32
        refine g_aload_n C dX9_runs_39 rfl ?_
        refine g_iload_n C dX9_runs_40 rfl ?_
        refine g_callVv C 10 [.int a1] (c_X9_countTo l D cy ad b0 C.A a1) cal_X9_countTo mw_741 (by decide) rfl rfl ⟨Nat.le_of_ble_eq_true rfl, Nat.le_of_ble_eq_true rfl⟩ ⟨rfl, rfl⟩ ⟨Nat.zero_le _, Nat.zero_le _⟩ (Nat.le_of_ble_eq_true rfl) rfl dX9_runs_41 h (fun σ5 h => ?_)
        refine g_aload_n C dX9_runs_44 rfl ?_
        refine fget_10_47_X9_106 C rfl dX9_runs_45 ?_
        refine g_bipush C dX9_runs_48 kb_60 ?_
        refine g_iload_n C dX9_runs_50 rfl ?_
        refine g_imul C dX9_runs_51 ?_
        refine g_iload_n C dX9_runs_52 rfl ?_
        refine g_iadd C dX9_runs_53 ?_
        refine g_lald C (by decide) h.1 dX9_runs_54 ?_
        have h := h.2
        exact g_lret C dX9_runs_55 h
      · have h := h.2 c32
        refine g_ldc2 C (v := (-2 : Int64)) mw_740 dX9_runs_35 ?_
        exact g_lret C dX9_runs_38 h
    · have h := h.2 c16
      refine g_ldc2 C (v := (-1 : Int64)) mw_738 dX9_runs_19 ?_
      exact g_lret C dX9_runs_22 h
  · have h := h.2 c4
    refine g_ldc2 C (v := (-3 : Int64)) mw_737 dX9_runs_7 ?_
    exact g_lret C dX9_runs_10 h
def rm_X9_run : Room := { frames := 3, cells := 0, slots := 0, locals := 68 }
def wp_X9_run_100 (v2 : Int32) (v3 : Int32) (v6 : Int32) (v7 : Int32) (v8 : Int32) (K53 : Int32 → Int32 → Int32 → Sg → Prop) (Q : Int32 → Sg → Prop) (σ : Sg) : Prop :=
  vp_in (((nI 4) * v6) + v7) (aN 71) ∧ (∀ x112 : Int32, x112 = (gA σ 71 (Int32.toNatClampNeg (((nI 4) * v6) + v7))) → (∀ x114 : Int32, x114 = v8 + (nI 1) → (K53 x112 v7 x114 σ)))
set_option maxHeartbeats 4000000 in
set_option maxRecDepth 100000 in
theorem k_X9_run_100 {Q : Int32 → Sg → Prop} (C : Cx p s m args meth c D cy ad b0 yX9_run cX9_run 9 (some .int)) (v2 : Int32) (v3 : Int32) (v6 : Int32) (v7 : Int32) (v8 : Int32) (K53 : Int32 → Int32 → Int32 → Sg → Prop) (hK53 : ∀ (z6 : Int32) (z7 : Int32) (z8 : Int32) (σ : Sg), K53 z6 z7 z8 σ → gI p l e rm_X9_run s m args below meth c D cy ad b0 Q 9 53 σ [some (.ref (ad 10)), none, some (.int v2), some (.int v3), none, none, some (.int z6), some (.int z7), some (.int z8)] []) (σ : Sg) (h : wp_X9_run_100 v2 v3 v6 v7 v8 K53 Q σ) : gI p l e rm_X9_run s m args below meth c D cy ad b0 Q 9 100 σ [some (.ref (ad 10)), none, some (.int v2), some (.int v3), none, none, some (.int v6), some (.int v7), some (.int v8)] [] := by
  refine g_aload_n C dX9_run_100 rfl ?_
  refine fget_10_40_X9_85 C rfl dX9_run_101 ?_
  refine g_iconst C dX9_run_104 kc_4 ?_
  refine g_iload C dX9_run_105 rfl ?_
  refine g_imul C dX9_run_107 ?_
  refine g_iload C dX9_run_108 rfl ?_
  refine g_iadd C dX9_run_110 ?_
  refine g_iald C (by decide) h.1 dX9_run_111 ?_
  have h := h.2
  refine g_topi (fun x112 e_x112 => ?_)
  have h := h x112 e_x112
  refine g_istore C [some (.ref (ad 10)), none, some (.int v2), some (.int v3), none, none, some (.int x112), some (.int v7), some (.int v8)] dX9_run_112 (by decide) rfl ?_
  obtain ⟨x114, e_x114⟩ : ∃ v : Int32, v = v8 + (nI 1) := ⟨_, rfl⟩
  have h := h x114 e_x114
  refine g_iinc C [some (.ref (ad 10)), none, some (.int v2), some (.int v3), none, none, some (.int x112), some (.int v7), some (.int x114)] dX9_run_114 rfl e_x114.symm (by decide) rfl ?_
  refine g_goto C 53 dX9_run_117 (by decide) ?_
  exact hK53 x112 v7 x114 σ h
def wb_X9_run_62 (v2 : Int32) (v3 : Int32) (v6 : Int32) (v7 : Int32) (v8 : Int32) (K62 : Int32 → Sg → Prop) (K100 : Int32 → Sg → Prop) (Q : Int32 → Sg → Prop) (σ : Sg) : Prop :=
  vp_in (((nI 4) * v6) + v7) (aN 71) ∧ (vp_in (((nI 60) * ((v2 - v8) - (nI 1))) + (gA σ 71 (Int32.toNatClampNeg (((nI 4) * v6) + v7)))) (aN 78) ∧ (((¬ (lg_cmp (gL σ 78 (Int32.toNatClampNeg (((nI 60) * ((v2 - v8) - (nI 1))) + (gA σ 71 (Int32.toNatClampNeg (((nI 4) * v6) + v7)))))) (lN 0)) = (nI 0) → K100 v7 σ) ∧ ((lg_cmp (gL σ 78 (Int32.toNatClampNeg (((nI 60) * ((v2 - v8) - (nI 1))) + (gA σ 71 (Int32.toNatClampNeg (((nI 4) * v6) + v7)))))) (lN 0)) = (nI 0) → ∀ x94 : Int32, x94 = v7 + (nI 1) → (K62 x94 σ)))))
set_option maxHeartbeats 4000000 in
set_option maxRecDepth 100000 in
theorem kb_X9_run_62 {Q : Int32 → Sg → Prop} (C : Cx p s m args meth c D cy ad b0 yX9_run cX9_run 9 (some .int)) (v2 : Int32) (v3 : Int32) (v6 : Int32) (v7 : Int32) (v8 : Int32) (K62 : Int32 → Sg → Prop) (K100 : Int32 → Sg → Prop) (hK62 : ∀ (z7 : Int32) (σ : Sg), K62 z7 σ → gI p l e rm_X9_run s m args below meth c D cy ad b0 Q 9 62 σ [some (.ref (ad 10)), none, some (.int v2), some (.int v3), none, none, some (.int v6), some (.int z7), some (.int v8)] []) (hK100 : ∀ (z7 : Int32) (σ : Sg), K100 z7 σ → gI p l e rm_X9_run s m args below meth c D cy ad b0 Q 9 100 σ [some (.ref (ad 10)), none, some (.int v2), some (.int v3), none, none, some (.int v6), some (.int z7), some (.int v8)] []) (σ : Sg) (h : wb_X9_run_62 v2 v3 v6 v7 v8 K62 K100 Q σ) : gI p l e rm_X9_run s m args below meth c D cy ad b0 Q 9 62 σ [some (.ref (ad 10)), none, some (.int v2), some (.int v3), none, none, some (.int v6), some (.int v7), some (.int v8)] [] := by
  refine g_aload_n C dX9_run_62 rfl ?_
  refine fget_10_47_X9_106 C rfl dX9_run_63 ?_
  refine g_bipush C dX9_run_66 kb_60 ?_
  refine g_iload_n C dX9_run_68 rfl ?_
  refine g_iload C dX9_run_69 rfl ?_
  refine g_isub C dX9_run_71 ?_
  refine g_iconst C dX9_run_72 kc_1 ?_
  refine g_isub C dX9_run_73 ?_
  refine g_imul C dX9_run_74 ?_
  refine g_aload_n C dX9_run_75 rfl ?_
  refine fget_10_40_X9_85 C rfl dX9_run_76 ?_
  refine g_iconst C dX9_run_79 kc_4 ?_
  refine g_iload C dX9_run_80 rfl ?_
  refine g_imul C dX9_run_82 ?_
  refine g_iload C dX9_run_83 rfl ?_
  refine g_iadd C dX9_run_85 ?_
  refine g_iald C (by decide) h.1 dX9_run_86 ?_
  have h := h.2
  refine g_iadd C dX9_run_87 ?_
  refine g_lald C (by decide) h.1 dX9_run_88 ?_
  have h := h.2
  refine g_lconst C dX9_run_89 kl_0 ?_
  refine g_lcmp C dX9_run_90 ?_
  refine g_if_ne C 100 dX9_run_91 (by decide) (fun c91 => ?_) (fun c91 => ?_)
  · have h := h.1 c91
    exact hK100 v7 σ h
  · have h := h.2 c91
    obtain ⟨x94, e_x94⟩ : ∃ v : Int32, v = v7 + (nI 1) := ⟨_, rfl⟩
    have h := h x94 e_x94
    refine g_iinc C [some (.ref (ad 10)), none, some (.int v2), some (.int v3), none, none, some (.int v6), some (.int x94), some (.int v8)] dX9_run_94 rfl e_x94.symm (by decide) rfl ?_
    refine g_goto C 62 dX9_run_97 (by decide) ?_
    exact hK62 x94 σ h
def wl_X9_run_62 (v2 : Int32) (v3 : Int32) (v6 : Int32) (v8 : Int32) (K100 : Int32 → Sg → Prop) (Q : Int32 → Sg → Prop) : Nat → Int32 → Sg → Prop
  | 0, _, _ => False
  | n + 1, v7, σ => wb_X9_run_62 v2 v3 v6 v7 v8 (wl_X9_run_62 v2 v3 v6 v8 K100 Q n) K100 Q σ
set_option maxHeartbeats 4000000 in
set_option maxRecDepth 100000 in
theorem kl_X9_run_62 {Q : Int32 → Sg → Prop} (C : Cx p s m args meth c D cy ad b0 yX9_run cX9_run 9 (some .int)) (v2 : Int32) (v3 : Int32) (v6 : Int32) (v8 : Int32) (K100 : Int32 → Sg → Prop) (hK100 : ∀ (z7 : Int32) (σ : Sg), K100 z7 σ → gI p l e rm_X9_run s m args below meth c D cy ad b0 Q 9 100 σ [some (.ref (ad 10)), none, some (.int v2), some (.int v3), none, none, some (.int v6), some (.int z7), some (.int v8)] []) : ∀ (n : Nat) (v7 : Int32) (σ : Sg), wl_X9_run_62 v2 v3 v6 v8 K100 Q n v7 σ → gI p l e rm_X9_run s m args below meth c D cy ad b0 Q 9 62 σ [some (.ref (ad 10)), none, some (.int v2), some (.int v3), none, none, some (.int v6), some (.int v7), some (.int v8)] [] := by
  intro n
  induction n with
  | zero => intro v7 σ h; exact False.elim h
  | succ n ih =>
    intro v7 σ h
    exact kb_X9_run_62 C v2 v3 v6 v7 v8 (wl_X9_run_62 v2 v3 v6 v8 K100 Q n) K100 (fun z7 σ h => ih z7 σ h) hK100 σ h
def wb_X9_run_53 (v2 : Int32) (v3 : Int32) (v6 : Int32) (v7 : Int32) (v8 : Int32) (K53 : Int32 → Int32 → Int32 → Sg → Prop) (Q : Int32 → Sg → Prop) (σ : Sg) : Prop :=
  ((v3 < v8 → Q v7 σ) ∧ (¬ v3 < v8 → ∃ n, wl_X9_run_62 v2 v3 v6 v8 (fun z7 σ9 => wp_X9_run_100 v2 v3 v6 z7 v8 K53 Q σ9) Q n (nI 0) σ))
set_option maxHeartbeats 4000000 in
set_option maxRecDepth 100000 in
theorem kb_X9_run_53 {Q : Int32 → Sg → Prop} (C : Cx p s m args meth c D cy ad b0 yX9_run cX9_run 9 (some .int)) (v2 : Int32) (v3 : Int32) (v6 : Int32) (v7 : Int32) (v8 : Int32) (K53 : Int32 → Int32 → Int32 → Sg → Prop) (hK53 : ∀ (z6 : Int32) (z7 : Int32) (z8 : Int32) (σ : Sg), K53 z6 z7 z8 σ → gI p l e rm_X9_run s m args below meth c D cy ad b0 Q 9 53 σ [some (.ref (ad 10)), none, some (.int v2), some (.int v3), none, none, some (.int z6), some (.int z7), some (.int z8)] []) (σ : Sg) (h : wb_X9_run_53 v2 v3 v6 v7 v8 K53 Q σ) : gI p l e rm_X9_run s m args below meth c D cy ad b0 Q 9 53 σ [some (.ref (ad 10)), none, some (.int v2), some (.int v3), none, none, some (.int v6), some (.int v7), some (.int v8)] [] := by
  refine g_iload C dX9_run_53 rfl ?_
  refine g_iload_n C dX9_run_55 rfl ?_
  refine g_icmp_gt C 120 dX9_run_56 (by decide) (fun c56 => ?_) (fun c56 => ?_)
  · have h := h.1 c56
    refine g_iload C dX9_run_120 rfl ?_
    exact g_iret C dX9_run_122 h
  · have h := h.2 c56
    refine g_iconst C dX9_run_59 kc_0 ?_
    refine g_istore C [some (.ref (ad 10)), none, some (.int v2), some (.int v3), none, none, some (.int v6), some (.int (nI 0)), some (.int v8)] dX9_run_60 (by decide) rfl ?_
    obtain ⟨n, h⟩ := h
    exact kl_X9_run_62 C v2 v3 v6 v8 _ (fun z7 σ9 h => by exact k_X9_run_100 C v2 v3 v6 z7 v8 K53 hK53 σ9 h) n (nI 0) σ h
def wl_X9_run_53 (v2 : Int32) (v3 : Int32) (Q : Int32 → Sg → Prop) : Nat → Int32 → Int32 → Int32 → Sg → Prop
  | 0, _, _, _, _ => False
  | n + 1, v6, v7, v8, σ => wb_X9_run_53 v2 v3 v6 v7 v8 (wl_X9_run_53 v2 v3 Q n) Q σ
set_option maxHeartbeats 4000000 in
set_option maxRecDepth 100000 in
theorem kl_X9_run_53 {Q : Int32 → Sg → Prop} (C : Cx p s m args meth c D cy ad b0 yX9_run cX9_run 9 (some .int)) (v2 : Int32) (v3 : Int32) : ∀ (n : Nat) (v6 : Int32) (v7 : Int32) (v8 : Int32) (σ : Sg), wl_X9_run_53 v2 v3 Q n v6 v7 v8 σ → gI p l e rm_X9_run s m args below meth c D cy ad b0 Q 9 53 σ [some (.ref (ad 10)), none, some (.int v2), some (.int v3), none, none, some (.int v6), some (.int v7), some (.int v8)] [] := by
  intro n
  induction n with
  | zero => intro v6 v7 v8 σ h; exact False.elim h
  | succ n ih =>
    intro v6 v7 v8 σ h
    exact kb_X9_run_53 C v2 v3 v6 v7 v8 (wl_X9_run_53 v2 v3 Q n) (fun z6 z7 z8 σ h => ih z6 z7 z8 σ h) σ h
def wp_X9_run_28 (v4 : Int64) (Q : Int32 → Sg → Prop) (σ : Sg) : Prop :=
  (((nI 0) ≤ (lg_cmp v4 (lN 0)) → Q (-9 : Int32) σ) ∧ (¬ (nI 0) ≤ (lg_cmp v4 (lN 0)) → Q (Int64.toInt32 v4) σ))
set_option maxHeartbeats 4000000 in
set_option maxRecDepth 100000 in
theorem k_X9_run_28 {Q : Int32 → Sg → Prop} (C : Cx p s m args meth c D cy ad b0 yX9_run cX9_run 9 (some .int)) (v4 : Int64) (σ : Sg) (h : wp_X9_run_28 v4 Q σ) : gI p l e rm_X9_run s m args below meth c D cy ad b0 Q 9 28 σ [none, none, none, none, some (.long v4), none, none, none, none] [] := by
  refine g_lload C dX9_run_28 rfl ?_
  refine g_lconst C dX9_run_30 kl_0 ?_
  refine g_lcmp C dX9_run_31 ?_
  refine g_if_ge C 41 dX9_run_32 (by decide) (fun c32 => ?_) (fun c32 => ?_)
  · have h := h.1 c32
    refine g_bipush C dX9_run_41 kb_m9 ?_
    exact g_iret C dX9_run_43 h
  · have h := h.2 c32
    refine g_lload C dX9_run_35 rfl ?_
    refine g_l2i C dX9_run_37 ?_
    refine g_goto C 43 dX9_run_38 (by decide) ?_
    exact g_iret C dX9_run_43 h
def wp_X9_run (a0 : Int32) (a1 : Int32) (a2 : Int32) (σ : Sg) (Q : Int32 → Sg → Prop) : Prop :=
  wp_X9_runs a0 a1 σ (fun r1 σ2 => (((lg_cmp r1 (lN 0)) ≤ (nI 0) → wp_X9_run_28 r1 Q σ2) ∧ (¬ (lg_cmp r1 (lN 0)) ≤ (nI 0) → wp_X9_in (Int32.toInt64 a2) (lN 0) (Int32.toInt64 (a1 - (nI 1))) σ2 (fun r3 σ4 => ((¬ r3 = (nI 0) → ∃ n, wl_X9_run_53 a1 a2 Q n a0 (nI 0) (nI 0) σ4) ∧ (r3 = (nI 0) → wp_X9_run_28 r1 Q σ4))))))
set_option maxHeartbeats 4000000 in
set_option maxRecDepth 100000 in
theorem c_X9_run (l : Launch) (D : va_G) (cy : Nat → ClassId) (ad : Nat → Nat) (b0 : Nat) (hA : AdOk ad b0) (a0 : Int32) (a1 : Int32) (a2 : Int32) : Cti l D cy ad b0 yX9_run cX9_run 9 (some .int) rm_X9_run [.ref (ad 10), .int a0, .int a1, .int a2] (fun σ Q => wp_X9_run a0 a1 a2 σ Q) := by
  intro σ Q h
  refine g_enter hA rfl (Nat.le_of_ble_eq_true rfl) [some (.ref (ad 10)), some (.int a0), some (.int a1), some (.int a2), none, none, none, none, none] rfl ?_
  intro p e s m args below meth c C
  refine g_aload_n C dX9_run_0 rfl ?_
  refine g_iload_n C dX9_run_1 rfl ?_
  refine g_iload_n C dX9_run_2 rfl ?_
  refine g_callVl C 10 [.int a0, .int a1] (c_X9_runs l D cy ad b0 C.A a0 a1) cal_X9_runs mw_761 (by decide) rfl rfl ⟨Nat.le_of_ble_eq_true rfl, Nat.le_of_ble_eq_true rfl⟩ ⟨rfl, rfl⟩ ⟨Nat.zero_le _, Nat.zero_le _⟩ (Nat.le_of_ble_eq_true rfl) rfl dX9_run_3 h (fun r1 σ2 h => ?_)
  refine g_lstore C [some (.ref (ad 10)), some (.int a0), some (.int a1), some (.int a2), some (.long r1), none, none, none, none] dX9_run_6 (by decide) rfl ?_
  refine g_lload C dX9_run_8 rfl ?_
  refine g_lconst C dX9_run_10 kl_0 ?_
  refine g_lcmp C dX9_run_11 ?_
  refine g_if_le C 28 dX9_run_12 (by decide) (fun c12 => ?_) (fun c12 => ?_)
  · have h := h.1 c12
    refine g_mask [false, false, false, false, true, false, false, false, false] rfl ?_
    exact k_X9_run_28 C r1 σ2 h
  · have h := h.2 c12
    refine g_iload_n C dX9_run_15 rfl ?_
    refine g_i2l C dX9_run_16 ?_
    refine g_lconst C dX9_run_17 kl_0 ?_
    refine g_iload_n C dX9_run_18 rfl ?_
    refine g_iconst C dX9_run_19 kc_1 ?_
    refine g_isub C dX9_run_20 ?_
    refine g_i2l C dX9_run_21 ?_
    refine g_callSi C [.long (Int32.toInt64 a2), .long (lN 0), .long (Int32.toInt64 (a1 - (nI 1)))] (c_X9_in l D cy ad b0 C.A (Int32.toInt64 a2) (lN 0) (Int32.toInt64 (a1 - (nI 1)))) cal_X9_in mw_679 rfl ⟨Nat.le_of_ble_eq_true rfl, Nat.le_of_ble_eq_true rfl⟩ ⟨rfl, rfl⟩ ⟨Nat.zero_le _, Nat.zero_le _⟩ (Nat.le_of_ble_eq_true rfl) rfl dX9_run_22 h (fun r3 σ4 h => ?_)
    refine g_if_ne C 44 dX9_run_25 (by decide) (fun c25 => ?_) (fun c25 => ?_)
    · have h := h.1 c25
      refine g_iload_n C dX9_run_44 rfl ?_
      refine g_istore C [some (.ref (ad 10)), some (.int a0), some (.int a1), some (.int a2), some (.long r1), none, some (.int a0), none, none] dX9_run_45 (by decide) rfl ?_
      refine g_iconst C dX9_run_47 kc_0 ?_
      refine g_istore C [some (.ref (ad 10)), some (.int a0), some (.int a1), some (.int a2), some (.long r1), none, some (.int a0), some (.int (nI 0)), none] dX9_run_48 (by decide) rfl ?_
      refine g_iconst C dX9_run_50 kc_0 ?_
      refine g_istore C [some (.ref (ad 10)), some (.int a0), some (.int a1), some (.int a2), some (.long r1), none, some (.int a0), some (.int (nI 0)), some (.int (nI 0))] dX9_run_51 (by decide) rfl ?_
      refine g_mask [true, false, true, true, false, false, true, true, true] rfl ?_
      obtain ⟨n, h⟩ := h
      exact kl_X9_run_53 C a1 a2 n a0 (nI 0) (nI 0) σ4 h
    · have h := h.2 c25
      refine g_mask [false, false, false, false, true, false, false, false, false] rfl ?_
      exact k_X9_run_28 C r1 σ4 h
def rm_X9_verdictOf : Room := { frames := 0, cells := 0, slots := 0, locals := 0 }
def wp_X9_verdictOf_123 (v2 : Int32) (v3 : Int32) (v4 : Int32) (v5 : Int32) (Q : Int32 → Sg → Prop) (σ : Sg) : Prop :=
  ((v3 = (nI 0) → ((v4 = (nI 0) → ((v5 = (nI 0) → Q (nI 4) σ) ∧ (¬ v5 = (nI 0) → Q (nI 0) σ))) ∧ (¬ v4 = (nI 0) → Q (nI 1) σ))) ∧ (¬ v3 = (nI 0) → Q v2 σ))
set_option maxHeartbeats 4000000 in
set_option maxRecDepth 100000 in
theorem k_X9_verdictOf_123 {Q : Int32 → Sg → Prop} (C : Cx p s m args meth c D cy ad b0 yX9_verdictOf cX9_verdictOf 7 (some .int)) (v2 : Int32) (v3 : Int32) (v4 : Int32) (v5 : Int32) (σ : Sg) (h : wp_X9_verdictOf_123 v2 v3 v4 v5 Q σ) : gI p l e rm_X9_verdictOf s m args below meth c D cy ad b0 Q 7 123 σ [none, none, some (.int v2), some (.int v3), some (.int v4), some (.int v5), none] [] := by
  refine g_iload_n C dX9_verdictOf_123 rfl ?_
  refine g_if_eq C 131 dX9_verdictOf_124 (by decide) (fun c124 => ?_) (fun c124 => ?_)
  · have h := h.1 c124
    refine g_iload C dX9_verdictOf_131 rfl ?_
    refine g_if_eq C 140 dX9_verdictOf_133 (by decide) (fun c133 => ?_) (fun c133 => ?_)
    · have h := h.1 c133
      refine g_iload C dX9_verdictOf_140 rfl ?_
      refine g_if_eq C 149 dX9_verdictOf_142 (by decide) (fun c142 => ?_) (fun c142 => ?_)
      · have h := h.1 c142
        refine g_iconst C dX9_verdictOf_149 kc_4 ?_
        exact g_iret C dX9_verdictOf_150 h
      · have h := h.2 c142
        refine g_iconst C dX9_verdictOf_145 kc_0 ?_
        refine g_goto C 150 dX9_verdictOf_146 (by decide) ?_
        exact g_iret C dX9_verdictOf_150 h
    · have h := h.2 c133
      refine g_iconst C dX9_verdictOf_136 kc_1 ?_
      refine g_goto C 150 dX9_verdictOf_137 (by decide) ?_
      exact g_iret C dX9_verdictOf_150 h
  · have h := h.2 c124
    refine g_iload_n C dX9_verdictOf_127 rfl ?_
    refine g_goto C 150 dX9_verdictOf_128 (by decide) ?_
    exact g_iret C dX9_verdictOf_150 h
def wp_X9_verdictOf_117 (v1 : Int32) (v2 : Int32) (v3 : Int32) (v4 : Int32) (v5 : Int32) (v6 : Int32) (K14 : Int32 → Int32 → Int32 → Int32 → Int32 → Sg → Prop) (Q : Int32 → Sg → Prop) (σ : Sg) : Prop :=
  ∀ x117 : Int32, x117 = v6 + (nI 1) → (K14 v2 v3 v4 v5 x117 σ)
set_option maxHeartbeats 4000000 in
set_option maxRecDepth 100000 in
theorem k_X9_verdictOf_117 {Q : Int32 → Sg → Prop} (C : Cx p s m args meth c D cy ad b0 yX9_verdictOf cX9_verdictOf 7 (some .int)) (v1 : Int32) (v2 : Int32) (v3 : Int32) (v4 : Int32) (v5 : Int32) (v6 : Int32) (K14 : Int32 → Int32 → Int32 → Int32 → Int32 → Sg → Prop) (hK14 : ∀ (z2 : Int32) (z3 : Int32) (z4 : Int32) (z5 : Int32) (z6 : Int32) (σ : Sg), K14 z2 z3 z4 z5 z6 σ → gI p l e rm_X9_verdictOf s m args below meth c D cy ad b0 Q 7 14 σ [some (.ref (ad 10)), some (.int v1), some (.int z2), some (.int z3), some (.int z4), some (.int z5), some (.int z6)] []) (σ : Sg) (h : wp_X9_verdictOf_117 v1 v2 v3 v4 v5 v6 K14 Q σ) : gI p l e rm_X9_verdictOf s m args below meth c D cy ad b0 Q 7 117 σ [some (.ref (ad 10)), some (.int v1), some (.int v2), some (.int v3), some (.int v4), some (.int v5), some (.int v6)] [] := by
  obtain ⟨x117, e_x117⟩ : ∃ v : Int32, v = v6 + (nI 1) := ⟨_, rfl⟩
  have h := h x117 e_x117
  refine g_iinc C [some (.ref (ad 10)), some (.int v1), some (.int v2), some (.int v3), some (.int v4), some (.int v5), some (.int x117)] dX9_verdictOf_117 rfl e_x117.symm (by decide) rfl ?_
  refine g_goto C 14 dX9_verdictOf_120 (by decide) ?_
  exact hK14 v2 v3 v4 v5 x117 σ h
def wp_X9_verdictOf_115 (v1 : Int32) (v2 : Int32) (v3 : Int32) (v4 : Int32) (v6 : Int32) (s0 : Int32) (K14 : Int32 → Int32 → Int32 → Int32 → Int32 → Sg → Prop) (Q : Int32 → Sg → Prop) (σ : Sg) : Prop :=
  wp_X9_verdictOf_117 v1 v2 v3 v4 s0 v6 K14 Q σ
set_option maxHeartbeats 4000000 in
set_option maxRecDepth 100000 in
theorem k_X9_verdictOf_115 {Q : Int32 → Sg → Prop} (C : Cx p s m args meth c D cy ad b0 yX9_verdictOf cX9_verdictOf 7 (some .int)) (v1 : Int32) (v2 : Int32) (v3 : Int32) (v4 : Int32) (v6 : Int32) (s0 : Int32) (K14 : Int32 → Int32 → Int32 → Int32 → Int32 → Sg → Prop) (hK14 : ∀ (z2 : Int32) (z3 : Int32) (z4 : Int32) (z5 : Int32) (z6 : Int32) (σ : Sg), K14 z2 z3 z4 z5 z6 σ → gI p l e rm_X9_verdictOf s m args below meth c D cy ad b0 Q 7 14 σ [some (.ref (ad 10)), some (.int v1), some (.int z2), some (.int z3), some (.int z4), some (.int z5), some (.int z6)] []) (σ : Sg) (h : wp_X9_verdictOf_115 v1 v2 v3 v4 v6 s0 K14 Q σ) : gI p l e rm_X9_verdictOf s m args below meth c D cy ad b0 Q 7 115 σ [some (.ref (ad 10)), some (.int v1), some (.int v2), some (.int v3), some (.int v4), none, some (.int v6)] [.int s0] := by
  refine g_istore C [some (.ref (ad 10)), some (.int v1), some (.int v2), some (.int v3), some (.int v4), some (.int s0), some (.int v6)] dX9_verdictOf_115 (by decide) rfl ?_
  exact k_X9_verdictOf_117 C v1 v2 v3 v4 s0 v6 K14 hK14 σ h
def wp_X9_verdictOf_114 (v1 : Int32) (v2 : Int32) (v3 : Int32) (v4 : Int32) (v6 : Int32) (K14 : Int32 → Int32 → Int32 → Int32 → Int32 → Sg → Prop) (Q : Int32 → Sg → Prop) (σ : Sg) : Prop :=
  wp_X9_verdictOf_115 v1 v2 v3 v4 v6 (nI 0) K14 Q σ
set_option maxHeartbeats 4000000 in
set_option maxRecDepth 100000 in
theorem k_X9_verdictOf_114 {Q : Int32 → Sg → Prop} (C : Cx p s m args meth c D cy ad b0 yX9_verdictOf cX9_verdictOf 7 (some .int)) (v1 : Int32) (v2 : Int32) (v3 : Int32) (v4 : Int32) (v6 : Int32) (K14 : Int32 → Int32 → Int32 → Int32 → Int32 → Sg → Prop) (hK14 : ∀ (z2 : Int32) (z3 : Int32) (z4 : Int32) (z5 : Int32) (z6 : Int32) (σ : Sg), K14 z2 z3 z4 z5 z6 σ → gI p l e rm_X9_verdictOf s m args below meth c D cy ad b0 Q 7 14 σ [some (.ref (ad 10)), some (.int v1), some (.int z2), some (.int z3), some (.int z4), some (.int z5), some (.int z6)] []) (σ : Sg) (h : wp_X9_verdictOf_114 v1 v2 v3 v4 v6 K14 Q σ) : gI p l e rm_X9_verdictOf s m args below meth c D cy ad b0 Q 7 114 σ [some (.ref (ad 10)), some (.int v1), some (.int v2), some (.int v3), some (.int v4), none, some (.int v6)] [] := by
  refine g_iconst C dX9_verdictOf_114 kc_0 ?_
  exact k_X9_verdictOf_115 C v1 v2 v3 v4 v6 (nI 0) K14 hK14 σ h
def wp_X9_verdictOf_93 (v1 : Int32) (v2 : Int32) (v3 : Int32) (v5 : Int32) (v6 : Int32) (s0 : Int32) (K14 : Int32 → Int32 → Int32 → Int32 → Int32 → Sg → Prop) (Q : Int32 → Sg → Prop) (σ : Sg) : Prop :=
  ((v5 = (nI 0) → wp_X9_verdictOf_114 v1 v2 v3 s0 v6 K14 Q σ) ∧ (¬ v5 = (nI 0) → vp_in v6 (aN 72) ∧ (((¬ (gA σ 72 (Int32.toNatClampNeg v6)) = (nI 0) → wp_X9_verdictOf_114 v1 v2 v3 s0 v6 K14 Q σ) ∧ ((gA σ 72 (Int32.toNatClampNeg v6)) = (nI 0) → wp_X9_verdictOf_115 v1 v2 v3 s0 v6 (nI 1) K14 Q σ)))))
set_option maxHeartbeats 4000000 in
set_option maxRecDepth 100000 in
theorem k_X9_verdictOf_93 {Q : Int32 → Sg → Prop} (C : Cx p s m args meth c D cy ad b0 yX9_verdictOf cX9_verdictOf 7 (some .int)) (v1 : Int32) (v2 : Int32) (v3 : Int32) (v5 : Int32) (v6 : Int32) (s0 : Int32) (K14 : Int32 → Int32 → Int32 → Int32 → Int32 → Sg → Prop) (hK14 : ∀ (z2 : Int32) (z3 : Int32) (z4 : Int32) (z5 : Int32) (z6 : Int32) (σ : Sg), K14 z2 z3 z4 z5 z6 σ → gI p l e rm_X9_verdictOf s m args below meth c D cy ad b0 Q 7 14 σ [some (.ref (ad 10)), some (.int v1), some (.int z2), some (.int z3), some (.int z4), some (.int z5), some (.int z6)] []) (σ : Sg) (h : wp_X9_verdictOf_93 v1 v2 v3 v5 v6 s0 K14 Q σ) : gI p l e rm_X9_verdictOf s m args below meth c D cy ad b0 Q 7 93 σ [some (.ref (ad 10)), some (.int v1), some (.int v2), some (.int v3), none, some (.int v5), some (.int v6)] [.int s0] := by
  refine g_istore C [some (.ref (ad 10)), some (.int v1), some (.int v2), some (.int v3), some (.int s0), some (.int v5), some (.int v6)] dX9_verdictOf_93 (by decide) rfl ?_
  refine g_iload C dX9_verdictOf_95 rfl ?_
  refine g_if_eq C 114 dX9_verdictOf_97 (by decide) (fun c97 => ?_) (fun c97 => ?_)
  · have h := h.1 c97
    refine g_mask [true, true, true, true, true, false, true] rfl ?_
    exact k_X9_verdictOf_114 C v1 v2 v3 s0 v6 K14 hK14 σ h
  · have h := h.2 c97
    refine g_aload_n C dX9_verdictOf_100 rfl ?_
    refine fget_10_41_X9_88 C rfl dX9_verdictOf_101 ?_
    refine g_iload C dX9_verdictOf_104 rfl ?_
    refine g_zald C (by decide) h.1 dX9_verdictOf_106 ?_
    have h := h.2
    refine g_if_ne C 114 dX9_verdictOf_107 (by decide) (fun c107 => ?_) (fun c107 => ?_)
    · have h := h.1 c107
      refine g_mask [true, true, true, true, true, false, true] rfl ?_
      exact k_X9_verdictOf_114 C v1 v2 v3 s0 v6 K14 hK14 σ h
    · have h := h.2 c107
      refine g_iconst C dX9_verdictOf_110 kc_1 ?_
      refine g_goto C 115 dX9_verdictOf_111 (by decide) ?_
      refine g_mask [true, true, true, true, true, false, true] rfl ?_
      exact k_X9_verdictOf_115 C v1 v2 v3 s0 v6 (nI 1) K14 hK14 σ h
def wp_X9_verdictOf_92 (v1 : Int32) (v2 : Int32) (v3 : Int32) (v5 : Int32) (v6 : Int32) (K14 : Int32 → Int32 → Int32 → Int32 → Int32 → Sg → Prop) (Q : Int32 → Sg → Prop) (σ : Sg) : Prop :=
  wp_X9_verdictOf_93 v1 v2 v3 v5 v6 (nI 0) K14 Q σ
set_option maxHeartbeats 4000000 in
set_option maxRecDepth 100000 in
theorem k_X9_verdictOf_92 {Q : Int32 → Sg → Prop} (C : Cx p s m args meth c D cy ad b0 yX9_verdictOf cX9_verdictOf 7 (some .int)) (v1 : Int32) (v2 : Int32) (v3 : Int32) (v5 : Int32) (v6 : Int32) (K14 : Int32 → Int32 → Int32 → Int32 → Int32 → Sg → Prop) (hK14 : ∀ (z2 : Int32) (z3 : Int32) (z4 : Int32) (z5 : Int32) (z6 : Int32) (σ : Sg), K14 z2 z3 z4 z5 z6 σ → gI p l e rm_X9_verdictOf s m args below meth c D cy ad b0 Q 7 14 σ [some (.ref (ad 10)), some (.int v1), some (.int z2), some (.int z3), some (.int z4), some (.int z5), some (.int z6)] []) (σ : Sg) (h : wp_X9_verdictOf_92 v1 v2 v3 v5 v6 K14 Q σ) : gI p l e rm_X9_verdictOf s m args below meth c D cy ad b0 Q 7 92 σ [some (.ref (ad 10)), some (.int v1), some (.int v2), some (.int v3), none, some (.int v5), some (.int v6)] [] := by
  refine g_iconst C dX9_verdictOf_92 kc_0 ?_
  exact k_X9_verdictOf_93 C v1 v2 v3 v5 v6 (nI 0) K14 hK14 σ h
def wp_X9_verdictOf_64 (v1 : Int32) (v4 : Int32) (v5 : Int32) (v6 : Int32) (s0 : Int32) (K14 : Int32 → Int32 → Int32 → Int32 → Int32 → Sg → Prop) (Q : Int32 → Sg → Prop) (σ : Sg) : Prop :=
  vp_in v6 (aN 73) ∧ (∀ x72 : Int32, x72 = (gA σ 73 (Int32.toNatClampNeg v6)) → (((v4 = (nI 0) → wp_X9_verdictOf_92 v1 x72 s0 v5 v6 K14 Q σ) ∧ (¬ v4 = (nI 0) → vp_in v6 (aN 72) ∧ ((((gA σ 72 (Int32.toNatClampNeg v6)) = (nI 0) → wp_X9_verdictOf_92 v1 x72 s0 v5 v6 K14 Q σ) ∧ (¬ (gA σ 72 (Int32.toNatClampNeg v6)) = (nI 0) → wp_X9_verdictOf_93 v1 x72 s0 v5 v6 (nI 1) K14 Q σ)))))))
set_option maxHeartbeats 4000000 in
set_option maxRecDepth 100000 in
theorem k_X9_verdictOf_64 {Q : Int32 → Sg → Prop} (C : Cx p s m args meth c D cy ad b0 yX9_verdictOf cX9_verdictOf 7 (some .int)) (v1 : Int32) (v4 : Int32) (v5 : Int32) (v6 : Int32) (s0 : Int32) (K14 : Int32 → Int32 → Int32 → Int32 → Int32 → Sg → Prop) (hK14 : ∀ (z2 : Int32) (z3 : Int32) (z4 : Int32) (z5 : Int32) (z6 : Int32) (σ : Sg), K14 z2 z3 z4 z5 z6 σ → gI p l e rm_X9_verdictOf s m args below meth c D cy ad b0 Q 7 14 σ [some (.ref (ad 10)), some (.int v1), some (.int z2), some (.int z3), some (.int z4), some (.int z5), some (.int z6)] []) (σ : Sg) (h : wp_X9_verdictOf_64 v1 v4 v5 v6 s0 K14 Q σ) : gI p l e rm_X9_verdictOf s m args below meth c D cy ad b0 Q 7 64 σ [some (.ref (ad 10)), some (.int v1), none, none, some (.int v4), some (.int v5), some (.int v6)] [.int s0] := by
  refine g_istore_n C [some (.ref (ad 10)), some (.int v1), none, some (.int s0), some (.int v4), some (.int v5), some (.int v6)] dX9_verdictOf_64 (by decide) rfl ?_
  refine g_aload_n C dX9_verdictOf_65 rfl ?_
  refine fget_10_42_X9_91 C rfl dX9_verdictOf_66 ?_
  refine g_iload C dX9_verdictOf_69 rfl ?_
  refine g_iald C (by decide) h.1 dX9_verdictOf_71 ?_
  have h := h.2
  refine g_topi (fun x72 e_x72 => ?_)
  have h := h x72 e_x72
  refine g_istore_n C [some (.ref (ad 10)), some (.int v1), some (.int x72), some (.int s0), some (.int v4), some (.int v5), some (.int v6)] dX9_verdictOf_72 (by decide) rfl ?_
  refine g_iload C dX9_verdictOf_73 rfl ?_
  refine g_if_eq C 92 dX9_verdictOf_75 (by decide) (fun c75 => ?_) (fun c75 => ?_)
  · have h := h.1 c75
    refine g_mask [true, true, true, true, false, true, true] rfl ?_
    exact k_X9_verdictOf_92 C v1 x72 s0 v5 v6 K14 hK14 σ h
  · have h := h.2 c75
    refine g_aload_n C dX9_verdictOf_78 rfl ?_
    refine fget_10_41_X9_88 C rfl dX9_verdictOf_79 ?_
    refine g_iload C dX9_verdictOf_82 rfl ?_
    refine g_zald C (by decide) h.1 dX9_verdictOf_84 ?_
    have h := h.2
    refine g_if_eq C 92 dX9_verdictOf_85 (by decide) (fun c85 => ?_) (fun c85 => ?_)
    · have h := h.1 c85
      refine g_mask [true, true, true, true, false, true, true] rfl ?_
      exact k_X9_verdictOf_92 C v1 x72 s0 v5 v6 K14 hK14 σ h
    · have h := h.2 c85
      refine g_iconst C dX9_verdictOf_88 kc_1 ?_
      refine g_goto C 93 dX9_verdictOf_89 (by decide) ?_
      refine g_mask [true, true, true, true, false, true, true] rfl ?_
      exact k_X9_verdictOf_93 C v1 x72 s0 v5 v6 (nI 1) K14 hK14 σ h
def wp_X9_verdictOf_63 (v1 : Int32) (v4 : Int32) (v5 : Int32) (v6 : Int32) (K14 : Int32 → Int32 → Int32 → Int32 → Int32 → Sg → Prop) (Q : Int32 → Sg → Prop) (σ : Sg) : Prop :=
  wp_X9_verdictOf_64 v1 v4 v5 v6 (nI 0) K14 Q σ
set_option maxHeartbeats 4000000 in
set_option maxRecDepth 100000 in
theorem k_X9_verdictOf_63 {Q : Int32 → Sg → Prop} (C : Cx p s m args meth c D cy ad b0 yX9_verdictOf cX9_verdictOf 7 (some .int)) (v1 : Int32) (v4 : Int32) (v5 : Int32) (v6 : Int32) (K14 : Int32 → Int32 → Int32 → Int32 → Int32 → Sg → Prop) (hK14 : ∀ (z2 : Int32) (z3 : Int32) (z4 : Int32) (z5 : Int32) (z6 : Int32) (σ : Sg), K14 z2 z3 z4 z5 z6 σ → gI p l e rm_X9_verdictOf s m args below meth c D cy ad b0 Q 7 14 σ [some (.ref (ad 10)), some (.int v1), some (.int z2), some (.int z3), some (.int z4), some (.int z5), some (.int z6)] []) (σ : Sg) (h : wp_X9_verdictOf_63 v1 v4 v5 v6 K14 Q σ) : gI p l e rm_X9_verdictOf s m args below meth c D cy ad b0 Q 7 63 σ [some (.ref (ad 10)), some (.int v1), none, none, some (.int v4), some (.int v5), some (.int v6)] [] := by
  refine g_iconst C dX9_verdictOf_63 kc_0 ?_
  exact k_X9_verdictOf_64 C v1 v4 v5 v6 (nI 0) K14 hK14 σ h
def wp_X9_verdictOf_59 (v1 : Int32) (v4 : Int32) (v5 : Int32) (v6 : Int32) (K14 : Int32 → Int32 → Int32 → Int32 → Int32 → Sg → Prop) (Q : Int32 → Sg → Prop) (σ : Sg) : Prop :=
  wp_X9_verdictOf_64 v1 v4 v5 v6 (nI 1) K14 Q σ
set_option maxHeartbeats 4000000 in
set_option maxRecDepth 100000 in
theorem k_X9_verdictOf_59 {Q : Int32 → Sg → Prop} (C : Cx p s m args meth c D cy ad b0 yX9_verdictOf cX9_verdictOf 7 (some .int)) (v1 : Int32) (v4 : Int32) (v5 : Int32) (v6 : Int32) (K14 : Int32 → Int32 → Int32 → Int32 → Int32 → Sg → Prop) (hK14 : ∀ (z2 : Int32) (z3 : Int32) (z4 : Int32) (z5 : Int32) (z6 : Int32) (σ : Sg), K14 z2 z3 z4 z5 z6 σ → gI p l e rm_X9_verdictOf s m args below meth c D cy ad b0 Q 7 14 σ [some (.ref (ad 10)), some (.int v1), some (.int z2), some (.int z3), some (.int z4), some (.int z5), some (.int z6)] []) (σ : Sg) (h : wp_X9_verdictOf_59 v1 v4 v5 v6 K14 Q σ) : gI p l e rm_X9_verdictOf s m args below meth c D cy ad b0 Q 7 59 σ [some (.ref (ad 10)), some (.int v1), none, none, some (.int v4), some (.int v5), some (.int v6)] [] := by
  refine g_iconst C dX9_verdictOf_59 kc_1 ?_
  refine g_goto C 64 dX9_verdictOf_60 (by decide) ?_
  exact k_X9_verdictOf_64 C v1 v4 v5 v6 (nI 1) K14 hK14 σ h
def wb_X9_verdictOf_14 (v1 : Int32) (v2 : Int32) (v3 : Int32) (v4 : Int32) (v5 : Int32) (v6 : Int32) (K14 : Int32 → Int32 → Int32 → Int32 → Int32 → Sg → Prop) (K123 : Int32 → Int32 → Int32 → Int32 → Sg → Prop) (Q : Int32 → Sg → Prop) (σ : Sg) : Prop :=
  (((gF σ 10 39) ≤ v6 → K123 v2 v3 v4 v5 σ) ∧ (¬ (gF σ 10 39) ≤ v6 → vp_in (((nI 60) * v1) + v6) (aN 79) ∧ ((((gA σ 79 (Int32.toNatClampNeg (((nI 60) * v1) + v6))) = (nI 0) → wp_X9_verdictOf_117 v1 v2 v3 v4 v5 v6 K14 Q σ) ∧ (¬ (gA σ 79 (Int32.toNatClampNeg (((nI 60) * v1) + v6))) = (nI 0) → ((v3 = (nI 0) → wp_X9_verdictOf_63 v1 v4 v5 v6 K14 Q σ) ∧ (¬ v3 = (nI 0) → ((v2 = (-9 : Int32) → wp_X9_verdictOf_59 v1 v4 v5 v6 K14 Q σ) ∧ (¬ v2 = (-9 : Int32) → vp_in v6 (aN 73) ∧ (((¬ v2 = (gA σ 73 (Int32.toNatClampNeg v6)) → wp_X9_verdictOf_63 v1 v4 v5 v6 K14 Q σ) ∧ (v2 = (gA σ 73 (Int32.toNatClampNeg v6)) → wp_X9_verdictOf_59 v1 v4 v5 v6 K14 Q σ))))))))))))
set_option maxHeartbeats 4000000 in
set_option maxRecDepth 100000 in
theorem kb_X9_verdictOf_14 {Q : Int32 → Sg → Prop} (C : Cx p s m args meth c D cy ad b0 yX9_verdictOf cX9_verdictOf 7 (some .int)) (v1 : Int32) (v2 : Int32) (v3 : Int32) (v4 : Int32) (v5 : Int32) (v6 : Int32) (K14 : Int32 → Int32 → Int32 → Int32 → Int32 → Sg → Prop) (K123 : Int32 → Int32 → Int32 → Int32 → Sg → Prop) (hK14 : ∀ (z2 : Int32) (z3 : Int32) (z4 : Int32) (z5 : Int32) (z6 : Int32) (σ : Sg), K14 z2 z3 z4 z5 z6 σ → gI p l e rm_X9_verdictOf s m args below meth c D cy ad b0 Q 7 14 σ [some (.ref (ad 10)), some (.int v1), some (.int z2), some (.int z3), some (.int z4), some (.int z5), some (.int z6)] []) (hK123 : ∀ (z2 : Int32) (z3 : Int32) (z4 : Int32) (z5 : Int32) (σ : Sg), K123 z2 z3 z4 z5 σ → gI p l e rm_X9_verdictOf s m args below meth c D cy ad b0 Q 7 123 σ [none, none, some (.int z2), some (.int z3), some (.int z4), some (.int z5), none] []) (σ : Sg) (h : wb_X9_verdictOf_14 v1 v2 v3 v4 v5 v6 K14 K123 Q σ) : gI p l e rm_X9_verdictOf s m args below meth c D cy ad b0 Q 7 14 σ [some (.ref (ad 10)), some (.int v1), some (.int v2), some (.int v3), some (.int v4), some (.int v5), some (.int v6)] [] := by
  refine g_iload C dX9_verdictOf_14 rfl ?_
  refine g_aload_n C dX9_verdictOf_16 rfl ?_
  refine fget_10_39_X9_237 C rfl dX9_verdictOf_17 ?_
  refine g_icmp_ge C 123 dX9_verdictOf_20 (by decide) (fun c20 => ?_) (fun c20 => ?_)
  · have h := h.1 c20
    refine g_mask [false, false, true, true, true, true, false] rfl ?_
    exact hK123 v2 v3 v4 v5 σ h
  · have h := h.2 c20
    refine g_aload_n C dX9_verdictOf_23 rfl ?_
    refine fget_10_48_X9_110 C rfl dX9_verdictOf_24 ?_
    refine g_bipush C dX9_verdictOf_27 kb_60 ?_
    refine g_iload_n C dX9_verdictOf_29 rfl ?_
    refine g_imul C dX9_verdictOf_30 ?_
    refine g_iload C dX9_verdictOf_31 rfl ?_
    refine g_iadd C dX9_verdictOf_33 ?_
    refine g_zald C (by decide) h.1 dX9_verdictOf_34 ?_
    have h := h.2
    refine g_if_eq C 117 dX9_verdictOf_35 (by decide) (fun c35 => ?_) (fun c35 => ?_)
    · have h := h.1 c35
      exact k_X9_verdictOf_117 C v1 v2 v3 v4 v5 v6 K14 hK14 σ h
    · have h := h.2 c35
      refine g_iload_n C dX9_verdictOf_38 rfl ?_
      refine g_if_eq C 63 dX9_verdictOf_39 (by decide) (fun c39 => ?_) (fun c39 => ?_)
      · have h := h.1 c39
        refine g_mask [true, true, false, false, true, true, true] rfl ?_
        exact k_X9_verdictOf_63 C v1 v4 v5 v6 K14 hK14 σ h
      · have h := h.2 c39
        refine g_iload_n C dX9_verdictOf_42 rfl ?_
        refine g_bipush C dX9_verdictOf_43 kb_m9 ?_
        refine g_icmp_eq C 59 dX9_verdictOf_45 (by decide) (fun c45 => ?_) (fun c45 => ?_)
        · have h := h.1 c45
          refine g_mask [true, true, false, false, true, true, true] rfl ?_
          exact k_X9_verdictOf_59 C v1 v4 v5 v6 K14 hK14 σ h
        · have h := h.2 c45
          refine g_iload_n C dX9_verdictOf_48 rfl ?_
          refine g_aload_n C dX9_verdictOf_49 rfl ?_
          refine fget_10_42_X9_91 C rfl dX9_verdictOf_50 ?_
          refine g_iload C dX9_verdictOf_53 rfl ?_
          refine g_iald C (by decide) h.1 dX9_verdictOf_55 ?_
          have h := h.2
          refine g_icmp_ne C 63 dX9_verdictOf_56 (by decide) (fun c56 => ?_) (fun c56 => ?_)
          · have h := h.1 c56
            refine g_mask [true, true, false, false, true, true, true] rfl ?_
            exact k_X9_verdictOf_63 C v1 v4 v5 v6 K14 hK14 σ h
          · have h := h.2 c56
            refine g_mask [true, true, false, false, true, true, true] rfl ?_
            exact k_X9_verdictOf_59 C v1 v4 v5 v6 K14 hK14 σ h
def wl_X9_verdictOf_14 (v1 : Int32) (K123 : Int32 → Int32 → Int32 → Int32 → Sg → Prop) (Q : Int32 → Sg → Prop) : Nat → Int32 → Int32 → Int32 → Int32 → Int32 → Sg → Prop
  | 0, _, _, _, _, _, _ => False
  | n + 1, v2, v3, v4, v5, v6, σ => wb_X9_verdictOf_14 v1 v2 v3 v4 v5 v6 (wl_X9_verdictOf_14 v1 K123 Q n) K123 Q σ
set_option maxHeartbeats 4000000 in
set_option maxRecDepth 100000 in
theorem kl_X9_verdictOf_14 {Q : Int32 → Sg → Prop} (C : Cx p s m args meth c D cy ad b0 yX9_verdictOf cX9_verdictOf 7 (some .int)) (v1 : Int32) (K123 : Int32 → Int32 → Int32 → Int32 → Sg → Prop) (hK123 : ∀ (z2 : Int32) (z3 : Int32) (z4 : Int32) (z5 : Int32) (σ : Sg), K123 z2 z3 z4 z5 σ → gI p l e rm_X9_verdictOf s m args below meth c D cy ad b0 Q 7 123 σ [none, none, some (.int z2), some (.int z3), some (.int z4), some (.int z5), none] []) : ∀ (n : Nat) (v2 : Int32) (v3 : Int32) (v4 : Int32) (v5 : Int32) (v6 : Int32) (σ : Sg), wl_X9_verdictOf_14 v1 K123 Q n v2 v3 v4 v5 v6 σ → gI p l e rm_X9_verdictOf s m args below meth c D cy ad b0 Q 7 14 σ [some (.ref (ad 10)), some (.int v1), some (.int v2), some (.int v3), some (.int v4), some (.int v5), some (.int v6)] [] := by
  intro n
  induction n with
  | zero => intro v2 v3 v4 v5 v6 σ h; exact False.elim h
  | succ n ih =>
    intro v2 v3 v4 v5 v6 σ h
    exact kb_X9_verdictOf_14 C v1 v2 v3 v4 v5 v6 (wl_X9_verdictOf_14 v1 K123 Q n) K123 (fun z2 z3 z4 z5 z6 σ h => ih z2 z3 z4 z5 z6 σ h) hK123 σ h
def wp_X9_verdictOf (a0 : Int32) (σ : Sg) (Q : Int32 → Sg → Prop) : Prop :=
  ∃ n, wl_X9_verdictOf_14 a0 (fun z2 z3 z4 z5 σ9 => wp_X9_verdictOf_123 z2 z3 z4 z5 Q σ9) Q n (-9 : Int32) (nI 1) (nI 1) (nI 1) (nI 0) σ
set_option maxHeartbeats 4000000 in
set_option maxRecDepth 100000 in
theorem c_X9_verdictOf (l : Launch) (D : va_G) (cy : Nat → ClassId) (ad : Nat → Nat) (b0 : Nat) (hA : AdOk ad b0) (a0 : Int32) : Cti l D cy ad b0 yX9_verdictOf cX9_verdictOf 7 (some .int) rm_X9_verdictOf [.ref (ad 10), .int a0] (fun σ Q => wp_X9_verdictOf a0 σ Q) := by
  intro σ Q h
  refine g_enter hA rfl (Nat.le_of_ble_eq_true rfl) [some (.ref (ad 10)), some (.int a0), none, none, none, none, none] rfl ?_
  intro p e s m args below meth c C
  refine g_bipush C dX9_verdictOf_0 kb_m9 ?_
  refine g_istore_n C [some (.ref (ad 10)), some (.int a0), some (.int (-9 : Int32)), none, none, none, none] dX9_verdictOf_2 (by decide) rfl ?_
  refine g_iconst C dX9_verdictOf_3 kc_1 ?_
  refine g_istore_n C [some (.ref (ad 10)), some (.int a0), some (.int (-9 : Int32)), some (.int (nI 1)), none, none, none] dX9_verdictOf_4 (by decide) rfl ?_
  refine g_iconst C dX9_verdictOf_5 kc_1 ?_
  refine g_istore C [some (.ref (ad 10)), some (.int a0), some (.int (-9 : Int32)), some (.int (nI 1)), some (.int (nI 1)), none, none] dX9_verdictOf_6 (by decide) rfl ?_
  refine g_iconst C dX9_verdictOf_8 kc_1 ?_
  refine g_istore C [some (.ref (ad 10)), some (.int a0), some (.int (-9 : Int32)), some (.int (nI 1)), some (.int (nI 1)), some (.int (nI 1)), none] dX9_verdictOf_9 (by decide) rfl ?_
  refine g_iconst C dX9_verdictOf_11 kc_0 ?_
  refine g_istore C [some (.ref (ad 10)), some (.int a0), some (.int (-9 : Int32)), some (.int (nI 1)), some (.int (nI 1)), some (.int (nI 1)), some (.int (nI 0))] dX9_verdictOf_12 (by decide) rfl ?_
  obtain ⟨n, h⟩ := h
  exact kl_X9_verdictOf_14 C a0 _ (fun z2 z3 z4 z5 σ9 h => by exact k_X9_verdictOf_123 C z2 z3 z4 z5 σ9 h) n (-9 : Int32) (nI 1) (nI 1) (nI 1) (nI 0) σ h
def rm_X9_isGone : Room := { frames := 1, cells := 0, slots := 0, locals := 26 }
def wp_X9_isGone_16 (Q : Int32 → Sg → Prop) (σ : Sg) : Prop :=
  Q (nI 1) σ
set_option maxHeartbeats 4000000 in
set_option maxRecDepth 100000 in
theorem k_X9_isGone_16 {Q : Int32 → Sg → Prop} (C : Cx p s m args meth c D cy ad b0 yX9_isGone cX9_isGone 3 (some .boolean)) (σ : Sg) (h : wp_X9_isGone_16 Q σ) : gI p l e rm_X9_isGone s m args below meth c D cy ad b0 Q 3 16 σ [none, none, none] [] := by
  refine g_iconst C dX9_isGone_16 kc_1 ?_
  refine g_goto C 21 dX9_isGone_17 (by decide) ?_
  exact g_zret C (narrow_bl bl_1) dX9_isGone_21 h
def wp_X9_isGone (a0 : Int32) (σ : Sg) (Q : Int32 → Sg → Prop) : Prop :=
  wp_X9_verdictOf a0 σ (fun r1 σ2 => ((r1 = (nI 2) → wp_X9_isGone_16 Q σ2) ∧ (¬ r1 = (nI 2) → ((¬ r1 = (nI 3) → Q (nI 0) σ2) ∧ (r1 = (nI 3) → wp_X9_isGone_16 Q σ2)))))
set_option maxHeartbeats 4000000 in
set_option maxRecDepth 100000 in
theorem c_X9_isGone (l : Launch) (D : va_G) (cy : Nat → ClassId) (ad : Nat → Nat) (b0 : Nat) (hA : AdOk ad b0) (a0 : Int32) : Cti l D cy ad b0 yX9_isGone cX9_isGone 3 (some .boolean) rm_X9_isGone [.ref (ad 10), .int a0] (fun σ Q => wp_X9_isGone a0 σ Q) := by
  intro σ Q h
  refine g_enter hA rfl (Nat.le_of_ble_eq_true rfl) [some (.ref (ad 10)), some (.int a0), none] rfl ?_
  intro p e s m args below meth c C
  refine g_aload_n C dX9_isGone_0 rfl ?_
  refine g_iload_n C dX9_isGone_1 rfl ?_
  refine g_callVi C 10 [.int a0] (c_X9_verdictOf l D cy ad b0 C.A a0) cal_X9_verdictOf mw_800 (by decide) rfl rfl ⟨Nat.le_of_ble_eq_true rfl, Nat.le_of_ble_eq_true rfl⟩ ⟨rfl, rfl⟩ ⟨Nat.zero_le _, Nat.zero_le _⟩ (Nat.le_of_ble_eq_true rfl) rfl dX9_isGone_2 h (fun r1 σ2 h => ?_)
  refine g_istore_n C [some (.ref (ad 10)), some (.int a0), some (.int r1)] dX9_isGone_5 (by decide) rfl ?_
  refine g_iload_n C dX9_isGone_6 rfl ?_
  refine g_iconst C dX9_isGone_7 kc_2 ?_
  refine g_icmp_eq C 16 dX9_isGone_8 (by decide) (fun c8 => ?_) (fun c8 => ?_)
  · have h := h.1 c8
    refine g_mask [false, false, false] rfl ?_
    exact k_X9_isGone_16 C σ2 h
  · have h := h.2 c8
    refine g_iload_n C dX9_isGone_11 rfl ?_
    refine g_iconst C dX9_isGone_12 kc_3 ?_
    refine g_icmp_ne C 20 dX9_isGone_13 (by decide) (fun c13 => ?_) (fun c13 => ?_)
    · have h := h.1 c13
      refine g_iconst C dX9_isGone_20 kc_0 ?_
      exact g_zret C (narrow_bl bl_0) dX9_isGone_21 h
    · have h := h.2 c13
      refine g_mask [false, false, false] rfl ?_
      exact k_X9_isGone_16 C σ2 h
def rm_X9_isKey : Room := { frames := 1, cells := 0, slots := 0, locals := 25 }
def wp_X9_isKey (a0 : Int32) (σ : Sg) (Q : Int32 → Sg → Prop) : Prop :=
  wp_X9_in (Int32.toInt64 a0) (lN 0) (lN 15) σ (fun r1 σ2 => (bl r1 ∧ Q r1 σ2))
set_option maxHeartbeats 4000000 in
set_option maxRecDepth 100000 in
theorem c_X9_isKey (l : Launch) (D : va_G) (cy : Nat → ClassId) (ad : Nat → Nat) (b0 : Nat) (hA : AdOk ad b0) (a0 : Int32) : Cti l D cy ad b0 yX9_isKey cX9_isKey 1 (some .boolean) rm_X9_isKey [.int a0] (fun σ Q => wp_X9_isKey a0 σ Q) := by
  intro σ Q h
  refine g_enter hA rfl (Nat.le_of_ble_eq_true rfl) [some (.int a0)] rfl ?_
  intro p e s m args below meth c C
  refine g_iload_n C dX9_isKey_0 rfl ?_
  refine g_i2l C dX9_isKey_1 ?_
  refine g_lconst C dX9_isKey_2 kl_0 ?_
  refine g_ldc2 C (v := (lN 15)) mw_795 dX9_isKey_3 ?_
  refine g_callSi C [.long (Int32.toInt64 a0), .long (lN 0), .long (lN 15)] (c_X9_in l D cy ad b0 C.A (Int32.toInt64 a0) (lN 0) (lN 15)) cal_X9_in mw_679 rfl ⟨Nat.le_of_ble_eq_true rfl, Nat.le_of_ble_eq_true rfl⟩ ⟨rfl, rfl⟩ ⟨Nat.zero_le _, Nat.zero_le _⟩ (Nat.le_of_ble_eq_true rfl) rfl dX9_isKey_6 h (fun r1 σ2 h => ?_)
  exact g_zret C (narrow_bl h.1) dX9_isKey_9 h.2
def rm_X9_step : Room := { frames := 0, cells := 0, slots := 0, locals := 0 }
def wb_X9_step_119 (v1 : Int32) (v5 : Int32) (K119 : Int32 → Sg → Prop) (Q : Sg → Prop) (σ : Sg) : Prop :=
  (((gF σ 10 39) ≤ v5 → Q σ) ∧ (¬ (gF σ 10 39) ≤ v5 → vp_in v5 (aN 80) ∧ (vp_in (((nI 60) * v1) + v5) (aN 79) ∧ (∀ σ1 : Sg, σ1 = stA σ 79 (Int32.toNatClampNeg (((nI 60) * v1) + v5)) (vp_nar .boolean (gA σ 80 (Int32.toNatClampNeg v5))) → (∀ x147 : Int32, x147 = v5 + (nI 1) → (K119 x147 σ1))))))
set_option maxHeartbeats 4000000 in
set_option maxRecDepth 100000 in
theorem kb_X9_step_119 {Q : Sg → Prop} (C : Cx p s m args meth c D cy ad b0 yX9_step cX9_step 7 none) (v1 : Int32) (v5 : Int32) (K119 : Int32 → Sg → Prop) (hK119 : ∀ (z5 : Int32) (σ : Sg), K119 z5 σ → gV p l e rm_X9_step s m args below meth c D cy ad b0 Q 7 119 σ [some (.ref (ad 10)), some (.int v1), none, none, none, some (.int z5), none] []) (σ : Sg) (h : wb_X9_step_119 v1 v5 K119 Q σ) : gV p l e rm_X9_step s m args below meth c D cy ad b0 Q 7 119 σ [some (.ref (ad 10)), some (.int v1), none, none, none, some (.int v5), none] [] := by
  refine g_iload C dX9_step_119 rfl ?_
  refine g_aload_n C dX9_step_121 rfl ?_
  refine fget_10_39_X9_237 C rfl dX9_step_122 ?_
  refine g_icmp_ge C 153 dX9_step_125 (by decide) (fun c125 => ?_) (fun c125 => ?_)
  · have h := h.1 c125
    exact g_vret C dX9_step_153 h
  · have h := h.2 c125
    refine g_aload_n C dX9_step_128 rfl ?_
    refine fget_10_48_X9_110 C rfl dX9_step_129 ?_
    refine g_bipush C dX9_step_132 kb_60 ?_
    refine g_iload_n C dX9_step_134 rfl ?_
    refine g_imul C dX9_step_135 ?_
    refine g_iload C dX9_step_136 rfl ?_
    refine g_iadd C dX9_step_138 ?_
    refine g_aload_n C dX9_step_139 rfl ?_
    refine fget_10_49_X9_113 C rfl dX9_step_140 ?_
    refine g_iload C dX9_step_143 rfl ?_
    refine g_zald C (by decide) h.1 dX9_step_145 ?_
    have h := h.2
    refine g_zast C (by decide) h.1 dX9_step_146 (fun σ1 e_σ1 => ?_)
    have h := h.2 σ1 e_σ1
    obtain ⟨x147, e_x147⟩ : ∃ v : Int32, v = v5 + (nI 1) := ⟨_, rfl⟩
    have h := h x147 e_x147
    refine g_iinc C [some (.ref (ad 10)), some (.int v1), none, none, none, some (.int x147), none] dX9_step_147 rfl e_x147.symm (by decide) rfl ?_
    refine g_goto C 119 dX9_step_150 (by decide) ?_
    exact hK119 x147 σ1 h
def wl_X9_step_119 (v1 : Int32) (Q : Sg → Prop) : Nat → Int32 → Sg → Prop
  | 0, _, _ => False
  | n + 1, v5, σ => wb_X9_step_119 v1 v5 (wl_X9_step_119 v1 Q n) Q σ
set_option maxHeartbeats 4000000 in
set_option maxRecDepth 100000 in
theorem kl_X9_step_119 {Q : Sg → Prop} (C : Cx p s m args meth c D cy ad b0 yX9_step cX9_step 7 none) (v1 : Int32) : ∀ (n : Nat) (v5 : Int32) (σ : Sg), wl_X9_step_119 v1 Q n v5 σ → gV p l e rm_X9_step s m args below meth c D cy ad b0 Q 7 119 σ [some (.ref (ad 10)), some (.int v1), none, none, none, some (.int v5), none] [] := by
  intro n
  induction n with
  | zero => intro v5 σ h; exact False.elim h
  | succ n ih =>
    intro v5 σ h
    exact kb_X9_step_119 C v1 v5 (wl_X9_step_119 v1 Q n) (fun z5 σ h => ih z5 σ h) σ h
def wp_X9_step_116 (v1 : Int32) (Q : Sg → Prop) (σ : Sg) : Prop :=
  ∃ n, wl_X9_step_119 v1 Q n (nI 0) σ
set_option maxHeartbeats 4000000 in
set_option maxRecDepth 100000 in
theorem k_X9_step_116 {Q : Sg → Prop} (C : Cx p s m args meth c D cy ad b0 yX9_step cX9_step 7 none) (v1 : Int32) (σ : Sg) (h : wp_X9_step_116 v1 Q σ) : gV p l e rm_X9_step s m args below meth c D cy ad b0 Q 7 116 σ [some (.ref (ad 10)), some (.int v1), none, none, none, none, none] [] := by
  refine g_iconst C dX9_step_116 kc_0 ?_
  refine g_istore C [some (.ref (ad 10)), some (.int v1), none, none, none, some (.int (nI 0)), none] dX9_step_117 (by decide) rfl ?_
  obtain ⟨n, h⟩ := h
  exact kl_X9_step_119 C v1 n (nI 0) σ h
def wp_X9_step_110 (v1 : Int32) (v2 : Int32) (v3 : Int32) (v5 : Int32) (K53 : Int32 → Sg → Prop) (Q : Sg → Prop) (σ : Sg) : Prop :=
  ∀ x110 : Int32, x110 = v5 + (nI 1) → (K53 x110 σ)
set_option maxHeartbeats 4000000 in
set_option maxRecDepth 100000 in
theorem k_X9_step_110 {Q : Sg → Prop} (C : Cx p s m args meth c D cy ad b0 yX9_step cX9_step 7 none) (v1 : Int32) (v2 : Int32) (v3 : Int32) (v5 : Int32) (K53 : Int32 → Sg → Prop) (hK53 : ∀ (z5 : Int32) (σ : Sg), K53 z5 σ → gV p l e rm_X9_step s m args below meth c D cy ad b0 Q 7 53 σ [some (.ref (ad 10)), some (.int v1), some (.int v2), some (.int v3), none, some (.int z5), none] []) (σ : Sg) (h : wp_X9_step_110 v1 v2 v3 v5 K53 Q σ) : gV p l e rm_X9_step s m args below meth c D cy ad b0 Q 7 110 σ [some (.ref (ad 10)), some (.int v1), some (.int v2), some (.int v3), none, some (.int v5), none] [] := by
  obtain ⟨x110, e_x110⟩ : ∃ v : Int32, v = v5 + (nI 1) := ⟨_, rfl⟩
  have h := h x110 e_x110
  refine g_iinc C [some (.ref (ad 10)), some (.int v1), some (.int v2), some (.int v3), none, some (.int x110), none] dX9_step_110 rfl e_x110.symm (by decide) rfl ?_
  refine g_goto C 53 dX9_step_113 (by decide) ?_
  exact hK53 x110 σ h
def wb_X9_step_65 (v1 : Int32) (v2 : Int32) (v3 : Int32) (v5 : Int32) (v6 : Int32) (K65 : Int32 → Sg → Prop) (K110 : Sg → Prop) (Q : Sg → Prop) (σ : Sg) : Prop :=
  ((v3 < v6 → K110 σ) ∧ (¬ v3 < v6 → vp_in (((nI 60) * v1) + v5) (aN 79) ∧ ((((gA σ 79 (Int32.toNatClampNeg (((nI 60) * v1) + v5))) = (nI 0) → K110 σ) ∧ (¬ (gA σ 79 (Int32.toNatClampNeg (((nI 60) * v1) + v5))) = (nI 0) → vp_in (((nI 4) * v5) + v6) (aN 71) ∧ (vp_in (gA σ 71 (Int32.toNatClampNeg (((nI 4) * v5) + v6))) (aN 80) ∧ (∀ σ1 : Sg, σ1 = stA σ 80 (Int32.toNatClampNeg (gA σ 71 (Int32.toNatClampNeg (((nI 4) * v5) + v6)))) (vp_nar .boolean (nI 1)) → (∀ x104 : Int32, x104 = v6 + (nI 1) → (K65 x104 σ1)))))))))
set_option maxHeartbeats 4000000 in
set_option maxRecDepth 100000 in
theorem kb_X9_step_65 {Q : Sg → Prop} (C : Cx p s m args meth c D cy ad b0 yX9_step cX9_step 7 none) (v1 : Int32) (v2 : Int32) (v3 : Int32) (v5 : Int32) (v6 : Int32) (K65 : Int32 → Sg → Prop) (K110 : Sg → Prop) (hK65 : ∀ (z6 : Int32) (σ : Sg), K65 z6 σ → gV p l e rm_X9_step s m args below meth c D cy ad b0 Q 7 65 σ [some (.ref (ad 10)), some (.int v1), some (.int v2), some (.int v3), none, some (.int v5), some (.int z6)] []) (hK110 : ∀  (σ : Sg), K110 σ → gV p l e rm_X9_step s m args below meth c D cy ad b0 Q 7 110 σ [some (.ref (ad 10)), some (.int v1), some (.int v2), some (.int v3), none, some (.int v5), none] []) (σ : Sg) (h : wb_X9_step_65 v1 v2 v3 v5 v6 K65 K110 Q σ) : gV p l e rm_X9_step s m args below meth c D cy ad b0 Q 7 65 σ [some (.ref (ad 10)), some (.int v1), some (.int v2), some (.int v3), none, some (.int v5), some (.int v6)] [] := by
  refine g_iload C dX9_step_65 rfl ?_
  refine g_iload_n C dX9_step_67 rfl ?_
  refine g_icmp_gt C 110 dX9_step_68 (by decide) (fun c68 => ?_) (fun c68 => ?_)
  · have h := h.1 c68
    refine g_mask [true, true, true, true, false, true, false] rfl ?_
    exact hK110 σ h
  · have h := h.2 c68
    refine g_aload_n C dX9_step_71 rfl ?_
    refine fget_10_48_X9_110 C rfl dX9_step_72 ?_
    refine g_bipush C dX9_step_75 kb_60 ?_
    refine g_iload_n C dX9_step_77 rfl ?_
    refine g_imul C dX9_step_78 ?_
    refine g_iload C dX9_step_79 rfl ?_
    refine g_iadd C dX9_step_81 ?_
    refine g_zald C (by decide) h.1 dX9_step_82 ?_
    have h := h.2
    refine g_if_eq C 110 dX9_step_83 (by decide) (fun c83 => ?_) (fun c83 => ?_)
    · have h := h.1 c83
      refine g_mask [true, true, true, true, false, true, false] rfl ?_
      exact hK110 σ h
    · have h := h.2 c83
      refine g_aload_n C dX9_step_86 rfl ?_
      refine fget_10_49_X9_113 C rfl dX9_step_87 ?_
      refine g_aload_n C dX9_step_90 rfl ?_
      refine fget_10_40_X9_85 C rfl dX9_step_91 ?_
      refine g_iconst C dX9_step_94 kc_4 ?_
      refine g_iload C dX9_step_95 rfl ?_
      refine g_imul C dX9_step_97 ?_
      refine g_iload C dX9_step_98 rfl ?_
      refine g_iadd C dX9_step_100 ?_
      refine g_iald C (by decide) h.1 dX9_step_101 ?_
      have h := h.2
      refine g_iconst C dX9_step_102 kc_1 ?_
      refine g_zast C (by decide) h.1 dX9_step_103 (fun σ1 e_σ1 => ?_)
      have h := h.2 σ1 e_σ1
      obtain ⟨x104, e_x104⟩ : ∃ v : Int32, v = v6 + (nI 1) := ⟨_, rfl⟩
      have h := h x104 e_x104
      refine g_iinc C [some (.ref (ad 10)), some (.int v1), some (.int v2), some (.int v3), none, some (.int v5), some (.int x104)] dX9_step_104 rfl e_x104.symm (by decide) rfl ?_
      refine g_goto C 65 dX9_step_107 (by decide) ?_
      exact hK65 x104 σ1 h
def wl_X9_step_65 (v1 : Int32) (v2 : Int32) (v3 : Int32) (v5 : Int32) (K110 : Sg → Prop) (Q : Sg → Prop) : Nat → Int32 → Sg → Prop
  | 0, _, _ => False
  | n + 1, v6, σ => wb_X9_step_65 v1 v2 v3 v5 v6 (wl_X9_step_65 v1 v2 v3 v5 K110 Q n) K110 Q σ
set_option maxHeartbeats 4000000 in
set_option maxRecDepth 100000 in
theorem kl_X9_step_65 {Q : Sg → Prop} (C : Cx p s m args meth c D cy ad b0 yX9_step cX9_step 7 none) (v1 : Int32) (v2 : Int32) (v3 : Int32) (v5 : Int32) (K110 : Sg → Prop) (hK110 : ∀  (σ : Sg), K110 σ → gV p l e rm_X9_step s m args below meth c D cy ad b0 Q 7 110 σ [some (.ref (ad 10)), some (.int v1), some (.int v2), some (.int v3), none, some (.int v5), none] []) : ∀ (n : Nat) (v6 : Int32) (σ : Sg), wl_X9_step_65 v1 v2 v3 v5 K110 Q n v6 σ → gV p l e rm_X9_step s m args below meth c D cy ad b0 Q 7 65 σ [some (.ref (ad 10)), some (.int v1), some (.int v2), some (.int v3), none, some (.int v5), some (.int v6)] [] := by
  intro n
  induction n with
  | zero => intro v6 σ h; exact False.elim h
  | succ n ih =>
    intro v6 σ h
    exact kb_X9_step_65 C v1 v2 v3 v5 v6 (wl_X9_step_65 v1 v2 v3 v5 K110 Q n) K110 (fun z6 σ h => ih z6 σ h) hK110 σ h
def wb_X9_step_53 (v1 : Int32) (v2 : Int32) (v3 : Int32) (v5 : Int32) (K53 : Int32 → Sg → Prop) (K116 : Sg → Prop) (Q : Sg → Prop) (σ : Sg) : Prop :=
  (((gF σ 10 39) ≤ v5 → K116 σ) ∧ (¬ (gF σ 10 39) ≤ v5 → ∃ n, wl_X9_step_65 v1 v2 v3 v5 (fun σ9 => wp_X9_step_110 v1 v2 v3 v5 K53 Q σ9) Q n v2 σ))
set_option maxHeartbeats 4000000 in
set_option maxRecDepth 100000 in
theorem kb_X9_step_53 {Q : Sg → Prop} (C : Cx p s m args meth c D cy ad b0 yX9_step cX9_step 7 none) (v1 : Int32) (v2 : Int32) (v3 : Int32) (v5 : Int32) (K53 : Int32 → Sg → Prop) (K116 : Sg → Prop) (hK53 : ∀ (z5 : Int32) (σ : Sg), K53 z5 σ → gV p l e rm_X9_step s m args below meth c D cy ad b0 Q 7 53 σ [some (.ref (ad 10)), some (.int v1), some (.int v2), some (.int v3), none, some (.int z5), none] []) (hK116 : ∀  (σ : Sg), K116 σ → gV p l e rm_X9_step s m args below meth c D cy ad b0 Q 7 116 σ [some (.ref (ad 10)), some (.int v1), none, none, none, none, none] []) (σ : Sg) (h : wb_X9_step_53 v1 v2 v3 v5 K53 K116 Q σ) : gV p l e rm_X9_step s m args below meth c D cy ad b0 Q 7 53 σ [some (.ref (ad 10)), some (.int v1), some (.int v2), some (.int v3), none, some (.int v5), none] [] := by
  refine g_iload C dX9_step_53 rfl ?_
  refine g_aload_n C dX9_step_55 rfl ?_
  refine fget_10_39_X9_237 C rfl dX9_step_56 ?_
  refine g_icmp_ge C 116 dX9_step_59 (by decide) (fun c59 => ?_) (fun c59 => ?_)
  · have h := h.1 c59
    refine g_mask [true, true, false, false, false, false, false] rfl ?_
    exact hK116 σ h
  · have h := h.2 c59
    refine g_iload_n C dX9_step_62 rfl ?_
    refine g_istore C [some (.ref (ad 10)), some (.int v1), some (.int v2), some (.int v3), none, some (.int v5), some (.int v2)] dX9_step_63 (by decide) rfl ?_
    obtain ⟨n, h⟩ := h
    exact kl_X9_step_65 C v1 v2 v3 v5 _ (fun σ9 h => by exact k_X9_step_110 C v1 v2 v3 v5 K53 hK53 σ9 h) n v2 σ h
def wl_X9_step_53 (v1 : Int32) (v2 : Int32) (v3 : Int32) (K116 : Sg → Prop) (Q : Sg → Prop) : Nat → Int32 → Sg → Prop
  | 0, _, _ => False
  | n + 1, v5, σ => wb_X9_step_53 v1 v2 v3 v5 (wl_X9_step_53 v1 v2 v3 K116 Q n) K116 Q σ
set_option maxHeartbeats 4000000 in
set_option maxRecDepth 100000 in
theorem kl_X9_step_53 {Q : Sg → Prop} (C : Cx p s m args meth c D cy ad b0 yX9_step cX9_step 7 none) (v1 : Int32) (v2 : Int32) (v3 : Int32) (K116 : Sg → Prop) (hK116 : ∀  (σ : Sg), K116 σ → gV p l e rm_X9_step s m args below meth c D cy ad b0 Q 7 116 σ [some (.ref (ad 10)), some (.int v1), none, none, none, none, none] []) : ∀ (n : Nat) (v5 : Int32) (σ : Sg), wl_X9_step_53 v1 v2 v3 K116 Q n v5 σ → gV p l e rm_X9_step s m args below meth c D cy ad b0 Q 7 53 σ [some (.ref (ad 10)), some (.int v1), some (.int v2), some (.int v3), none, some (.int v5), none] [] := by
  intro n
  induction n with
  | zero => intro v5 σ h; exact False.elim h
  | succ n ih =>
    intro v5 σ h
    exact kb_X9_step_53 C v1 v2 v3 v5 (wl_X9_step_53 v1 v2 v3 K116 Q n) K116 (fun z5 σ h => ih z5 σ h) hK116 σ h
def wp_X9_step_50 (v1 : Int32) (v2 : Int32) (v3 : Int32) (Q : Sg → Prop) (σ : Sg) : Prop :=
  ∃ n, wl_X9_step_53 v1 v2 v3 (fun σ9 => wp_X9_step_116 v1 Q σ9) Q n (nI 0) σ
set_option maxHeartbeats 4000000 in
set_option maxRecDepth 100000 in
theorem k_X9_step_50 {Q : Sg → Prop} (C : Cx p s m args meth c D cy ad b0 yX9_step cX9_step 7 none) (v1 : Int32) (v2 : Int32) (v3 : Int32) (σ : Sg) (h : wp_X9_step_50 v1 v2 v3 Q σ) : gV p l e rm_X9_step s m args below meth c D cy ad b0 Q 7 50 σ [some (.ref (ad 10)), some (.int v1), some (.int v2), some (.int v3), none, none, none] [] := by
  refine g_iconst C dX9_step_50 kc_0 ?_
  refine g_istore C [some (.ref (ad 10)), some (.int v1), some (.int v2), some (.int v3), none, some (.int (nI 0)), none] dX9_step_51 (by decide) rfl ?_
  obtain ⟨n, h⟩ := h
  exact kl_X9_step_53 C v1 v2 v3 _ (fun σ9 h => by exact k_X9_step_116 C v1 σ9 h) n (nI 0) σ h
def wp_X9_step_43 (v1 : Int32) (v2 : Int32) (v3 : Int32) (v4 : Int32) (v5 : Int32) (s0 : Int32) (s1 : Int32) (K3 : Int32 → Sg → Prop) (Q : Sg → Prop) (σ : Sg) : Prop :=
  vp_in s1 (aN 80) ∧ (∀ σ1 : Sg, σ1 = stA σ 80 (Int32.toNatClampNeg s1) (vp_nar .boolean s0) → (∀ x44 : Int32, x44 = v5 + (nI 1) → (K3 x44 σ1)))
set_option maxHeartbeats 4000000 in
set_option maxRecDepth 100000 in
theorem k_X9_step_43 {Q : Sg → Prop} (C : Cx p s m args meth c D cy ad b0 yX9_step cX9_step 7 none) (v1 : Int32) (v2 : Int32) (v3 : Int32) (v4 : Int32) (v5 : Int32) (s0 : Int32) (s1 : Int32) (K3 : Int32 → Sg → Prop) (hK3 : ∀ (z5 : Int32) (σ : Sg), K3 z5 σ → gV p l e rm_X9_step s m args below meth c D cy ad b0 Q 7 3 σ [some (.ref (ad 10)), some (.int v1), some (.int v2), some (.int v3), some (.int v4), some (.int z5), none] []) (σ : Sg) (h : wp_X9_step_43 v1 v2 v3 v4 v5 s0 s1 K3 Q σ) : gV p l e rm_X9_step s m args below meth c D cy ad b0 Q 7 43 σ [some (.ref (ad 10)), some (.int v1), some (.int v2), some (.int v3), some (.int v4), some (.int v5), none] [.int s0, .int s1, .ref (ad 80)] := by
  refine g_zast C (by decide) h.1 dX9_step_43 (fun σ1 e_σ1 => ?_)
  have h := h.2 σ1 e_σ1
  obtain ⟨x44, e_x44⟩ : ∃ v : Int32, v = v5 + (nI 1) := ⟨_, rfl⟩
  have h := h x44 e_x44
  refine g_iinc C [some (.ref (ad 10)), some (.int v1), some (.int v2), some (.int v3), some (.int v4), some (.int x44), none] dX9_step_44 rfl e_x44.symm (by decide) rfl ?_
  refine g_goto C 3 dX9_step_47 (by decide) ?_
  exact hK3 x44 σ1 h
def wp_X9_step_42 (v1 : Int32) (v2 : Int32) (v3 : Int32) (v4 : Int32) (v5 : Int32) (s0 : Int32) (K3 : Int32 → Sg → Prop) (Q : Sg → Prop) (σ : Sg) : Prop :=
  wp_X9_step_43 v1 v2 v3 v4 v5 (nI 0) s0 K3 Q σ
set_option maxHeartbeats 4000000 in
set_option maxRecDepth 100000 in
theorem k_X9_step_42 {Q : Sg → Prop} (C : Cx p s m args meth c D cy ad b0 yX9_step cX9_step 7 none) (v1 : Int32) (v2 : Int32) (v3 : Int32) (v4 : Int32) (v5 : Int32) (s0 : Int32) (K3 : Int32 → Sg → Prop) (hK3 : ∀ (z5 : Int32) (σ : Sg), K3 z5 σ → gV p l e rm_X9_step s m args below meth c D cy ad b0 Q 7 3 σ [some (.ref (ad 10)), some (.int v1), some (.int v2), some (.int v3), some (.int v4), some (.int z5), none] []) (σ : Sg) (h : wp_X9_step_42 v1 v2 v3 v4 v5 s0 K3 Q σ) : gV p l e rm_X9_step s m args below meth c D cy ad b0 Q 7 42 σ [some (.ref (ad 10)), some (.int v1), some (.int v2), some (.int v3), some (.int v4), some (.int v5), none] [.int s0, .ref (ad 80)] := by
  refine g_iconst C dX9_step_42 kc_0 ?_
  exact k_X9_step_43 C v1 v2 v3 v4 v5 (nI 0) s0 K3 hK3 σ h
def wb_X9_step_3 (v1 : Int32) (v2 : Int32) (v3 : Int32) (v4 : Int32) (v5 : Int32) (K3 : Int32 → Sg → Prop) (K50 : Sg → Prop) (Q : Sg → Prop) (σ : Sg) : Prop :=
  (((gF σ 10 39) ≤ v5 → K50 σ) ∧ (¬ (gF σ 10 39) ≤ v5 → ((v4 = (nI 0) → wp_X9_step_42 v1 v2 v3 v4 v5 v5 K3 Q σ) ∧ (¬ v4 = (nI 0) → vp_in (((nI 60) * v1) + v5) (aN 79) ∧ ((((gA σ 79 (Int32.toNatClampNeg (((nI 60) * v1) + v5))) = (nI 0) → wp_X9_step_42 v1 v2 v3 v4 v5 v5 K3 Q σ) ∧ (¬ (gA σ 79 (Int32.toNatClampNeg (((nI 60) * v1) + v5))) = (nI 0) → wp_X9_step_43 v1 v2 v3 v4 v5 (nI 1) v5 K3 Q σ)))))))
set_option maxHeartbeats 4000000 in
set_option maxRecDepth 100000 in
theorem kb_X9_step_3 {Q : Sg → Prop} (C : Cx p s m args meth c D cy ad b0 yX9_step cX9_step 7 none) (v1 : Int32) (v2 : Int32) (v3 : Int32) (v4 : Int32) (v5 : Int32) (K3 : Int32 → Sg → Prop) (K50 : Sg → Prop) (hK3 : ∀ (z5 : Int32) (σ : Sg), K3 z5 σ → gV p l e rm_X9_step s m args below meth c D cy ad b0 Q 7 3 σ [some (.ref (ad 10)), some (.int v1), some (.int v2), some (.int v3), some (.int v4), some (.int z5), none] []) (hK50 : ∀  (σ : Sg), K50 σ → gV p l e rm_X9_step s m args below meth c D cy ad b0 Q 7 50 σ [some (.ref (ad 10)), some (.int v1), some (.int v2), some (.int v3), none, none, none] []) (σ : Sg) (h : wb_X9_step_3 v1 v2 v3 v4 v5 K3 K50 Q σ) : gV p l e rm_X9_step s m args below meth c D cy ad b0 Q 7 3 σ [some (.ref (ad 10)), some (.int v1), some (.int v2), some (.int v3), some (.int v4), some (.int v5), none] [] := by
  refine g_iload C dX9_step_3 rfl ?_
  refine g_aload_n C dX9_step_5 rfl ?_
  refine fget_10_39_X9_237 C rfl dX9_step_6 ?_
  refine g_icmp_ge C 50 dX9_step_9 (by decide) (fun c9 => ?_) (fun c9 => ?_)
  · have h := h.1 c9
    refine g_mask [true, true, true, true, false, false, false] rfl ?_
    exact hK50 σ h
  · have h := h.2 c9
    refine g_aload_n C dX9_step_12 rfl ?_
    refine fget_10_49_X9_113 C rfl dX9_step_13 ?_
    refine g_iload C dX9_step_16 rfl ?_
    refine g_iload C dX9_step_18 rfl ?_
    refine g_if_eq C 42 dX9_step_20 (by decide) (fun c20 => ?_) (fun c20 => ?_)
    · have h := h.1 c20
      exact k_X9_step_42 C v1 v2 v3 v4 v5 v5 K3 hK3 σ h
    · have h := h.2 c20
      refine g_aload_n C dX9_step_23 rfl ?_
      refine fget_10_48_X9_110 C rfl dX9_step_24 ?_
      refine g_bipush C dX9_step_27 kb_60 ?_
      refine g_iload_n C dX9_step_29 rfl ?_
      refine g_imul C dX9_step_30 ?_
      refine g_iload C dX9_step_31 rfl ?_
      refine g_iadd C dX9_step_33 ?_
      refine g_zald C (by decide) h.1 dX9_step_34 ?_
      have h := h.2
      refine g_if_eq C 42 dX9_step_35 (by decide) (fun c35 => ?_) (fun c35 => ?_)
      · have h := h.1 c35
        exact k_X9_step_42 C v1 v2 v3 v4 v5 v5 K3 hK3 σ h
      · have h := h.2 c35
        refine g_iconst C dX9_step_38 kc_1 ?_
        refine g_goto C 43 dX9_step_39 (by decide) ?_
        exact k_X9_step_43 C v1 v2 v3 v4 v5 (nI 1) v5 K3 hK3 σ h
def wl_X9_step_3 (v1 : Int32) (v2 : Int32) (v3 : Int32) (v4 : Int32) (K50 : Sg → Prop) (Q : Sg → Prop) : Nat → Int32 → Sg → Prop
  | 0, _, _ => False
  | n + 1, v5, σ => wb_X9_step_3 v1 v2 v3 v4 v5 (wl_X9_step_3 v1 v2 v3 v4 K50 Q n) K50 Q σ
set_option maxHeartbeats 4000000 in
set_option maxRecDepth 100000 in
theorem kl_X9_step_3 {Q : Sg → Prop} (C : Cx p s m args meth c D cy ad b0 yX9_step cX9_step 7 none) (v1 : Int32) (v2 : Int32) (v3 : Int32) (v4 : Int32) (K50 : Sg → Prop) (hK50 : ∀  (σ : Sg), K50 σ → gV p l e rm_X9_step s m args below meth c D cy ad b0 Q 7 50 σ [some (.ref (ad 10)), some (.int v1), some (.int v2), some (.int v3), none, none, none] []) : ∀ (n : Nat) (v5 : Int32) (σ : Sg), wl_X9_step_3 v1 v2 v3 v4 K50 Q n v5 σ → gV p l e rm_X9_step s m args below meth c D cy ad b0 Q 7 3 σ [some (.ref (ad 10)), some (.int v1), some (.int v2), some (.int v3), some (.int v4), some (.int v5), none] [] := by
  intro n
  induction n with
  | zero => intro v5 σ h; exact False.elim h
  | succ n ih =>
    intro v5 σ h
    exact kb_X9_step_3 C v1 v2 v3 v4 v5 (wl_X9_step_3 v1 v2 v3 v4 K50 Q n) K50 (fun z5 σ h => ih z5 σ h) hK50 σ h
def wp_X9_step (a0 : Int32) (a1 : Int32) (a2 : Int32) (a3 : Int32) (σ : Sg) (Q : Sg → Prop) : Prop :=
  ∃ n, wl_X9_step_3 a0 a1 a2 a3 (fun σ9 => wp_X9_step_50 a0 a1 a2 Q σ9) Q n (nI 0) σ
set_option maxHeartbeats 4000000 in
set_option maxRecDepth 100000 in
theorem c_X9_step (l : Launch) (D : va_G) (cy : Nat → ClassId) (ad : Nat → Nat) (b0 : Nat) (hA : AdOk ad b0) (a0 : Int32) (a1 : Int32) (a2 : Int32) (a3 : Int32) : Ctv l D cy ad b0 yX9_step cX9_step 7 none rm_X9_step [.ref (ad 10), .int a0, .int a1, .int a2, .int a3] (fun σ Q => wp_X9_step a0 a1 a2 a3 σ Q) := by
  intro σ Q h
  refine g_enter hA rfl (Nat.le_of_ble_eq_true rfl) [some (.ref (ad 10)), some (.int a0), some (.int a1), some (.int a2), some (.int a3), none, none] rfl ?_
  intro p e s m args below meth c C
  refine g_iconst C dX9_step_0 kc_0 ?_
  refine g_istore C [some (.ref (ad 10)), some (.int a0), some (.int a1), some (.int a2), some (.int a3), some (.int (nI 0)), none] dX9_step_1 (by decide) rfl ?_
  obtain ⟨n, h⟩ := h
  exact kl_X9_step_3 C a0 a1 a2 a3 _ (fun σ9 h => by exact k_X9_step_50 C a0 a1 a2 σ9 h) n (nI 0) σ h
def rm_X9_event : Room := { frames := 2, cells := 0, slots := 0, locals := 48 }
def wp_X9_event_57 (v2 : Int32) (Q : Int32 → Sg → Prop) (σ : Sg) : Prop :=
  wp_X9_verdictOf v2 σ (fun r1 σ2 => Q r1 σ2)
set_option maxHeartbeats 4000000 in
set_option maxRecDepth 100000 in
theorem k_X9_event_57 {Q : Int32 → Sg → Prop} (C : Cx p s m args meth c D cy ad b0 yX9_event cX9_event 3 (some .int)) (v2 : Int32) (σ : Sg) (h : wp_X9_event_57 v2 Q σ) : gI p l e rm_X9_event s m args below meth c D cy ad b0 Q 3 57 σ [some (.ref (ad 10)), none, some (.int v2)] [] := by
  refine g_aload_n C dX9_event_57 rfl ?_
  refine g_iload_n C dX9_event_58 rfl ?_
  refine g_callVi C 10 [.int v2] (c_X9_verdictOf l D cy ad b0 C.A v2) cal_X9_verdictOf mw_800 (by decide) rfl rfl ⟨Nat.le_of_ble_eq_true rfl, Nat.le_of_ble_eq_true rfl⟩ ⟨rfl, rfl⟩ ⟨Nat.zero_le _, Nat.zero_le _⟩ (Nat.le_of_ble_eq_true rfl) rfl dX9_event_59 h (fun r1 σ2 h => ?_)
  exact g_iret C dX9_event_62 h
def wp_X9_event (a0 : Int32) (a1 : Int32) (σ : Sg) (Q : Int32 → Sg → Prop) : Prop :=
  ((¬ (gF σ 10 38) = (nI 0) → wp_X9_in (Int32.toInt64 a0) (lN 0) (lN 3) σ (fun r1 σ2 => ((r1 = (nI 0) → Q (-1 : Int32) σ2) ∧ (¬ r1 = (nI 0) → wp_X9_isKey a1 σ2 (fun r3 σ4 => ((¬ r3 = (nI 0) → wp_X9_isGone a1 σ4 (fun r5 σ6 => ((¬ r5 = (nI 0) → wp_X9_event_57 a1 Q σ6) ∧ (r5 = (nI 0) → wp_X9_step a1 a0 a0 (nI 0) σ6 (fun σ7 => vp_in a1 (aN 81) ∧ (vp_in a1 (aN 81) ∧ (∀ σ8 : Sg, σ8 = stA σ7 81 (Int32.toNatClampNeg a1) ((gA σ7 81 (Int32.toNatClampNeg a1)) + (nI 1)) → (wp_X9_event_57 a1 Q σ8)))))))) ∧ (r3 = (nI 0) → Q (-1 : Int32) σ4))))))) ∧ ((gF σ 10 38) = (nI 0) → Q (-3 : Int32) σ))
set_option maxHeartbeats 4000000 in
set_option maxRecDepth 100000 in
theorem c_X9_event (l : Launch) (D : va_G) (cy : Nat → ClassId) (ad : Nat → Nat) (b0 : Nat) (hA : AdOk ad b0) (a0 : Int32) (a1 : Int32) : Cti l D cy ad b0 yX9_event cX9_event 3 (some .int) rm_X9_event [.ref (ad 10), .int a0, .int a1] (fun σ Q => wp_X9_event a0 a1 σ Q) := by
  intro σ Q h
  refine g_enter hA rfl (Nat.le_of_ble_eq_true rfl) [some (.ref (ad 10)), some (.int a0), some (.int a1)] rfl ?_
  intro p e s m args below meth c C
  refine g_aload_n C dX9_event_0 rfl ?_
  refine fget_10_38_X9_257 C rfl dX9_event_1 ?_
  refine g_if_ne C 10 dX9_event_4 (by decide) (fun c4 => ?_) (fun c4 => ?_)
  · have h := h.1 c4
    refine g_iload_n C dX9_event_10 rfl ?_
    refine g_i2l C dX9_event_11 ?_
    refine g_lconst C dX9_event_12 kl_0 ?_
    refine g_ldc2 C (v := (lN 3)) mw_674 dX9_event_13 ?_
    refine g_callSi C [.long (Int32.toInt64 a0), .long (lN 0), .long (lN 3)] (c_X9_in l D cy ad b0 C.A (Int32.toInt64 a0) (lN 0) (lN 3)) cal_X9_in mw_679 rfl ⟨Nat.le_of_ble_eq_true rfl, Nat.le_of_ble_eq_true rfl⟩ ⟨rfl, rfl⟩ ⟨Nat.zero_le _, Nat.zero_le _⟩ (Nat.le_of_ble_eq_true rfl) rfl dX9_event_16 h (fun r1 σ2 h => ?_)
    refine g_if_eq C 29 dX9_event_19 (by decide) (fun c19 => ?_) (fun c19 => ?_)
    · have h := h.1 c19
      refine g_iconst C dX9_event_29 kc_m1 ?_
      exact g_iret C dX9_event_30 h
    · have h := h.2 c19
      refine g_iload_n C dX9_event_22 rfl ?_
      refine g_callSi C [.int a1] (c_X9_isKey l D cy ad b0 C.A a1) cal_X9_isKey mw_792 rfl ⟨Nat.le_of_ble_eq_true rfl, Nat.le_of_ble_eq_true rfl⟩ ⟨rfl, rfl⟩ ⟨Nat.zero_le _, Nat.zero_le _⟩ (Nat.le_of_ble_eq_true rfl) rfl dX9_event_23 h (fun r3 σ4 h => ?_)
      refine g_if_ne C 31 dX9_event_26 (by decide) (fun c26 => ?_) (fun c26 => ?_)
      · have h := h.1 c26
        refine g_aload_n C dX9_event_31 rfl ?_
        refine g_iload_n C dX9_event_32 rfl ?_
        refine g_callVi C 10 [.int a1] (c_X9_isGone l D cy ad b0 C.A a1) cal_X9_isGone mw_796 (by decide) rfl rfl ⟨Nat.le_of_ble_eq_true rfl, Nat.le_of_ble_eq_true rfl⟩ ⟨rfl, rfl⟩ ⟨Nat.zero_le _, Nat.zero_le _⟩ (Nat.le_of_ble_eq_true rfl) rfl dX9_event_33 h (fun r5 σ6 h => ?_)
        refine g_if_ne C 57 dX9_event_36 (by decide) (fun c36 => ?_) (fun c36 => ?_)
        · have h := h.1 c36
          refine g_mask [true, false, true] rfl ?_
          exact k_X9_event_57 C a1 σ6 h
        · have h := h.2 c36
          refine g_aload_n C dX9_event_39 rfl ?_
          refine g_iload_n C dX9_event_40 rfl ?_
          refine g_iload_n C dX9_event_41 rfl ?_
          refine g_iload_n C dX9_event_42 rfl ?_
          refine g_iconst C dX9_event_43 kc_0 ?_
          refine g_callVv C 10 [.int a1, .int a0, .int a0, .int (nI 0)] (c_X9_step l D cy ad b0 C.A a1 a0 a0 (nI 0)) cal_X9_step mw_804 (by decide) rfl rfl ⟨Nat.le_of_ble_eq_true rfl, Nat.le_of_ble_eq_true rfl⟩ ⟨rfl, rfl⟩ ⟨Nat.zero_le _, Nat.zero_le _⟩ (Nat.le_of_ble_eq_true rfl) rfl dX9_event_44 h (fun σ7 h => ?_)
          refine g_aload_n C dX9_event_47 rfl ?_
          refine fget_10_50_X9_116 C rfl dX9_event_48 ?_
          refine g_iload_n C dX9_event_51 rfl ?_
          refine g_dup2 C dX9_event_52 rfl rfl ?_
          refine g_iald C (by decide) h.1 dX9_event_53 ?_
          have h := h.2
          refine g_iconst C dX9_event_54 kc_1 ?_
          refine g_iadd C dX9_event_55 ?_
          refine g_iast C (by decide) h.1 dX9_event_56 (fun σ8 e_σ8 => ?_)
          have h := h.2 σ8 e_σ8
          refine g_mask [true, false, true] rfl ?_
          exact k_X9_event_57 C a1 σ8 h
      · have h := h.2 c26
        refine g_iconst C dX9_event_29 kc_m1 ?_
        exact g_iret C dX9_event_30 h
  · have h := h.2 c4
    refine g_bipush C dX9_event_7 kb_m3 ?_
    exact g_iret C dX9_event_9 h
def rm_X9_lost : Room := { frames := 2, cells := 0, slots := 0, locals := 48 }
def wp_X9_lost_67 (v1 : Int32) (Q : Int32 → Sg → Prop) (σ : Sg) : Prop :=
  wp_X9_verdictOf v1 σ (fun r1 σ2 => Q r1 σ2)
set_option maxHeartbeats 4000000 in
set_option maxRecDepth 100000 in
theorem k_X9_lost_67 {Q : Int32 → Sg → Prop} (C : Cx p s m args meth c D cy ad b0 yX9_lost cX9_lost 5 (some .int)) (v1 : Int32) (σ : Sg) (h : wp_X9_lost_67 v1 Q σ) : gI p l e rm_X9_lost s m args below meth c D cy ad b0 Q 5 67 σ [some (.ref (ad 10)), some (.int v1), none, none, none] [] := by
  refine g_aload_n C dX9_lost_67 rfl ?_
  refine g_iload_n C dX9_lost_68 rfl ?_
  refine g_callVi C 10 [.int v1] (c_X9_verdictOf l D cy ad b0 C.A v1) cal_X9_verdictOf mw_800 (by decide) rfl rfl ⟨Nat.le_of_ble_eq_true rfl, Nat.le_of_ble_eq_true rfl⟩ ⟨rfl, rfl⟩ ⟨Nat.zero_le _, Nat.zero_le _⟩ (Nat.le_of_ble_eq_true rfl) rfl dX9_lost_69 h (fun r1 σ2 h => ?_)
  exact g_iret C dX9_lost_72 h
def wb_X9_lost_43 (v1 : Int32) (v2 : Int32) (v3 : Int32) (v4 : Int32) (K43 : Int32 → Sg → Prop) (K67 : Sg → Prop) (Q : Int32 → Sg → Prop) (σ : Sg) : Prop :=
  ((v2 ≤ v4 → K67 σ) ∧ (¬ v2 ≤ v4 → ((¬ v3 = (nI 0) → K67 σ) ∧ (v3 = (nI 0) → wp_X9_step v1 (nI 0) (nI 3) (nI 1) σ (fun σ1 => ∀ x61 : Int32, x61 = v4 + (nI 1) → (K43 x61 σ1))))))
set_option maxHeartbeats 4000000 in
set_option maxRecDepth 100000 in
theorem kb_X9_lost_43 {Q : Int32 → Sg → Prop} (C : Cx p s m args meth c D cy ad b0 yX9_lost cX9_lost 5 (some .int)) (v1 : Int32) (v2 : Int32) (v3 : Int32) (v4 : Int32) (K43 : Int32 → Sg → Prop) (K67 : Sg → Prop) (hK43 : ∀ (z4 : Int32) (σ : Sg), K43 z4 σ → gI p l e rm_X9_lost s m args below meth c D cy ad b0 Q 5 43 σ [some (.ref (ad 10)), some (.int v1), some (.int v2), some (.int v3), some (.int z4)] []) (hK67 : ∀  (σ : Sg), K67 σ → gI p l e rm_X9_lost s m args below meth c D cy ad b0 Q 5 67 σ [some (.ref (ad 10)), some (.int v1), none, none, none] []) (σ : Sg) (h : wb_X9_lost_43 v1 v2 v3 v4 K43 K67 Q σ) : gI p l e rm_X9_lost s m args below meth c D cy ad b0 Q 5 43 σ [some (.ref (ad 10)), some (.int v1), some (.int v2), some (.int v3), some (.int v4)] [] := by
  refine g_iload C dX9_lost_43 rfl ?_
  refine g_iload_n C dX9_lost_45 rfl ?_
  refine g_icmp_ge C 67 dX9_lost_46 (by decide) (fun c46 => ?_) (fun c46 => ?_)
  · have h := h.1 c46
    refine g_mask [true, true, false, false, false] rfl ?_
    exact hK67 σ h
  · have h := h.2 c46
    refine g_iload_n C dX9_lost_49 rfl ?_
    refine g_if_ne C 67 dX9_lost_50 (by decide) (fun c50 => ?_) (fun c50 => ?_)
    · have h := h.1 c50
      refine g_mask [true, true, false, false, false] rfl ?_
      exact hK67 σ h
    · have h := h.2 c50
      refine g_aload_n C dX9_lost_53 rfl ?_
      refine g_iload_n C dX9_lost_54 rfl ?_
      refine g_iconst C dX9_lost_55 kc_0 ?_
      refine g_iconst C dX9_lost_56 kc_3 ?_
      refine g_iconst C dX9_lost_57 kc_1 ?_
      refine g_callVv C 10 [.int v1, .int (nI 0), .int (nI 3), .int (nI 1)] (c_X9_step l D cy ad b0 C.A v1 (nI 0) (nI 3) (nI 1)) cal_X9_step mw_804 (by decide) rfl rfl ⟨Nat.le_of_ble_eq_true rfl, Nat.le_of_ble_eq_true rfl⟩ ⟨rfl, rfl⟩ ⟨Nat.zero_le _, Nat.zero_le _⟩ (Nat.le_of_ble_eq_true rfl) rfl dX9_lost_58 h (fun σ1 h => ?_)
      obtain ⟨x61, e_x61⟩ : ∃ v : Int32, v = v4 + (nI 1) := ⟨_, rfl⟩
      have h := h x61 e_x61
      refine g_iinc C [some (.ref (ad 10)), some (.int v1), some (.int v2), some (.int v3), some (.int x61)] dX9_lost_61 rfl e_x61.symm (by decide) rfl ?_
      refine g_goto C 43 dX9_lost_64 (by decide) ?_
      exact hK43 x61 σ1 h
def wl_X9_lost_43 (v1 : Int32) (v2 : Int32) (v3 : Int32) (K67 : Sg → Prop) (Q : Int32 → Sg → Prop) : Nat → Int32 → Sg → Prop
  | 0, _, _ => False
  | n + 1, v4, σ => wb_X9_lost_43 v1 v2 v3 v4 (wl_X9_lost_43 v1 v2 v3 K67 Q n) K67 Q σ
set_option maxHeartbeats 4000000 in
set_option maxRecDepth 100000 in
theorem kl_X9_lost_43 {Q : Int32 → Sg → Prop} (C : Cx p s m args meth c D cy ad b0 yX9_lost cX9_lost 5 (some .int)) (v1 : Int32) (v2 : Int32) (v3 : Int32) (K67 : Sg → Prop) (hK67 : ∀  (σ : Sg), K67 σ → gI p l e rm_X9_lost s m args below meth c D cy ad b0 Q 5 67 σ [some (.ref (ad 10)), some (.int v1), none, none, none] []) : ∀ (n : Nat) (v4 : Int32) (σ : Sg), wl_X9_lost_43 v1 v2 v3 K67 Q n v4 σ → gI p l e rm_X9_lost s m args below meth c D cy ad b0 Q 5 43 σ [some (.ref (ad 10)), some (.int v1), some (.int v2), some (.int v3), some (.int v4)] [] := by
  intro n
  induction n with
  | zero => intro v4 σ h; exact False.elim h
  | succ n ih =>
    intro v4 σ h
    exact kb_X9_lost_43 C v1 v2 v3 v4 (wl_X9_lost_43 v1 v2 v3 K67 Q n) K67 (fun z4 σ h => ih z4 σ h) hK67 σ h
def wp_X9_lost (a0 : Int32) (a1 : Int32) (σ : Sg) (Q : Int32 → Sg → Prop) : Prop :=
  ((¬ (gF σ 10 38) = (nI 0) → wp_X9_isKey a0 σ (fun r1 σ2 => ((¬ r1 = (nI 0) → wp_X9_in (Int32.toInt64 a1) (lN 1) (lN 100) σ2 (fun r3 σ4 => ((¬ r3 = (nI 0) → wp_X9_isGone a0 σ4 (fun r5 σ6 => ∃ n, wl_X9_lost_43 a0 a1 r5 (fun σ9 => wp_X9_lost_67 a0 Q σ9) Q n (nI 0) σ6)) ∧ (r3 = (nI 0) → Q (-2 : Int32) σ4)))) ∧ (r1 = (nI 0) → Q (-1 : Int32) σ2)))) ∧ ((gF σ 10 38) = (nI 0) → Q (-3 : Int32) σ))
set_option maxHeartbeats 4000000 in
set_option maxRecDepth 100000 in
theorem c_X9_lost (l : Launch) (D : va_G) (cy : Nat → ClassId) (ad : Nat → Nat) (b0 : Nat) (hA : AdOk ad b0) (a0 : Int32) (a1 : Int32) : Cti l D cy ad b0 yX9_lost cX9_lost 5 (some .int) rm_X9_lost [.ref (ad 10), .int a0, .int a1] (fun σ Q => wp_X9_lost a0 a1 σ Q) := by
  intro σ Q h
  refine g_enter hA rfl (Nat.le_of_ble_eq_true rfl) [some (.ref (ad 10)), some (.int a0), some (.int a1), none, none] rfl ?_
  intro p e s m args below meth c C
  refine g_aload_n C dX9_lost_0 rfl ?_
  refine fget_10_38_X9_257 C rfl dX9_lost_1 ?_
  refine g_if_ne C 10 dX9_lost_4 (by decide) (fun c4 => ?_) (fun c4 => ?_)
  · have h := h.1 c4
    refine g_iload_n C dX9_lost_10 rfl ?_
    refine g_callSi C [.int a0] (c_X9_isKey l D cy ad b0 C.A a0) cal_X9_isKey mw_792 rfl ⟨Nat.le_of_ble_eq_true rfl, Nat.le_of_ble_eq_true rfl⟩ ⟨rfl, rfl⟩ ⟨Nat.zero_le _, Nat.zero_le _⟩ (Nat.le_of_ble_eq_true rfl) rfl dX9_lost_11 h (fun r1 σ2 h => ?_)
    refine g_if_ne C 19 dX9_lost_14 (by decide) (fun c14 => ?_) (fun c14 => ?_)
    · have h := h.1 c14
      refine g_iload_n C dX9_lost_19 rfl ?_
      refine g_i2l C dX9_lost_20 ?_
      refine g_lconst C dX9_lost_21 kl_1 ?_
      refine g_ldc2 C (v := (lN 100)) mw_824 dX9_lost_22 ?_
      refine g_callSi C [.long (Int32.toInt64 a1), .long (lN 1), .long (lN 100)] (c_X9_in l D cy ad b0 C.A (Int32.toInt64 a1) (lN 1) (lN 100)) cal_X9_in mw_679 rfl ⟨Nat.le_of_ble_eq_true rfl, Nat.le_of_ble_eq_true rfl⟩ ⟨rfl, rfl⟩ ⟨Nat.zero_le _, Nat.zero_le _⟩ (Nat.le_of_ble_eq_true rfl) rfl dX9_lost_25 h (fun r3 σ4 h => ?_)
      refine g_if_ne C 34 dX9_lost_28 (by decide) (fun c28 => ?_) (fun c28 => ?_)
      · have h := h.1 c28
        refine g_aload_n C dX9_lost_34 rfl ?_
        refine g_iload_n C dX9_lost_35 rfl ?_
        refine g_callVi C 10 [.int a0] (c_X9_isGone l D cy ad b0 C.A a0) cal_X9_isGone mw_796 (by decide) rfl rfl ⟨Nat.le_of_ble_eq_true rfl, Nat.le_of_ble_eq_true rfl⟩ ⟨rfl, rfl⟩ ⟨Nat.zero_le _, Nat.zero_le _⟩ (Nat.le_of_ble_eq_true rfl) rfl dX9_lost_36 h (fun r5 σ6 h => ?_)
        refine g_istore_n C [some (.ref (ad 10)), some (.int a0), some (.int a1), some (.int r5), none] dX9_lost_39 (by decide) rfl ?_
        refine g_iconst C dX9_lost_40 kc_0 ?_
        refine g_istore C [some (.ref (ad 10)), some (.int a0), some (.int a1), some (.int r5), some (.int (nI 0))] dX9_lost_41 (by decide) rfl ?_
        obtain ⟨n, h⟩ := h
        exact kl_X9_lost_43 C a0 a1 r5 _ (fun σ9 h => by exact k_X9_lost_67 C a0 σ9 h) n (nI 0) σ6 h
      · have h := h.2 c28
        refine g_bipush C dX9_lost_31 kb_m2 ?_
        exact g_iret C dX9_lost_33 h
    · have h := h.2 c14
      refine g_iconst C dX9_lost_17 kc_m1 ?_
      exact g_iret C dX9_lost_18 h
  · have h := h.2 c4
    refine g_bipush C dX9_lost_7 kb_m3 ?_
    exact g_iret C dX9_lost_9 h
def rm_X9_told : Room := { frames := 2, cells := 0, slots := 0, locals := 45 }
def wp_X9_told (a0 : Int32) (σ : Sg) (Q : Int32 → Sg → Prop) : Prop :=
  ((¬ (gF σ 10 38) = (nI 0) → wp_X9_isKey a0 σ (fun r1 σ2 => ((r1 = (nI 0) → Q (-1 : Int32) σ2) ∧ (¬ r1 = (nI 0) → wp_X9_verdictOf a0 σ2 (fun r3 σ4 => Q r3 σ4))))) ∧ ((gF σ 10 38) = (nI 0) → Q (-3 : Int32) σ))
set_option maxHeartbeats 4000000 in
set_option maxRecDepth 100000 in
theorem c_X9_told (l : Launch) (D : va_G) (cy : Nat → ClassId) (ad : Nat → Nat) (b0 : Nat) (hA : AdOk ad b0) (a0 : Int32) : Cti l D cy ad b0 yX9_told cX9_told 2 (some .int) rm_X9_told [.ref (ad 10), .int a0] (fun σ Q => wp_X9_told a0 σ Q) := by
  intro σ Q h
  refine g_enter hA rfl (Nat.le_of_ble_eq_true rfl) [some (.ref (ad 10)), some (.int a0)] rfl ?_
  intro p e s m args below meth c C
  refine g_aload_n C dX9_told_0 rfl ?_
  refine fget_10_38_X9_257 C rfl dX9_told_1 ?_
  refine g_if_ne C 10 dX9_told_4 (by decide) (fun c4 => ?_) (fun c4 => ?_)
  · have h := h.1 c4
    refine g_iload_n C dX9_told_10 rfl ?_
    refine g_callSi C [.int a0] (c_X9_isKey l D cy ad b0 C.A a0) cal_X9_isKey mw_792 rfl ⟨Nat.le_of_ble_eq_true rfl, Nat.le_of_ble_eq_true rfl⟩ ⟨rfl, rfl⟩ ⟨Nat.zero_le _, Nat.zero_le _⟩ (Nat.le_of_ble_eq_true rfl) rfl dX9_told_11 h (fun r1 σ2 h => ?_)
    refine g_if_eq C 25 dX9_told_14 (by decide) (fun c14 => ?_) (fun c14 => ?_)
    · have h := h.1 c14
      refine g_iconst C dX9_told_25 kc_m1 ?_
      exact g_iret C dX9_told_26 h
    · have h := h.2 c14
      refine g_aload_n C dX9_told_17 rfl ?_
      refine g_iload_n C dX9_told_18 rfl ?_
      refine g_callVi C 10 [.int a0] (c_X9_verdictOf l D cy ad b0 C.A a0) cal_X9_verdictOf mw_800 (by decide) rfl rfl ⟨Nat.le_of_ble_eq_true rfl, Nat.le_of_ble_eq_true rfl⟩ ⟨rfl, rfl⟩ ⟨Nat.zero_le _, Nat.zero_le _⟩ (Nat.le_of_ble_eq_true rfl) rfl dX9_told_19 h (fun r3 σ4 h => ?_)
      refine g_goto C 26 dX9_told_22 (by decide) ?_
      exact g_iret C dX9_told_26 h
  · have h := h.2 c4
    refine g_bipush C dX9_told_7 kb_m3 ?_
    exact g_iret C dX9_told_9 h
def rm_X9_may : Room := { frames := 2, cells := 0, slots := 0, locals := 45 }
def wp_X9_may_51 (v1 : Int32) (v3 : Int32) (s0 : Int32) (s1 : Int32) (K23 : Int32 → Int32 → Sg → Prop) (Q : Int32 → Sg → Prop) (σ : Sg) : Prop :=
  ∀ x52 : Int32, x52 = (s1 + s0) → (∀ x53 : Int32, x53 = v3 + (nI 1) → (K23 x52 x53 σ))
set_option maxHeartbeats 4000000 in
set_option maxRecDepth 100000 in
theorem k_X9_may_51 {Q : Int32 → Sg → Prop} (C : Cx p s m args meth c D cy ad b0 yX9_may cX9_may 4 (some .int)) (v1 : Int32) (v3 : Int32) (s0 : Int32) (s1 : Int32) (K23 : Int32 → Int32 → Sg → Prop) (hK23 : ∀ (z2 : Int32) (z3 : Int32) (σ : Sg), K23 z2 z3 σ → gI p l e rm_X9_may s m args below meth c D cy ad b0 Q 4 23 σ [some (.ref (ad 10)), some (.int v1), some (.int z2), some (.int z3)] []) (σ : Sg) (h : wp_X9_may_51 v1 v3 s0 s1 K23 Q σ) : gI p l e rm_X9_may s m args below meth c D cy ad b0 Q 4 51 σ [some (.ref (ad 10)), some (.int v1), none, some (.int v3)] [.int s0, .int s1] := by
  refine g_iadd C dX9_may_51 ?_
  refine g_topi (fun x52 e_x52 => ?_)
  have h := h x52 e_x52
  refine g_istore_n C [some (.ref (ad 10)), some (.int v1), some (.int x52), some (.int v3)] dX9_may_52 (by decide) rfl ?_
  obtain ⟨x53, e_x53⟩ : ∃ v : Int32, v = v3 + (nI 1) := ⟨_, rfl⟩
  have h := h x53 e_x53
  refine g_iinc C [some (.ref (ad 10)), some (.int v1), some (.int x52), some (.int x53)] dX9_may_53 rfl e_x53.symm (by decide) rfl ?_
  refine g_goto C 23 dX9_may_56 (by decide) ?_
  exact hK23 x52 x53 σ h
def wb_X9_may_23 (v1 : Int32) (v2 : Int32) (v3 : Int32) (K23 : Int32 → Int32 → Sg → Prop) (Q : Int32 → Sg → Prop) (σ : Sg) : Prop :=
  (((gF σ 10 39) ≤ v3 → Q v2 σ) ∧ (¬ (gF σ 10 39) ≤ v3 → vp_in (((nI 60) * v1) + v3) (aN 79) ∧ ((((gA σ 79 (Int32.toNatClampNeg (((nI 60) * v1) + v3))) = (nI 0) → wp_X9_may_51 v1 v3 (nI 0) v2 K23 Q σ) ∧ (¬ (gA σ 79 (Int32.toNatClampNeg (((nI 60) * v1) + v3))) = (nI 0) → wp_X9_may_51 v1 v3 (nI 1) v2 K23 Q σ)))))
set_option maxHeartbeats 4000000 in
set_option maxRecDepth 100000 in
theorem kb_X9_may_23 {Q : Int32 → Sg → Prop} (C : Cx p s m args meth c D cy ad b0 yX9_may cX9_may 4 (some .int)) (v1 : Int32) (v2 : Int32) (v3 : Int32) (K23 : Int32 → Int32 → Sg → Prop) (hK23 : ∀ (z2 : Int32) (z3 : Int32) (σ : Sg), K23 z2 z3 σ → gI p l e rm_X9_may s m args below meth c D cy ad b0 Q 4 23 σ [some (.ref (ad 10)), some (.int v1), some (.int z2), some (.int z3)] []) (σ : Sg) (h : wb_X9_may_23 v1 v2 v3 K23 Q σ) : gI p l e rm_X9_may s m args below meth c D cy ad b0 Q 4 23 σ [some (.ref (ad 10)), some (.int v1), some (.int v2), some (.int v3)] [] := by
  refine g_iload_n C dX9_may_23 rfl ?_
  refine g_aload_n C dX9_may_24 rfl ?_
  refine fget_10_39_X9_237 C rfl dX9_may_25 ?_
  refine g_icmp_ge C 59 dX9_may_28 (by decide) (fun c28 => ?_) (fun c28 => ?_)
  · have h := h.1 c28
    refine g_iload_n C dX9_may_59 rfl ?_
    exact g_iret C dX9_may_60 h
  · have h := h.2 c28
    refine g_iload_n C dX9_may_31 rfl ?_
    refine g_aload_n C dX9_may_32 rfl ?_
    refine fget_10_48_X9_110 C rfl dX9_may_33 ?_
    refine g_bipush C dX9_may_36 kb_60 ?_
    refine g_iload_n C dX9_may_38 rfl ?_
    refine g_imul C dX9_may_39 ?_
    refine g_iload_n C dX9_may_40 rfl ?_
    refine g_iadd C dX9_may_41 ?_
    refine g_zald C (by decide) h.1 dX9_may_42 ?_
    have h := h.2
    refine g_if_eq C 50 dX9_may_43 (by decide) (fun c43 => ?_) (fun c43 => ?_)
    · have h := h.1 c43
      refine g_iconst C dX9_may_50 kc_0 ?_
      refine g_mask [true, true, false, true] rfl ?_
      exact k_X9_may_51 C v1 v3 (nI 0) v2 K23 hK23 σ h
    · have h := h.2 c43
      refine g_iconst C dX9_may_46 kc_1 ?_
      refine g_goto C 51 dX9_may_47 (by decide) ?_
      refine g_mask [true, true, false, true] rfl ?_
      exact k_X9_may_51 C v1 v3 (nI 1) v2 K23 hK23 σ h
def wl_X9_may_23 (v1 : Int32) (Q : Int32 → Sg → Prop) : Nat → Int32 → Int32 → Sg → Prop
  | 0, _, _, _ => False
  | n + 1, v2, v3, σ => wb_X9_may_23 v1 v2 v3 (wl_X9_may_23 v1 Q n) Q σ
set_option maxHeartbeats 4000000 in
set_option maxRecDepth 100000 in
theorem kl_X9_may_23 {Q : Int32 → Sg → Prop} (C : Cx p s m args meth c D cy ad b0 yX9_may cX9_may 4 (some .int)) (v1 : Int32) : ∀ (n : Nat) (v2 : Int32) (v3 : Int32) (σ : Sg), wl_X9_may_23 v1 Q n v2 v3 σ → gI p l e rm_X9_may s m args below meth c D cy ad b0 Q 4 23 σ [some (.ref (ad 10)), some (.int v1), some (.int v2), some (.int v3)] [] := by
  intro n
  induction n with
  | zero => intro v2 v3 σ h; exact False.elim h
  | succ n ih =>
    intro v2 v3 σ h
    exact kb_X9_may_23 C v1 v2 v3 (wl_X9_may_23 v1 Q n) (fun z2 z3 σ h => ih z2 z3 σ h) σ h
def wp_X9_may (a0 : Int32) (σ : Sg) (Q : Int32 → Sg → Prop) : Prop :=
  ((¬ (gF σ 10 38) = (nI 0) → wp_X9_isKey a0 σ (fun r1 σ2 => ((¬ r1 = (nI 0) → ∃ n, wl_X9_may_23 a0 Q n (nI 0) (nI 0) σ2) ∧ (r1 = (nI 0) → Q (-1 : Int32) σ2)))) ∧ ((gF σ 10 38) = (nI 0) → Q (-3 : Int32) σ))
set_option maxHeartbeats 4000000 in
set_option maxRecDepth 100000 in
theorem c_X9_may (l : Launch) (D : va_G) (cy : Nat → ClassId) (ad : Nat → Nat) (b0 : Nat) (hA : AdOk ad b0) (a0 : Int32) : Cti l D cy ad b0 yX9_may cX9_may 4 (some .int) rm_X9_may [.ref (ad 10), .int a0] (fun σ Q => wp_X9_may a0 σ Q) := by
  intro σ Q h
  refine g_enter hA rfl (Nat.le_of_ble_eq_true rfl) [some (.ref (ad 10)), some (.int a0), none, none] rfl ?_
  intro p e s m args below meth c C
  refine g_aload_n C dX9_may_0 rfl ?_
  refine fget_10_38_X9_257 C rfl dX9_may_1 ?_
  refine g_if_ne C 10 dX9_may_4 (by decide) (fun c4 => ?_) (fun c4 => ?_)
  · have h := h.1 c4
    refine g_iload_n C dX9_may_10 rfl ?_
    refine g_callSi C [.int a0] (c_X9_isKey l D cy ad b0 C.A a0) cal_X9_isKey mw_792 rfl ⟨Nat.le_of_ble_eq_true rfl, Nat.le_of_ble_eq_true rfl⟩ ⟨rfl, rfl⟩ ⟨Nat.zero_le _, Nat.zero_le _⟩ (Nat.le_of_ble_eq_true rfl) rfl dX9_may_11 h (fun r1 σ2 h => ?_)
    refine g_if_ne C 19 dX9_may_14 (by decide) (fun c14 => ?_) (fun c14 => ?_)
    · have h := h.1 c14
      refine g_iconst C dX9_may_19 kc_0 ?_
      refine g_istore_n C [some (.ref (ad 10)), some (.int a0), some (.int (nI 0)), none] dX9_may_20 (by decide) rfl ?_
      refine g_iconst C dX9_may_21 kc_0 ?_
      refine g_istore_n C [some (.ref (ad 10)), some (.int a0), some (.int (nI 0)), some (.int (nI 0))] dX9_may_22 (by decide) rfl ?_
      obtain ⟨n, h⟩ := h
      exact kl_X9_may_23 C a0 n (nI 0) (nI 0) σ2 h
    · have h := h.2 c14
      refine g_iconst C dX9_may_17 kc_m1 ?_
      exact g_iret C dX9_may_18 h
  · have h := h.2 c4
    refine g_bipush C dX9_may_7 kb_m3 ?_
    exact g_iret C dX9_may_9 h
def rm_X9_state_ : Room := { frames := 2, cells := 0, slots := 0, locals := 45 }
def wp_X9_state__62 (v1 : Int32) (v2 : Int32) (v3 : Int32) (v4 : Int32) (K24 : Int32 → Int32 → Sg → Prop) (Q : Int32 → Sg → Prop) (σ : Sg) : Prop :=
  ∀ x62 : Int32, x62 = v4 + (nI 1) → (K24 v3 x62 σ)
set_option maxHeartbeats 4000000 in
set_option maxRecDepth 100000 in
theorem k_X9_state__62 {Q : Int32 → Sg → Prop} (C : Cx p s m args meth c D cy ad b0 yX9_state_ cX9_state_ 5 (some .int)) (v1 : Int32) (v2 : Int32) (v3 : Int32) (v4 : Int32) (K24 : Int32 → Int32 → Sg → Prop) (hK24 : ∀ (z3 : Int32) (z4 : Int32) (σ : Sg), K24 z3 z4 σ → gI p l e rm_X9_state_ s m args below meth c D cy ad b0 Q 5 24 σ [some (.ref (ad 10)), some (.int v1), some (.int v2), some (.int z3), some (.int z4)] []) (σ : Sg) (h : wp_X9_state__62 v1 v2 v3 v4 K24 Q σ) : gI p l e rm_X9_state_ s m args below meth c D cy ad b0 Q 5 62 σ [some (.ref (ad 10)), some (.int v1), some (.int v2), some (.int v3), some (.int v4)] [] := by
  obtain ⟨x62, e_x62⟩ : ∃ v : Int32, v = v4 + (nI 1) := ⟨_, rfl⟩
  have h := h x62 e_x62
  refine g_iinc C [some (.ref (ad 10)), some (.int v1), some (.int v2), some (.int v3), some (.int x62)] dX9_state__62 rfl e_x62.symm (by decide) rfl ?_
  refine g_goto C 24 dX9_state__65 (by decide) ?_
  exact hK24 v3 x62 σ h
def wb_X9_state__24 (v1 : Int32) (v2 : Int32) (v3 : Int32) (v4 : Int32) (K24 : Int32 → Int32 → Sg → Prop) (Q : Int32 → Sg → Prop) (σ : Sg) : Prop :=
  (((gF σ 10 39) ≤ v4 → Q (-9 : Int32) σ) ∧ (¬ (gF σ 10 39) ≤ v4 → ((v2 < (nI 0) → Q (-9 : Int32) σ) ∧ (¬ v2 < (nI 0) → vp_in (((nI 60) * v1) + v4) (aN 79) ∧ ((((gA σ 79 (Int32.toNatClampNeg (((nI 60) * v1) + v4))) = (nI 0) → wp_X9_state__62 v1 v2 v3 v4 K24 Q σ) ∧ (¬ (gA σ 79 (Int32.toNatClampNeg (((nI 60) * v1) + v4))) = (nI 0) → ((¬ v3 = (nI 0) → ∀ x59 : Int32, x59 = v3 + (-1 : Int32) → (wp_X9_state__62 v1 v2 x59 v4 K24 Q σ)) ∧ (v3 = (nI 0) → Q v4 σ)))))))))
set_option maxHeartbeats 4000000 in
set_option maxRecDepth 100000 in
theorem kb_X9_state__24 {Q : Int32 → Sg → Prop} (C : Cx p s m args meth c D cy ad b0 yX9_state_ cX9_state_ 5 (some .int)) (v1 : Int32) (v2 : Int32) (v3 : Int32) (v4 : Int32) (K24 : Int32 → Int32 → Sg → Prop) (hK24 : ∀ (z3 : Int32) (z4 : Int32) (σ : Sg), K24 z3 z4 σ → gI p l e rm_X9_state_ s m args below meth c D cy ad b0 Q 5 24 σ [some (.ref (ad 10)), some (.int v1), some (.int v2), some (.int z3), some (.int z4)] []) (σ : Sg) (h : wb_X9_state__24 v1 v2 v3 v4 K24 Q σ) : gI p l e rm_X9_state_ s m args below meth c D cy ad b0 Q 5 24 σ [some (.ref (ad 10)), some (.int v1), some (.int v2), some (.int v3), some (.int v4)] [] := by
  refine g_iload C dX9_state__24 rfl ?_
  refine g_aload_n C dX9_state__26 rfl ?_
  refine fget_10_39_X9_237 C rfl dX9_state__27 ?_
  refine g_icmp_ge C 68 dX9_state__30 (by decide) (fun c30 => ?_) (fun c30 => ?_)
  · have h := h.1 c30
    refine g_bipush C dX9_state__68 kb_m9 ?_
    exact g_iret C dX9_state__70 h
  · have h := h.2 c30
    refine g_iload_n C dX9_state__33 rfl ?_
    refine g_if_lt C 68 dX9_state__34 (by decide) (fun c34 => ?_) (fun c34 => ?_)
    · have h := h.1 c34
      refine g_bipush C dX9_state__68 kb_m9 ?_
      exact g_iret C dX9_state__70 h
    · have h := h.2 c34
      refine g_aload_n C dX9_state__37 rfl ?_
      refine fget_10_48_X9_110 C rfl dX9_state__38 ?_
      refine g_bipush C dX9_state__41 kb_60 ?_
      refine g_iload_n C dX9_state__43 rfl ?_
      refine g_imul C dX9_state__44 ?_
      refine g_iload C dX9_state__45 rfl ?_
      refine g_iadd C dX9_state__47 ?_
      refine g_zald C (by decide) h.1 dX9_state__48 ?_
      have h := h.2
      refine g_if_eq C 62 dX9_state__49 (by decide) (fun c49 => ?_) (fun c49 => ?_)
      · have h := h.1 c49
        exact k_X9_state__62 C v1 v2 v3 v4 K24 hK24 σ h
      · have h := h.2 c49
        refine g_iload_n C dX9_state__52 rfl ?_
        refine g_if_ne C 59 dX9_state__53 (by decide) (fun c53 => ?_) (fun c53 => ?_)
        · have h := h.1 c53
          obtain ⟨x59, e_x59⟩ : ∃ v : Int32, v = v3 + (-1 : Int32) := ⟨_, rfl⟩
          have h := h x59 e_x59
          refine g_iinc C [some (.ref (ad 10)), some (.int v1), some (.int v2), some (.int x59), some (.int v4)] dX9_state__59 rfl e_x59.symm (by decide) rfl ?_
          exact k_X9_state__62 C v1 v2 x59 v4 K24 hK24 σ h
        · have h := h.2 c53
          refine g_iload C dX9_state__56 rfl ?_
          exact g_iret C dX9_state__58 h
def wl_X9_state__24 (v1 : Int32) (v2 : Int32) (Q : Int32 → Sg → Prop) : Nat → Int32 → Int32 → Sg → Prop
  | 0, _, _, _ => False
  | n + 1, v3, v4, σ => wb_X9_state__24 v1 v2 v3 v4 (wl_X9_state__24 v1 v2 Q n) Q σ
set_option maxHeartbeats 4000000 in
set_option maxRecDepth 100000 in
theorem kl_X9_state__24 {Q : Int32 → Sg → Prop} (C : Cx p s m args meth c D cy ad b0 yX9_state_ cX9_state_ 5 (some .int)) (v1 : Int32) (v2 : Int32) : ∀ (n : Nat) (v3 : Int32) (v4 : Int32) (σ : Sg), wl_X9_state__24 v1 v2 Q n v3 v4 σ → gI p l e rm_X9_state_ s m args below meth c D cy ad b0 Q 5 24 σ [some (.ref (ad 10)), some (.int v1), some (.int v2), some (.int v3), some (.int v4)] [] := by
  intro n
  induction n with
  | zero => intro v3 v4 σ h; exact False.elim h
  | succ n ih =>
    intro v3 v4 σ h
    exact kb_X9_state__24 C v1 v2 v3 v4 (wl_X9_state__24 v1 v2 Q n) (fun z3 z4 σ h => ih z3 z4 σ h) σ h
def wp_X9_state_ (a0 : Int32) (a1 : Int32) (σ : Sg) (Q : Int32 → Sg → Prop) : Prop :=
  ((¬ (gF σ 10 38) = (nI 0) → wp_X9_isKey a0 σ (fun r1 σ2 => ((¬ r1 = (nI 0) → ∃ n, wl_X9_state__24 a0 a1 Q n a1 (nI 0) σ2) ∧ (r1 = (nI 0) → Q (-1 : Int32) σ2)))) ∧ ((gF σ 10 38) = (nI 0) → Q (-3 : Int32) σ))
set_option maxHeartbeats 4000000 in
set_option maxRecDepth 100000 in
theorem c_X9_state_ (l : Launch) (D : va_G) (cy : Nat → ClassId) (ad : Nat → Nat) (b0 : Nat) (hA : AdOk ad b0) (a0 : Int32) (a1 : Int32) : Cti l D cy ad b0 yX9_state_ cX9_state_ 5 (some .int) rm_X9_state_ [.ref (ad 10), .int a0, .int a1] (fun σ Q => wp_X9_state_ a0 a1 σ Q) := by
  intro σ Q h
  refine g_enter hA rfl (Nat.le_of_ble_eq_true rfl) [some (.ref (ad 10)), some (.int a0), some (.int a1), none, none] rfl ?_
  intro p e s m args below meth c C
  refine g_aload_n C dX9_state__0 rfl ?_
  refine fget_10_38_X9_257 C rfl dX9_state__1 ?_
  refine g_if_ne C 10 dX9_state__4 (by decide) (fun c4 => ?_) (fun c4 => ?_)
  · have h := h.1 c4
    refine g_iload_n C dX9_state__10 rfl ?_
    refine g_callSi C [.int a0] (c_X9_isKey l D cy ad b0 C.A a0) cal_X9_isKey mw_792 rfl ⟨Nat.le_of_ble_eq_true rfl, Nat.le_of_ble_eq_true rfl⟩ ⟨rfl, rfl⟩ ⟨Nat.zero_le _, Nat.zero_le _⟩ (Nat.le_of_ble_eq_true rfl) rfl dX9_state__11 h (fun r1 σ2 h => ?_)
    refine g_if_ne C 19 dX9_state__14 (by decide) (fun c14 => ?_) (fun c14 => ?_)
    · have h := h.1 c14
      refine g_iload_n C dX9_state__19 rfl ?_
      refine g_istore_n C [some (.ref (ad 10)), some (.int a0), some (.int a1), some (.int a1), none] dX9_state__20 (by decide) rfl ?_
      refine g_iconst C dX9_state__21 kc_0 ?_
      refine g_istore C [some (.ref (ad 10)), some (.int a0), some (.int a1), some (.int a1), some (.int (nI 0))] dX9_state__22 (by decide) rfl ?_
      obtain ⟨n, h⟩ := h
      exact kl_X9_state__24 C a0 a1 n a1 (nI 0) σ2 h
    · have h := h.2 c14
      refine g_iconst C dX9_state__17 kc_m1 ?_
      exact g_iret C dX9_state__18 h
  · have h := h.2 c4
    refine g_bipush C dX9_state__7 kb_m3 ?_
    exact g_iret C dX9_state__9 h
def rm_X9_events : Room := { frames := 2, cells := 0, slots := 0, locals := 45 }
def wp_X9_events (a0 : Int32) (σ : Sg) (Q : Int32 → Sg → Prop) : Prop :=
  ((¬ (gF σ 10 38) = (nI 0) → wp_X9_isKey a0 σ (fun r1 σ2 => ((r1 = (nI 0) → Q (-1 : Int32) σ2) ∧ (¬ r1 = (nI 0) → vp_in a0 (aN 81) ∧ (Q (gA σ2 81 (Int32.toNatClampNeg a0)) σ2))))) ∧ ((gF σ 10 38) = (nI 0) → Q (-3 : Int32) σ))
set_option maxHeartbeats 4000000 in
set_option maxRecDepth 100000 in
theorem c_X9_events (l : Launch) (D : va_G) (cy : Nat → ClassId) (ad : Nat → Nat) (b0 : Nat) (hA : AdOk ad b0) (a0 : Int32) : Cti l D cy ad b0 yX9_events cX9_events 2 (some .int) rm_X9_events [.ref (ad 10), .int a0] (fun σ Q => wp_X9_events a0 σ Q) := by
  intro σ Q h
  refine g_enter hA rfl (Nat.le_of_ble_eq_true rfl) [some (.ref (ad 10)), some (.int a0)] rfl ?_
  intro p e s m args below meth c C
  refine g_aload_n C dX9_events_0 rfl ?_
  refine fget_10_38_X9_257 C rfl dX9_events_1 ?_
  refine g_if_ne C 10 dX9_events_4 (by decide) (fun c4 => ?_) (fun c4 => ?_)
  · have h := h.1 c4
    refine g_iload_n C dX9_events_10 rfl ?_
    refine g_callSi C [.int a0] (c_X9_isKey l D cy ad b0 C.A a0) cal_X9_isKey mw_792 rfl ⟨Nat.le_of_ble_eq_true rfl, Nat.le_of_ble_eq_true rfl⟩ ⟨rfl, rfl⟩ ⟨Nat.zero_le _, Nat.zero_le _⟩ (Nat.le_of_ble_eq_true rfl) rfl dX9_events_11 h (fun r1 σ2 h => ?_)
    refine g_if_eq C 26 dX9_events_14 (by decide) (fun c14 => ?_) (fun c14 => ?_)
    · have h := h.1 c14
      refine g_iconst C dX9_events_26 kc_m1 ?_
      exact g_iret C dX9_events_27 h
    · have h := h.2 c14
      refine g_aload_n C dX9_events_17 rfl ?_
      refine fget_10_50_X9_116 C rfl dX9_events_18 ?_
      refine g_iload_n C dX9_events_21 rfl ?_
      refine g_iald C (by decide) h.1 dX9_events_22 ?_
      have h := h.2
      refine g_goto C 27 dX9_events_23 (by decide) ?_
      exact g_iret C dX9_events_27 h
  · have h := h.2 c4
    refine g_bipush C dX9_events_7 kb_m3 ?_
    exact g_iret C dX9_events_9 h
def rm_X9_anew : Room := { frames := 2, cells := 0, slots := 0, locals := 45 }
def wp_X9_anew (a0 : Int32) (σ : Sg) (Q : Int32 → Sg → Prop) : Prop :=
  ((¬ (gF σ 10 38) = (nI 0) → wp_X9_isKey a0 σ (fun r1 σ2 => ((¬ r1 = (nI 0) → wp_X9_verdictOf a0 σ2 (fun r3 σ4 => wp_X9_begin a0 σ4 (fun σ5 => Q r3 σ5))) ∧ (r1 = (nI 0) → Q (-1 : Int32) σ2)))) ∧ ((gF σ 10 38) = (nI 0) → Q (-3 : Int32) σ))
set_option maxHeartbeats 4000000 in
set_option maxRecDepth 100000 in
theorem c_X9_anew (l : Launch) (D : va_G) (cy : Nat → ClassId) (ad : Nat → Nat) (b0 : Nat) (hA : AdOk ad b0) (a0 : Int32) : Cti l D cy ad b0 yX9_anew cX9_anew 3 (some .int) rm_X9_anew [.ref (ad 10), .int a0] (fun σ Q => wp_X9_anew a0 σ Q) := by
  intro σ Q h
  refine g_enter hA rfl (Nat.le_of_ble_eq_true rfl) [some (.ref (ad 10)), some (.int a0), none] rfl ?_
  intro p e s m args below meth c C
  refine g_aload_n C dX9_anew_0 rfl ?_
  refine fget_10_38_X9_257 C rfl dX9_anew_1 ?_
  refine g_if_ne C 10 dX9_anew_4 (by decide) (fun c4 => ?_) (fun c4 => ?_)
  · have h := h.1 c4
    refine g_iload_n C dX9_anew_10 rfl ?_
    refine g_callSi C [.int a0] (c_X9_isKey l D cy ad b0 C.A a0) cal_X9_isKey mw_792 rfl ⟨Nat.le_of_ble_eq_true rfl, Nat.le_of_ble_eq_true rfl⟩ ⟨rfl, rfl⟩ ⟨Nat.zero_le _, Nat.zero_le _⟩ (Nat.le_of_ble_eq_true rfl) rfl dX9_anew_11 h (fun r1 σ2 h => ?_)
    refine g_if_ne C 19 dX9_anew_14 (by decide) (fun c14 => ?_) (fun c14 => ?_)
    · have h := h.1 c14
      refine g_aload_n C dX9_anew_19 rfl ?_
      refine g_iload_n C dX9_anew_20 rfl ?_
      refine g_callVi C 10 [.int a0] (c_X9_verdictOf l D cy ad b0 C.A a0) cal_X9_verdictOf mw_800 (by decide) rfl rfl ⟨Nat.le_of_ble_eq_true rfl, Nat.le_of_ble_eq_true rfl⟩ ⟨rfl, rfl⟩ ⟨Nat.zero_le _, Nat.zero_le _⟩ (Nat.le_of_ble_eq_true rfl) rfl dX9_anew_21 h (fun r3 σ4 h => ?_)
      refine g_istore_n C [some (.ref (ad 10)), some (.int a0), some (.int r3)] dX9_anew_24 (by decide) rfl ?_
      refine g_aload_n C dX9_anew_25 rfl ?_
      refine g_iload_n C dX9_anew_26 rfl ?_
      refine g_callVv C 10 [.int a0] (c_X9_begin l D cy ad b0 C.A a0) cal_X9_begin mw_634 (by decide) rfl rfl ⟨Nat.le_of_ble_eq_true rfl, Nat.le_of_ble_eq_true rfl⟩ ⟨rfl, rfl⟩ ⟨Nat.zero_le _, Nat.zero_le _⟩ (Nat.le_of_ble_eq_true rfl) rfl dX9_anew_27 h (fun σ5 h => ?_)
      refine g_iload_n C dX9_anew_30 rfl ?_
      exact g_iret C dX9_anew_31 h
    · have h := h.2 c14
      refine g_iconst C dX9_anew_17 kc_m1 ?_
      exact g_iret C dX9_anew_18 h
  · have h := h.2 c4
    refine g_bipush C dX9_anew_7 kb_m3 ?_
    exact g_iret C dX9_anew_9 h
def rm_X9_keep : Room := { frames := 0, cells := 0, slots := 0, locals := 0 }
def wp_X9_keep_81 (Q : Int32 → Sg → Prop) (σ : Sg) : Prop :=
  Q (gF σ 10 39) σ
set_option maxHeartbeats 4000000 in
set_option maxRecDepth 100000 in
theorem k_X9_keep_81 {Q : Int32 → Sg → Prop} (C : Cx p s m args meth c D cy ad b0 yX9_keep cX9_keep 2 (some .int)) (σ : Sg) (h : wp_X9_keep_81 Q σ) : gI p l e rm_X9_keep s m args below meth c D cy ad b0 Q 2 81 σ [some (.ref (ad 10)), none] [] := by
  refine g_aload_n C dX9_keep_81 rfl ?_
  refine fget_10_39_X9_237 C rfl dX9_keep_82 ?_
  exact g_iret C dX9_keep_85 h
def wb_X9_keep_55 (v1 : Int32) (K55 : Int32 → Sg → Prop) (K81 : Sg → Prop) (Q : Int32 → Sg → Prop) (σ : Sg) : Prop :=
  (((gF σ 10 39) ≤ v1 → K81 σ) ∧ (¬ (gF σ 10 39) ≤ v1 → vp_in v1 (aN 72) ∧ (vp_in v1 (aN 83) ∧ (∀ σ1 : Sg, σ1 = stA σ 83 (Int32.toNatClampNeg v1) (vp_nar .boolean (gA σ 72 (Int32.toNatClampNeg v1))) → (∀ x75 : Int32, x75 = v1 + (nI 1) → (K55 x75 σ1))))))
set_option maxHeartbeats 4000000 in
set_option maxRecDepth 100000 in
theorem kb_X9_keep_55 {Q : Int32 → Sg → Prop} (C : Cx p s m args meth c D cy ad b0 yX9_keep cX9_keep 2 (some .int)) (v1 : Int32) (K55 : Int32 → Sg → Prop) (K81 : Sg → Prop) (hK55 : ∀ (z1 : Int32) (σ : Sg), K55 z1 σ → gI p l e rm_X9_keep s m args below meth c D cy ad b0 Q 2 55 σ [some (.ref (ad 10)), some (.int z1)] []) (hK81 : ∀  (σ : Sg), K81 σ → gI p l e rm_X9_keep s m args below meth c D cy ad b0 Q 2 81 σ [some (.ref (ad 10)), none] []) (σ : Sg) (h : wb_X9_keep_55 v1 K55 K81 Q σ) : gI p l e rm_X9_keep s m args below meth c D cy ad b0 Q 2 55 σ [some (.ref (ad 10)), some (.int v1)] [] := by
  refine g_iload_n C dX9_keep_55 rfl ?_
  refine g_aload_n C dX9_keep_56 rfl ?_
  refine fget_10_39_X9_237 C rfl dX9_keep_57 ?_
  refine g_icmp_ge C 81 dX9_keep_60 (by decide) (fun c60 => ?_) (fun c60 => ?_)
  · have h := h.1 c60
    refine g_mask [true, false] rfl ?_
    exact hK81 σ h
  · have h := h.2 c60
    refine g_aload_n C dX9_keep_63 rfl ?_
    refine fget_10_54_X9_122 C rfl dX9_keep_64 ?_
    refine g_iload_n C dX9_keep_67 rfl ?_
    refine g_aload_n C dX9_keep_68 rfl ?_
    refine fget_10_41_X9_88 C rfl dX9_keep_69 ?_
    refine g_iload_n C dX9_keep_72 rfl ?_
    refine g_zald C (by decide) h.1 dX9_keep_73 ?_
    have h := h.2
    refine g_zast C (by decide) h.1 dX9_keep_74 (fun σ1 e_σ1 => ?_)
    have h := h.2 σ1 e_σ1
    obtain ⟨x75, e_x75⟩ : ∃ v : Int32, v = v1 + (nI 1) := ⟨_, rfl⟩
    have h := h x75 e_x75
    refine g_iinc C [some (.ref (ad 10)), some (.int x75)] dX9_keep_75 rfl e_x75.symm (by decide) rfl ?_
    refine g_goto C 55 dX9_keep_78 (by decide) ?_
    exact hK55 x75 σ1 h
def wl_X9_keep_55 (K81 : Sg → Prop) (Q : Int32 → Sg → Prop) : Nat → Int32 → Sg → Prop
  | 0, _, _ => False
  | n + 1, v1, σ => wb_X9_keep_55 v1 (wl_X9_keep_55 K81 Q n) K81 Q σ
set_option maxHeartbeats 4000000 in
set_option maxRecDepth 100000 in
theorem kl_X9_keep_55 {Q : Int32 → Sg → Prop} (C : Cx p s m args meth c D cy ad b0 yX9_keep cX9_keep 2 (some .int)) (K81 : Sg → Prop) (hK81 : ∀  (σ : Sg), K81 σ → gI p l e rm_X9_keep s m args below meth c D cy ad b0 Q 2 81 σ [some (.ref (ad 10)), none] []) : ∀ (n : Nat) (v1 : Int32) (σ : Sg), wl_X9_keep_55 K81 Q n v1 σ → gI p l e rm_X9_keep s m args below meth c D cy ad b0 Q 2 55 σ [some (.ref (ad 10)), some (.int v1)] [] := by
  intro n
  induction n with
  | zero => intro v1 σ h; exact False.elim h
  | succ n ih =>
    intro v1 σ h
    exact kb_X9_keep_55 C v1 (wl_X9_keep_55 K81 Q n) K81 (fun z1 σ h => ih z1 σ h) hK81 σ h
def wp_X9_keep_53 (Q : Int32 → Sg → Prop) (σ : Sg) : Prop :=
  ∃ n, wl_X9_keep_55 (fun σ9 => wp_X9_keep_81 Q σ9) Q n (nI 0) σ
set_option maxHeartbeats 4000000 in
set_option maxRecDepth 100000 in
theorem k_X9_keep_53 {Q : Int32 → Sg → Prop} (C : Cx p s m args meth c D cy ad b0 yX9_keep cX9_keep 2 (some .int)) (σ : Sg) (h : wp_X9_keep_53 Q σ) : gI p l e rm_X9_keep s m args below meth c D cy ad b0 Q 2 53 σ [some (.ref (ad 10)), none] [] := by
  refine g_iconst C dX9_keep_53 kc_0 ?_
  refine g_istore_n C [some (.ref (ad 10)), some (.int (nI 0))] dX9_keep_54 (by decide) rfl ?_
  obtain ⟨n, h⟩ := h
  exact kl_X9_keep_55 C _ (fun σ9 h => by exact k_X9_keep_81 C σ9 h) n (nI 0) σ h
def wb_X9_keep_25 (v1 : Int32) (K25 : Int32 → Sg → Prop) (K53 : Sg → Prop) (Q : Int32 → Sg → Prop) (σ : Sg) : Prop :=
  ((((nI 4) * (gF σ 10 39)) ≤ v1 → K53 σ) ∧ (¬ ((nI 4) * (gF σ 10 39)) ≤ v1 → vp_in v1 (aN 71) ∧ (vp_in v1 (aN 82) ∧ (∀ σ1 : Sg, σ1 = stA σ 82 (Int32.toNatClampNeg v1) (gA σ 71 (Int32.toNatClampNeg v1)) → (∀ x47 : Int32, x47 = v1 + (nI 1) → (K25 x47 σ1))))))
set_option maxHeartbeats 4000000 in
set_option maxRecDepth 100000 in
theorem kb_X9_keep_25 {Q : Int32 → Sg → Prop} (C : Cx p s m args meth c D cy ad b0 yX9_keep cX9_keep 2 (some .int)) (v1 : Int32) (K25 : Int32 → Sg → Prop) (K53 : Sg → Prop) (hK25 : ∀ (z1 : Int32) (σ : Sg), K25 z1 σ → gI p l e rm_X9_keep s m args below meth c D cy ad b0 Q 2 25 σ [some (.ref (ad 10)), some (.int z1)] []) (hK53 : ∀  (σ : Sg), K53 σ → gI p l e rm_X9_keep s m args below meth c D cy ad b0 Q 2 53 σ [some (.ref (ad 10)), none] []) (σ : Sg) (h : wb_X9_keep_25 v1 K25 K53 Q σ) : gI p l e rm_X9_keep s m args below meth c D cy ad b0 Q 2 25 σ [some (.ref (ad 10)), some (.int v1)] [] := by
  refine g_iload_n C dX9_keep_25 rfl ?_
  refine g_iconst C dX9_keep_26 kc_4 ?_
  refine g_aload_n C dX9_keep_27 rfl ?_
  refine fget_10_39_X9_237 C rfl dX9_keep_28 ?_
  refine g_imul C dX9_keep_31 ?_
  refine g_icmp_ge C 53 dX9_keep_32 (by decide) (fun c32 => ?_) (fun c32 => ?_)
  · have h := h.1 c32
    refine g_mask [true, false] rfl ?_
    exact hK53 σ h
  · have h := h.2 c32
    refine g_aload_n C dX9_keep_35 rfl ?_
    refine fget_10_53_X9_119 C rfl dX9_keep_36 ?_
    refine g_iload_n C dX9_keep_39 rfl ?_
    refine g_aload_n C dX9_keep_40 rfl ?_
    refine fget_10_40_X9_85 C rfl dX9_keep_41 ?_
    refine g_iload_n C dX9_keep_44 rfl ?_
    refine g_iald C (by decide) h.1 dX9_keep_45 ?_
    have h := h.2
    refine g_iast C (by decide) h.1 dX9_keep_46 (fun σ1 e_σ1 => ?_)
    have h := h.2 σ1 e_σ1
    obtain ⟨x47, e_x47⟩ : ∃ v : Int32, v = v1 + (nI 1) := ⟨_, rfl⟩
    have h := h x47 e_x47
    refine g_iinc C [some (.ref (ad 10)), some (.int x47)] dX9_keep_47 rfl e_x47.symm (by decide) rfl ?_
    refine g_goto C 25 dX9_keep_50 (by decide) ?_
    exact hK25 x47 σ1 h
def wl_X9_keep_25 (K53 : Sg → Prop) (Q : Int32 → Sg → Prop) : Nat → Int32 → Sg → Prop
  | 0, _, _ => False
  | n + 1, v1, σ => wb_X9_keep_25 v1 (wl_X9_keep_25 K53 Q n) K53 Q σ
set_option maxHeartbeats 4000000 in
set_option maxRecDepth 100000 in
theorem kl_X9_keep_25 {Q : Int32 → Sg → Prop} (C : Cx p s m args meth c D cy ad b0 yX9_keep cX9_keep 2 (some .int)) (K53 : Sg → Prop) (hK53 : ∀  (σ : Sg), K53 σ → gI p l e rm_X9_keep s m args below meth c D cy ad b0 Q 2 53 σ [some (.ref (ad 10)), none] []) : ∀ (n : Nat) (v1 : Int32) (σ : Sg), wl_X9_keep_25 K53 Q n v1 σ → gI p l e rm_X9_keep s m args below meth c D cy ad b0 Q 2 25 σ [some (.ref (ad 10)), some (.int v1)] [] := by
  intro n
  induction n with
  | zero => intro v1 σ h; exact False.elim h
  | succ n ih =>
    intro v1 σ h
    exact kb_X9_keep_25 C v1 (wl_X9_keep_25 K53 Q n) K53 (fun z1 σ h => ih z1 σ h) hK53 σ h
def wp_X9_keep (σ : Sg) (Q : Int32 → Sg → Prop) : Prop :=
  ((¬ (gF σ 10 38) = (nI 0) → ∀ σ1 : Sg, σ1 = stF σ 10 51 (nI 1) → (∀ σ2 : Sg, σ2 = stF σ1 10 52 (gF σ1 10 39) → (∃ n, wl_X9_keep_25 (fun σ9 => wp_X9_keep_53 Q σ9) Q n (nI 0) σ2))) ∧ ((gF σ 10 38) = (nI 0) → Q (-3 : Int32) σ))
set_option maxHeartbeats 4000000 in
set_option maxRecDepth 100000 in
theorem c_X9_keep (l : Launch) (D : va_G) (cy : Nat → ClassId) (ad : Nat → Nat) (b0 : Nat) (hA : AdOk ad b0) : Cti l D cy ad b0 yX9_keep cX9_keep 2 (some .int) rm_X9_keep [.ref (ad 10)] (fun σ Q => wp_X9_keep σ Q) := by
  intro σ Q h
  refine g_enter hA rfl (Nat.le_of_ble_eq_true rfl) [some (.ref (ad 10)), none] rfl ?_
  intro p e s m args below meth c C
  refine g_aload_n C dX9_keep_0 rfl ?_
  refine fget_10_38_X9_257 C rfl dX9_keep_1 ?_
  refine g_if_ne C 10 dX9_keep_4 (by decide) (fun c4 => ?_) (fun c4 => ?_)
  · have h := h.1 c4
    refine g_aload_n C dX9_keep_10 rfl ?_
    refine g_iconst C dX9_keep_11 kc_1 ?_
    refine fputZ_10_51_X9_311 C rfl bl_1 dX9_keep_12 (fun σ1 e_σ1 => ?_)
    have h := h σ1 e_σ1
    refine g_aload_n C dX9_keep_15 rfl ?_
    refine g_aload_n C dX9_keep_16 rfl ?_
    refine fget_10_39_X9_237 C rfl dX9_keep_17 ?_
    refine fput_10_52_X9_314 C rfl dX9_keep_20 (fun σ2 e_σ2 => ?_)
    have h := h σ2 e_σ2
    refine g_iconst C dX9_keep_23 kc_0 ?_
    refine g_istore_n C [some (.ref (ad 10)), some (.int (nI 0))] dX9_keep_24 (by decide) rfl ?_
    obtain ⟨n, h⟩ := h
    exact kl_X9_keep_25 C _ (fun σ9 h => by exact k_X9_keep_53 C σ9 h) n (nI 0) σ2 h
  · have h := h.2 c4
    refine g_bipush C dX9_keep_7 kb_m3 ?_
    exact g_iret C dX9_keep_9 h
def rm_X9_meetPair : Room := { frames := 0, cells := 0, slots := 0, locals := 0 }
def wp_X9_meetPair (a0 : Int32) (a1 : Int32) (σ : Sg) (Q : Sg → Prop) : Prop :=
  vp_in a0 (aN 86) ∧ (((¬ (gA σ 86 (Int32.toNatClampNeg a0)) = (nI 0) → Q σ) ∧ ((gA σ 86 (Int32.toNatClampNeg a0)) = (nI 0) → vp_in a0 (aN 86) ∧ (∀ σ1 : Sg, σ1 = stA σ 86 (Int32.toNatClampNeg a0) (vp_nar .boolean (nI 1)) → (vp_in (gF σ1 10 55) (aN 84) ∧ (∀ σ2 : Sg, σ2 = stA σ1 84 (Int32.toNatClampNeg (gF σ1 10 55)) a0 → (vp_in (gF σ2 10 55) (aN 85) ∧ (∀ σ3 : Sg, σ3 = stA σ2 85 (Int32.toNatClampNeg (gF σ2 10 55)) a1 → (∀ σ4 : Sg, σ4 = stF σ3 10 55 ((gF σ3 10 55) + (nI 1)) → (Q σ4))))))))))
set_option maxHeartbeats 4000000 in
set_option maxRecDepth 100000 in
theorem c_X9_meetPair (l : Launch) (D : va_G) (cy : Nat → ClassId) (ad : Nat → Nat) (b0 : Nat) (hA : AdOk ad b0) (a0 : Int32) (a1 : Int32) : Ctv l D cy ad b0 yX9_meetPair cX9_meetPair 3 none rm_X9_meetPair [.ref (ad 10), .int a0, .int a1] (fun σ Q => wp_X9_meetPair a0 a1 σ Q) := by
  intro σ Q h
  refine g_enter hA rfl (Nat.le_of_ble_eq_true rfl) [some (.ref (ad 10)), some (.int a0), some (.int a1)] rfl ?_
  intro p e s m args below meth c C
  refine g_aload_n C dX9_meetPair_0 rfl ?_
  refine fget_10_58_X9_131 C rfl dX9_meetPair_1 ?_
  refine g_iload_n C dX9_meetPair_4 rfl ?_
  refine g_zald C (by decide) h.1 dX9_meetPair_5 ?_
  have h := h.2
  refine g_if_ne C 46 dX9_meetPair_6 (by decide) (fun c6 => ?_) (fun c6 => ?_)
  · have h := h.1 c6
    exact g_vret C dX9_meetPair_46 h
  · have h := h.2 c6
    refine g_aload_n C dX9_meetPair_9 rfl ?_
    refine fget_10_58_X9_131 C rfl dX9_meetPair_10 ?_
    refine g_iload_n C dX9_meetPair_13 rfl ?_
    refine g_iconst C dX9_meetPair_14 kc_1 ?_
    refine g_zast C (by decide) h.1 dX9_meetPair_15 (fun σ1 e_σ1 => ?_)
    have h := h.2 σ1 e_σ1
    refine g_aload_n C dX9_meetPair_16 rfl ?_
    refine fget_10_56_X9_125 C rfl dX9_meetPair_17 ?_
    refine g_aload_n C dX9_meetPair_20 rfl ?_
    refine fget_10_55_X9_317 C rfl dX9_meetPair_21 ?_
    refine g_iload_n C dX9_meetPair_24 rfl ?_
    refine g_iast C (by decide) h.1 dX9_meetPair_25 (fun σ2 e_σ2 => ?_)
    have h := h.2 σ2 e_σ2
    refine g_aload_n C dX9_meetPair_26 rfl ?_
    refine fget_10_57_X9_128 C rfl dX9_meetPair_27 ?_
    refine g_aload_n C dX9_meetPair_30 rfl ?_
    refine fget_10_55_X9_317 C rfl dX9_meetPair_31 ?_
    refine g_iload_n C dX9_meetPair_34 rfl ?_
    refine g_iast C (by decide) h.1 dX9_meetPair_35 (fun σ3 e_σ3 => ?_)
    have h := h.2 σ3 e_σ3
    refine g_aload_n C dX9_meetPair_36 rfl ?_
    refine g_dup C dX9_meetPair_37 rfl ?_
    refine fget_10_55_X9_317 C rfl dX9_meetPair_38 ?_
    refine g_iconst C dX9_meetPair_41 kc_1 ?_
    refine g_iadd C dX9_meetPair_42 ?_
    refine fput_10_55_X9_317 C rfl dX9_meetPair_43 (fun σ4 e_σ4 => ?_)
    have h := h σ4 e_σ4
    exact g_vret C dX9_meetPair_46 h
def rm_X9_pairUp : Room := { frames := 1, cells := 0, slots := 0, locals := 22 }
def wp_X9_pairUp_136 (v1 : Int32) (K63 : Int32 → Sg → Prop) (Q : Sg → Prop) (σ : Sg) : Prop :=
  ∀ x136 : Int32, x136 = v1 + (nI 1) → (K63 x136 σ)
set_option maxHeartbeats 4000000 in
set_option maxRecDepth 100000 in
theorem k_X9_pairUp_136 {Q : Sg → Prop} (C : Cx p s m args meth c D cy ad b0 yX9_pairUp cX9_pairUp 3 none) (v1 : Int32) (K63 : Int32 → Sg → Prop) (hK63 : ∀ (z1 : Int32) (σ : Sg), K63 z1 σ → gV p l e rm_X9_pairUp s m args below meth c D cy ad b0 Q 3 63 σ [some (.ref (ad 10)), some (.int z1), none] []) (σ : Sg) (h : wp_X9_pairUp_136 v1 K63 Q σ) : gV p l e rm_X9_pairUp s m args below meth c D cy ad b0 Q 3 136 σ [some (.ref (ad 10)), some (.int v1), none] [] := by
  obtain ⟨x136, e_x136⟩ : ∃ v : Int32, v = v1 + (nI 1) := ⟨_, rfl⟩
  have h := h x136 e_x136
  refine g_iinc C [some (.ref (ad 10)), some (.int x136), none] dX9_pairUp_136 rfl e_x136.symm (by decide) rfl ?_
  refine g_goto C 63 dX9_pairUp_139 (by decide) ?_
  exact hK63 x136 σ h
def wb_X9_pairUp_73 (v1 : Int32) (v2 : Int32) (K73 : Int32 → Sg → Prop) (K136 : Sg → Prop) (Q : Sg → Prop) (σ : Sg) : Prop :=
  (((nI 4) ≤ v2 → K136 σ) ∧ (¬ (nI 4) ≤ v2 → vp_in v1 (aN 84) ∧ (vp_in (((nI 4) * ((gA σ 84 (Int32.toNatClampNeg v1)) / (nI 60))) + v2) (aN 71) ∧ (vp_in v1 (aN 84) ∧ (vp_in (((nI 4) * (iREM (gA σ 84 (Int32.toNatClampNeg v1)) (nI 60))) + v2) (aN 82) ∧ (vp_in v1 (aN 85) ∧ (wp_X9_meetPair (((nI 60) * (gA σ 71 (Int32.toNatClampNeg (((nI 4) * ((gA σ 84 (Int32.toNatClampNeg v1)) / (nI 60))) + v2)))) + (gA σ 82 (Int32.toNatClampNeg (((nI 4) * (iREM (gA σ 84 (Int32.toNatClampNeg v1)) (nI 60))) + v2)))) ((gA σ 85 (Int32.toNatClampNeg v1)) + (nI 1)) σ (fun σ1 => ∀ x130 : Int32, x130 = v2 + (nI 1) → (K73 x130 σ1)))))))))
set_option maxHeartbeats 4000000 in
set_option maxRecDepth 100000 in
theorem kb_X9_pairUp_73 {Q : Sg → Prop} (C : Cx p s m args meth c D cy ad b0 yX9_pairUp cX9_pairUp 3 none) (v1 : Int32) (v2 : Int32) (K73 : Int32 → Sg → Prop) (K136 : Sg → Prop) (hK73 : ∀ (z2 : Int32) (σ : Sg), K73 z2 σ → gV p l e rm_X9_pairUp s m args below meth c D cy ad b0 Q 3 73 σ [some (.ref (ad 10)), some (.int v1), some (.int z2)] []) (hK136 : ∀  (σ : Sg), K136 σ → gV p l e rm_X9_pairUp s m args below meth c D cy ad b0 Q 3 136 σ [some (.ref (ad 10)), some (.int v1), none] []) (σ : Sg) (h : wb_X9_pairUp_73 v1 v2 K73 K136 Q σ) : gV p l e rm_X9_pairUp s m args below meth c D cy ad b0 Q 3 73 σ [some (.ref (ad 10)), some (.int v1), some (.int v2)] [] := by
  refine g_iload_n C dX9_pairUp_73 rfl ?_
  refine g_iconst C dX9_pairUp_74 kc_4 ?_
  refine g_icmp_ge C 136 dX9_pairUp_75 (by decide) (fun c75 => ?_) (fun c75 => ?_)
  · have h := h.1 c75
    refine g_mask [true, true, false] rfl ?_
    exact hK136 σ h
  · have h := h.2 c75
    refine g_aload_n C dX9_pairUp_78 rfl ?_
    refine g_bipush C dX9_pairUp_79 kb_60 ?_
    refine g_aload_n C dX9_pairUp_81 rfl ?_
    refine fget_10_40_X9_85 C rfl dX9_pairUp_82 ?_
    refine g_iconst C dX9_pairUp_85 kc_4 ?_
    refine g_aload_n C dX9_pairUp_86 rfl ?_
    refine fget_10_56_X9_125 C rfl dX9_pairUp_87 ?_
    refine g_iload_n C dX9_pairUp_90 rfl ?_
    refine g_iald C (by decide) h.1 dX9_pairUp_91 ?_
    have h := h.2
    refine g_bipush C dX9_pairUp_92 kb_60 ?_
    refine g_idiv C dX9_pairUp_94 (by decide) ?_
    refine g_imul C dX9_pairUp_95 ?_
    refine g_iload_n C dX9_pairUp_96 rfl ?_
    refine g_iadd C dX9_pairUp_97 ?_
    refine g_iald C (by decide) h.1 dX9_pairUp_98 ?_
    have h := h.2
    refine g_imul C dX9_pairUp_99 ?_
    refine g_aload_n C dX9_pairUp_100 rfl ?_
    refine fget_10_53_X9_119 C rfl dX9_pairUp_101 ?_
    refine g_iconst C dX9_pairUp_104 kc_4 ?_
    refine g_aload_n C dX9_pairUp_105 rfl ?_
    refine fget_10_56_X9_125 C rfl dX9_pairUp_106 ?_
    refine g_iload_n C dX9_pairUp_109 rfl ?_
    refine g_iald C (by decide) h.1 dX9_pairUp_110 ?_
    have h := h.2
    refine g_bipush C dX9_pairUp_111 kb_60 ?_
    refine g_irem C dX9_pairUp_113 (by decide) ?_
    refine g_imul C dX9_pairUp_114 ?_
    refine g_iload_n C dX9_pairUp_115 rfl ?_
    refine g_iadd C dX9_pairUp_116 ?_
    refine g_iald C (by decide) h.1 dX9_pairUp_117 ?_
    have h := h.2
    refine g_iadd C dX9_pairUp_118 ?_
    refine g_aload_n C dX9_pairUp_119 rfl ?_
    refine fget_10_57_X9_128 C rfl dX9_pairUp_120 ?_
    refine g_iload_n C dX9_pairUp_123 rfl ?_
    refine g_iald C (by decide) h.1 dX9_pairUp_124 ?_
    have h := h.2
    refine g_iconst C dX9_pairUp_125 kc_1 ?_
    refine g_iadd C dX9_pairUp_126 ?_
    refine g_callVv C 10 [.int (((nI 60) * (gA σ 71 (Int32.toNatClampNeg (((nI 4) * ((gA σ 84 (Int32.toNatClampNeg v1)) / (nI 60))) + v2)))) + (gA σ 82 (Int32.toNatClampNeg (((nI 4) * (iREM (gA σ 84 (Int32.toNatClampNeg v1)) (nI 60))) + v2)))), .int ((gA σ 85 (Int32.toNatClampNeg v1)) + (nI 1))] (c_X9_meetPair l D cy ad b0 C.A (((nI 60) * (gA σ 71 (Int32.toNatClampNeg (((nI 4) * ((gA σ 84 (Int32.toNatClampNeg v1)) / (nI 60))) + v2)))) + (gA σ 82 (Int32.toNatClampNeg (((nI 4) * (iREM (gA σ 84 (Int32.toNatClampNeg v1)) (nI 60))) + v2)))) ((gA σ 85 (Int32.toNatClampNeg v1)) + (nI 1))) cal_X9_meetPair mw_936 (by decide) rfl rfl ⟨Nat.le_of_ble_eq_true rfl, Nat.le_of_ble_eq_true rfl⟩ ⟨rfl, rfl⟩ ⟨Nat.zero_le _, Nat.zero_le _⟩ (Nat.le_of_ble_eq_true rfl) rfl dX9_pairUp_127 h (fun σ1 h => ?_)
    obtain ⟨x130, e_x130⟩ : ∃ v : Int32, v = v2 + (nI 1) := ⟨_, rfl⟩
    have h := h x130 e_x130
    refine g_iinc C [some (.ref (ad 10)), some (.int v1), some (.int x130)] dX9_pairUp_130 rfl e_x130.symm (by decide) rfl ?_
    refine g_goto C 73 dX9_pairUp_133 (by decide) ?_
    exact hK73 x130 σ1 h
def wl_X9_pairUp_73 (v1 : Int32) (K136 : Sg → Prop) (Q : Sg → Prop) : Nat → Int32 → Sg → Prop
  | 0, _, _ => False
  | n + 1, v2, σ => wb_X9_pairUp_73 v1 v2 (wl_X9_pairUp_73 v1 K136 Q n) K136 Q σ
set_option maxHeartbeats 4000000 in
set_option maxRecDepth 100000 in
theorem kl_X9_pairUp_73 {Q : Sg → Prop} (C : Cx p s m args meth c D cy ad b0 yX9_pairUp cX9_pairUp 3 none) (v1 : Int32) (K136 : Sg → Prop) (hK136 : ∀  (σ : Sg), K136 σ → gV p l e rm_X9_pairUp s m args below meth c D cy ad b0 Q 3 136 σ [some (.ref (ad 10)), some (.int v1), none] []) : ∀ (n : Nat) (v2 : Int32) (σ : Sg), wl_X9_pairUp_73 v1 K136 Q n v2 σ → gV p l e rm_X9_pairUp s m args below meth c D cy ad b0 Q 3 73 σ [some (.ref (ad 10)), some (.int v1), some (.int v2)] [] := by
  intro n
  induction n with
  | zero => intro v2 σ h; exact False.elim h
  | succ n ih =>
    intro v2 σ h
    exact kb_X9_pairUp_73 C v1 v2 (wl_X9_pairUp_73 v1 K136 Q n) K136 (fun z2 σ h => ih z2 σ h) hK136 σ h
def wb_X9_pairUp_63 (v1 : Int32) (K63 : Int32 → Sg → Prop) (Q : Sg → Prop) (σ : Sg) : Prop :=
  (((gF σ 10 55) ≤ v1 → Q σ) ∧ (¬ (gF σ 10 55) ≤ v1 → ∃ n, wl_X9_pairUp_73 v1 (fun σ9 => wp_X9_pairUp_136 v1 K63 Q σ9) Q n (nI 0) σ))
set_option maxHeartbeats 4000000 in
set_option maxRecDepth 100000 in
theorem kb_X9_pairUp_63 {Q : Sg → Prop} (C : Cx p s m args meth c D cy ad b0 yX9_pairUp cX9_pairUp 3 none) (v1 : Int32) (K63 : Int32 → Sg → Prop) (hK63 : ∀ (z1 : Int32) (σ : Sg), K63 z1 σ → gV p l e rm_X9_pairUp s m args below meth c D cy ad b0 Q 3 63 σ [some (.ref (ad 10)), some (.int z1), none] []) (σ : Sg) (h : wb_X9_pairUp_63 v1 K63 Q σ) : gV p l e rm_X9_pairUp s m args below meth c D cy ad b0 Q 3 63 σ [some (.ref (ad 10)), some (.int v1), none] [] := by
  refine g_iload_n C dX9_pairUp_63 rfl ?_
  refine g_aload_n C dX9_pairUp_64 rfl ?_
  refine fget_10_55_X9_317 C rfl dX9_pairUp_65 ?_
  refine g_icmp_ge C 142 dX9_pairUp_68 (by decide) (fun c68 => ?_) (fun c68 => ?_)
  · have h := h.1 c68
    exact g_vret C dX9_pairUp_142 h
  · have h := h.2 c68
    refine g_iconst C dX9_pairUp_71 kc_0 ?_
    refine g_istore_n C [some (.ref (ad 10)), some (.int v1), some (.int (nI 0))] dX9_pairUp_72 (by decide) rfl ?_
    obtain ⟨n, h⟩ := h
    exact kl_X9_pairUp_73 C v1 _ (fun σ9 h => by exact k_X9_pairUp_136 C v1 K63 hK63 σ9 h) n (nI 0) σ h
def wl_X9_pairUp_63 (Q : Sg → Prop) : Nat → Int32 → Sg → Prop
  | 0, _, _ => False
  | n + 1, v1, σ => wb_X9_pairUp_63 v1 (wl_X9_pairUp_63 Q n) Q σ
set_option maxHeartbeats 4000000 in
set_option maxRecDepth 100000 in
theorem kl_X9_pairUp_63 {Q : Sg → Prop} (C : Cx p s m args meth c D cy ad b0 yX9_pairUp cX9_pairUp 3 none) : ∀ (n : Nat) (v1 : Int32) (σ : Sg), wl_X9_pairUp_63 Q n v1 σ → gV p l e rm_X9_pairUp s m args below meth c D cy ad b0 Q 3 63 σ [some (.ref (ad 10)), some (.int v1), none] [] := by
  intro n
  induction n with
  | zero => intro v1 σ h; exact False.elim h
  | succ n ih =>
    intro v1 σ h
    exact kb_X9_pairUp_63 C v1 (wl_X9_pairUp_63 Q n) (fun z1 σ h => ih z1 σ h) σ h
def wp_X9_pairUp_61 (Q : Sg → Prop) (σ : Sg) : Prop :=
  ∃ n, wl_X9_pairUp_63 Q n (nI 0) σ
set_option maxHeartbeats 4000000 in
set_option maxRecDepth 100000 in
theorem k_X9_pairUp_61 {Q : Sg → Prop} (C : Cx p s m args meth c D cy ad b0 yX9_pairUp cX9_pairUp 3 none) (σ : Sg) (h : wp_X9_pairUp_61 Q σ) : gV p l e rm_X9_pairUp s m args below meth c D cy ad b0 Q 3 61 σ [some (.ref (ad 10)), none, none] [] := by
  refine g_iconst C dX9_pairUp_61 kc_0 ?_
  refine g_istore_n C [some (.ref (ad 10)), some (.int (nI 0)), none] dX9_pairUp_62 (by decide) rfl ?_
  obtain ⟨n, h⟩ := h
  exact kl_X9_pairUp_63 C n (nI 0) σ h
def wb_X9_pairUp_29 (v1 : Int32) (K29 : Int32 → Sg → Prop) (K61 : Sg → Prop) (Q : Sg → Prop) (σ : Sg) : Prop :=
  (((nI 4) ≤ v1 → K61 σ) ∧ (¬ (nI 4) ≤ v1 → vp_in v1 (aN 71) ∧ (vp_in v1 (aN 82) ∧ (wp_X9_meetPair (((nI 60) * (gA σ 71 (Int32.toNatClampNeg v1))) + (gA σ 82 (Int32.toNatClampNeg v1))) (nI 1) σ (fun σ1 => ∀ x55 : Int32, x55 = v1 + (nI 1) → (K29 x55 σ1))))))
set_option maxHeartbeats 4000000 in
set_option maxRecDepth 100000 in
theorem kb_X9_pairUp_29 {Q : Sg → Prop} (C : Cx p s m args meth c D cy ad b0 yX9_pairUp cX9_pairUp 3 none) (v1 : Int32) (K29 : Int32 → Sg → Prop) (K61 : Sg → Prop) (hK29 : ∀ (z1 : Int32) (σ : Sg), K29 z1 σ → gV p l e rm_X9_pairUp s m args below meth c D cy ad b0 Q 3 29 σ [some (.ref (ad 10)), some (.int z1), none] []) (hK61 : ∀  (σ : Sg), K61 σ → gV p l e rm_X9_pairUp s m args below meth c D cy ad b0 Q 3 61 σ [some (.ref (ad 10)), none, none] []) (σ : Sg) (h : wb_X9_pairUp_29 v1 K29 K61 Q σ) : gV p l e rm_X9_pairUp s m args below meth c D cy ad b0 Q 3 29 σ [some (.ref (ad 10)), some (.int v1), none] [] := by
  refine g_iload_n C dX9_pairUp_29 rfl ?_
  refine g_iconst C dX9_pairUp_30 kc_4 ?_
  refine g_icmp_ge C 61 dX9_pairUp_31 (by decide) (fun c31 => ?_) (fun c31 => ?_)
  · have h := h.1 c31
    refine g_mask [true, false, false] rfl ?_
    exact hK61 σ h
  · have h := h.2 c31
    refine g_aload_n C dX9_pairUp_34 rfl ?_
    refine g_bipush C dX9_pairUp_35 kb_60 ?_
    refine g_aload_n C dX9_pairUp_37 rfl ?_
    refine fget_10_40_X9_85 C rfl dX9_pairUp_38 ?_
    refine g_iload_n C dX9_pairUp_41 rfl ?_
    refine g_iald C (by decide) h.1 dX9_pairUp_42 ?_
    have h := h.2
    refine g_imul C dX9_pairUp_43 ?_
    refine g_aload_n C dX9_pairUp_44 rfl ?_
    refine fget_10_53_X9_119 C rfl dX9_pairUp_45 ?_
    refine g_iload_n C dX9_pairUp_48 rfl ?_
    refine g_iald C (by decide) h.1 dX9_pairUp_49 ?_
    have h := h.2
    refine g_iadd C dX9_pairUp_50 ?_
    refine g_iconst C dX9_pairUp_51 kc_1 ?_
    refine g_callVv C 10 [.int (((nI 60) * (gA σ 71 (Int32.toNatClampNeg v1))) + (gA σ 82 (Int32.toNatClampNeg v1))), .int (nI 1)] (c_X9_meetPair l D cy ad b0 C.A (((nI 60) * (gA σ 71 (Int32.toNatClampNeg v1))) + (gA σ 82 (Int32.toNatClampNeg v1))) (nI 1)) cal_X9_meetPair mw_936 (by decide) rfl rfl ⟨Nat.le_of_ble_eq_true rfl, Nat.le_of_ble_eq_true rfl⟩ ⟨rfl, rfl⟩ ⟨Nat.zero_le _, Nat.zero_le _⟩ (Nat.le_of_ble_eq_true rfl) rfl dX9_pairUp_52 h (fun σ1 h => ?_)
    obtain ⟨x55, e_x55⟩ : ∃ v : Int32, v = v1 + (nI 1) := ⟨_, rfl⟩
    have h := h x55 e_x55
    refine g_iinc C [some (.ref (ad 10)), some (.int x55), none] dX9_pairUp_55 rfl e_x55.symm (by decide) rfl ?_
    refine g_goto C 29 dX9_pairUp_58 (by decide) ?_
    exact hK29 x55 σ1 h
def wl_X9_pairUp_29 (K61 : Sg → Prop) (Q : Sg → Prop) : Nat → Int32 → Sg → Prop
  | 0, _, _ => False
  | n + 1, v1, σ => wb_X9_pairUp_29 v1 (wl_X9_pairUp_29 K61 Q n) K61 Q σ
set_option maxHeartbeats 4000000 in
set_option maxRecDepth 100000 in
theorem kl_X9_pairUp_29 {Q : Sg → Prop} (C : Cx p s m args meth c D cy ad b0 yX9_pairUp cX9_pairUp 3 none) (K61 : Sg → Prop) (hK61 : ∀  (σ : Sg), K61 σ → gV p l e rm_X9_pairUp s m args below meth c D cy ad b0 Q 3 61 σ [some (.ref (ad 10)), none, none] []) : ∀ (n : Nat) (v1 : Int32) (σ : Sg), wl_X9_pairUp_29 K61 Q n v1 σ → gV p l e rm_X9_pairUp s m args below meth c D cy ad b0 Q 3 29 σ [some (.ref (ad 10)), some (.int v1), none] [] := by
  intro n
  induction n with
  | zero => intro v1 σ h; exact False.elim h
  | succ n ih =>
    intro v1 σ h
    exact kb_X9_pairUp_29 C v1 (wl_X9_pairUp_29 K61 Q n) K61 (fun z1 σ h => ih z1 σ h) hK61 σ h
def wp_X9_pairUp_27 (Q : Sg → Prop) (σ : Sg) : Prop :=
  ∃ n, wl_X9_pairUp_29 (fun σ9 => wp_X9_pairUp_61 Q σ9) Q n (nI 0) σ
set_option maxHeartbeats 4000000 in
set_option maxRecDepth 100000 in
theorem k_X9_pairUp_27 {Q : Sg → Prop} (C : Cx p s m args meth c D cy ad b0 yX9_pairUp cX9_pairUp 3 none) (σ : Sg) (h : wp_X9_pairUp_27 Q σ) : gV p l e rm_X9_pairUp s m args below meth c D cy ad b0 Q 3 27 σ [some (.ref (ad 10)), none, none] [] := by
  refine g_iconst C dX9_pairUp_27 kc_0 ?_
  refine g_istore_n C [some (.ref (ad 10)), some (.int (nI 0)), none] dX9_pairUp_28 (by decide) rfl ?_
  obtain ⟨n, h⟩ := h
  exact kl_X9_pairUp_29 C _ (fun σ9 h => by exact k_X9_pairUp_61 C σ9 h) n (nI 0) σ h
def wb_X9_pairUp_7 (v1 : Int32) (K7 : Int32 → Sg → Prop) (K27 : Sg → Prop) (Q : Sg → Prop) (σ : Sg) : Prop :=
  (((nI 3600) ≤ v1 → K27 σ) ∧ (¬ (nI 3600) ≤ v1 → vp_in v1 (aN 86) ∧ (∀ σ1 : Sg, σ1 = stA σ 86 (Int32.toNatClampNeg v1) (vp_nar .boolean (nI 0)) → (∀ x21 : Int32, x21 = v1 + (nI 1) → (K7 x21 σ1)))))
set_option maxHeartbeats 4000000 in
set_option maxRecDepth 100000 in
theorem kb_X9_pairUp_7 {Q : Sg → Prop} (C : Cx p s m args meth c D cy ad b0 yX9_pairUp cX9_pairUp 3 none) (v1 : Int32) (K7 : Int32 → Sg → Prop) (K27 : Sg → Prop) (hK7 : ∀ (z1 : Int32) (σ : Sg), K7 z1 σ → gV p l e rm_X9_pairUp s m args below meth c D cy ad b0 Q 3 7 σ [some (.ref (ad 10)), some (.int z1), none] []) (hK27 : ∀  (σ : Sg), K27 σ → gV p l e rm_X9_pairUp s m args below meth c D cy ad b0 Q 3 27 σ [some (.ref (ad 10)), none, none] []) (σ : Sg) (h : wb_X9_pairUp_7 v1 K7 K27 Q σ) : gV p l e rm_X9_pairUp s m args below meth c D cy ad b0 Q 3 7 σ [some (.ref (ad 10)), some (.int v1), none] [] := by
  refine g_iload_n C dX9_pairUp_7 rfl ?_
  refine g_sipush C dX9_pairUp_8 ks_3600 ?_
  refine g_icmp_ge C 27 dX9_pairUp_11 (by decide) (fun c11 => ?_) (fun c11 => ?_)
  · have h := h.1 c11
    refine g_mask [true, false, false] rfl ?_
    exact hK27 σ h
  · have h := h.2 c11
    refine g_aload_n C dX9_pairUp_14 rfl ?_
    refine fget_10_58_X9_131 C rfl dX9_pairUp_15 ?_
    refine g_iload_n C dX9_pairUp_18 rfl ?_
    refine g_iconst C dX9_pairUp_19 kc_0 ?_
    refine g_zast C (by decide) h.1 dX9_pairUp_20 (fun σ1 e_σ1 => ?_)
    have h := h.2 σ1 e_σ1
    obtain ⟨x21, e_x21⟩ : ∃ v : Int32, v = v1 + (nI 1) := ⟨_, rfl⟩
    have h := h x21 e_x21
    refine g_iinc C [some (.ref (ad 10)), some (.int x21), none] dX9_pairUp_21 rfl e_x21.symm (by decide) rfl ?_
    refine g_goto C 7 dX9_pairUp_24 (by decide) ?_
    exact hK7 x21 σ1 h
def wl_X9_pairUp_7 (K27 : Sg → Prop) (Q : Sg → Prop) : Nat → Int32 → Sg → Prop
  | 0, _, _ => False
  | n + 1, v1, σ => wb_X9_pairUp_7 v1 (wl_X9_pairUp_7 K27 Q n) K27 Q σ
set_option maxHeartbeats 4000000 in
set_option maxRecDepth 100000 in
theorem kl_X9_pairUp_7 {Q : Sg → Prop} (C : Cx p s m args meth c D cy ad b0 yX9_pairUp cX9_pairUp 3 none) (K27 : Sg → Prop) (hK27 : ∀  (σ : Sg), K27 σ → gV p l e rm_X9_pairUp s m args below meth c D cy ad b0 Q 3 27 σ [some (.ref (ad 10)), none, none] []) : ∀ (n : Nat) (v1 : Int32) (σ : Sg), wl_X9_pairUp_7 K27 Q n v1 σ → gV p l e rm_X9_pairUp s m args below meth c D cy ad b0 Q 3 7 σ [some (.ref (ad 10)), some (.int v1), none] [] := by
  intro n
  induction n with
  | zero => intro v1 σ h; exact False.elim h
  | succ n ih =>
    intro v1 σ h
    exact kb_X9_pairUp_7 C v1 (wl_X9_pairUp_7 K27 Q n) K27 (fun z1 σ h => ih z1 σ h) hK27 σ h
def wp_X9_pairUp (σ : Sg) (Q : Sg → Prop) : Prop :=
  ∀ σ1 : Sg, σ1 = stF σ 10 55 (nI 0) → (∃ n, wl_X9_pairUp_7 (fun σ9 => wp_X9_pairUp_27 Q σ9) Q n (nI 0) σ1)
set_option maxHeartbeats 4000000 in
set_option maxRecDepth 100000 in
theorem c_X9_pairUp (l : Launch) (D : va_G) (cy : Nat → ClassId) (ad : Nat → Nat) (b0 : Nat) (hA : AdOk ad b0) : Ctv l D cy ad b0 yX9_pairUp cX9_pairUp 3 none rm_X9_pairUp [.ref (ad 10)] (fun σ Q => wp_X9_pairUp σ Q) := by
  intro σ Q h
  refine g_enter hA rfl (Nat.le_of_ble_eq_true rfl) [some (.ref (ad 10)), none, none] rfl ?_
  intro p e s m args below meth c C
  refine g_aload_n C dX9_pairUp_0 rfl ?_
  refine g_iconst C dX9_pairUp_1 kc_0 ?_
  refine fput_10_55_X9_317 C rfl dX9_pairUp_2 (fun σ1 e_σ1 => ?_)
  have h := h σ1 e_σ1
  refine g_iconst C dX9_pairUp_5 kc_0 ?_
  refine g_istore_n C [some (.ref (ad 10)), some (.int (nI 0)), none] dX9_pairUp_6 (by decide) rfl ?_
  obtain ⟨n, h⟩ := h
  exact kl_X9_pairUp_7 C _ (fun σ9 h => by exact k_X9_pairUp_27 C σ9 h) n (nI 0) σ1 h
def rm_X9_against : Room := { frames := 2, cells := 0, slots := 0, locals := 44 }
def wp_X9_against_151 (v1 : Int32) (v2 : Int32) (v3 : Int32) (Q : Int32 → Sg → Prop) (σ : Sg) : Prop :=
  ((¬ v1 = (nI 0) → ((¬ v2 = (nI 0) → ((¬ v3 = (nI 0) → Q (nI 0) σ) ∧ (v3 = (nI 0) → Q (nI 4) σ))) ∧ (v2 = (nI 0) → Q (nI 3) σ))) ∧ (v1 = (nI 0) → Q (nI 2) σ))
set_option maxHeartbeats 4000000 in
set_option maxRecDepth 100000 in
theorem k_X9_against_151 {Q : Int32 → Sg → Prop} (C : Cx p s m args meth c D cy ad b0 yX9_against cX9_against 7 (some .int)) (v1 : Int32) (v2 : Int32) (v3 : Int32) (σ : Sg) (h : wp_X9_against_151 v1 v2 v3 Q σ) : gI p l e rm_X9_against s m args below meth c D cy ad b0 Q 7 151 σ [none, some (.int v1), some (.int v2), some (.int v3), none, none, none] [] := by
  refine g_iload_n C dX9_against_151 rfl ?_
  refine g_if_ne C 159 dX9_against_152 (by decide) (fun c152 => ?_) (fun c152 => ?_)
  · have h := h.1 c152
    refine g_iload_n C dX9_against_159 rfl ?_
    refine g_if_ne C 167 dX9_against_160 (by decide) (fun c160 => ?_) (fun c160 => ?_)
    · have h := h.1 c160
      refine g_iload_n C dX9_against_167 rfl ?_
      refine g_if_ne C 175 dX9_against_168 (by decide) (fun c168 => ?_) (fun c168 => ?_)
      · have h := h.1 c168
        refine g_iconst C dX9_against_175 kc_0 ?_
        exact g_iret C dX9_against_176 h
      · have h := h.2 c168
        refine g_iconst C dX9_against_171 kc_4 ?_
        refine g_goto C 176 dX9_against_172 (by decide) ?_
        exact g_iret C dX9_against_176 h
    · have h := h.2 c160
      refine g_iconst C dX9_against_163 kc_3 ?_
      refine g_goto C 176 dX9_against_164 (by decide) ?_
      exact g_iret C dX9_against_176 h
  · have h := h.2 c152
    refine g_iconst C dX9_against_155 kc_2 ?_
    refine g_goto C 176 dX9_against_156 (by decide) ?_
    exact g_iret C dX9_against_176 h
def wp_X9_against_139 (v1 : Int32) (v2 : Int32) (v3 : Int32) (Q : Int32 → Sg → Prop) (σ : Sg) : Prop :=
  ((¬ v2 = (nI 0) → wp_X9_against_151 v1 v2 v3 Q σ) ∧ (v2 = (nI 0) → ((¬ v3 = (nI 0) → wp_X9_against_151 v1 v2 v3 Q σ) ∧ (v3 = (nI 0) → Q (nI 1) σ))))
set_option maxHeartbeats 4000000 in
set_option maxRecDepth 100000 in
theorem k_X9_against_139 {Q : Int32 → Sg → Prop} (C : Cx p s m args meth c D cy ad b0 yX9_against cX9_against 7 (some .int)) (v1 : Int32) (v2 : Int32) (v3 : Int32) (σ : Sg) (h : wp_X9_against_139 v1 v2 v3 Q σ) : gI p l e rm_X9_against s m args below meth c D cy ad b0 Q 7 139 σ [none, some (.int v1), some (.int v2), some (.int v3), none, none, none] [] := by
  refine g_iload_n C dX9_against_139 rfl ?_
  refine g_if_ne C 151 dX9_against_140 (by decide) (fun c140 => ?_) (fun c140 => ?_)
  · have h := h.1 c140
    exact k_X9_against_151 C v1 v2 v3 σ h
  · have h := h.2 c140
    refine g_iload_n C dX9_against_143 rfl ?_
    refine g_if_ne C 151 dX9_against_144 (by decide) (fun c144 => ?_) (fun c144 => ?_)
    · have h := h.1 c144
      exact k_X9_against_151 C v1 v2 v3 σ h
    · have h := h.2 c144
      refine g_iconst C dX9_against_147 kc_1 ?_
      refine g_goto C 176 dX9_against_148 (by decide) ?_
      exact g_iret C dX9_against_176 h
def wp_X9_against_132 (v1 : Int32) (v2 : Int32) (v4 : Int32) (s0 : Int32) (K30 : Int32 → Int32 → Int32 → Int32 → Sg → Prop) (Q : Int32 → Sg → Prop) (σ : Sg) : Prop :=
  ∀ x133 : Int32, x133 = v4 + (nI 1) → (K30 v1 v2 s0 x133 σ)
set_option maxHeartbeats 4000000 in
set_option maxRecDepth 100000 in
theorem k_X9_against_132 {Q : Int32 → Sg → Prop} (C : Cx p s m args meth c D cy ad b0 yX9_against cX9_against 7 (some .int)) (v1 : Int32) (v2 : Int32) (v4 : Int32) (s0 : Int32) (K30 : Int32 → Int32 → Int32 → Int32 → Sg → Prop) (hK30 : ∀ (z1 : Int32) (z2 : Int32) (z3 : Int32) (z4 : Int32) (σ : Sg), K30 z1 z2 z3 z4 σ → gI p l e rm_X9_against s m args below meth c D cy ad b0 Q 7 30 σ [some (.ref (ad 10)), some (.int z1), some (.int z2), some (.int z3), some (.int z4), none, none] []) (σ : Sg) (h : wp_X9_against_132 v1 v2 v4 s0 K30 Q σ) : gI p l e rm_X9_against s m args below meth c D cy ad b0 Q 7 132 σ [some (.ref (ad 10)), some (.int v1), some (.int v2), none, some (.int v4), none, none] [.int s0] := by
  refine g_istore_n C [some (.ref (ad 10)), some (.int v1), some (.int v2), some (.int s0), some (.int v4), none, none] dX9_against_132 (by decide) rfl ?_
  obtain ⟨x133, e_x133⟩ : ∃ v : Int32, v = v4 + (nI 1) := ⟨_, rfl⟩
  have h := h x133 e_x133
  refine g_iinc C [some (.ref (ad 10)), some (.int v1), some (.int v2), some (.int s0), some (.int x133), none, none] dX9_against_133 rfl e_x133.symm (by decide) rfl ?_
  refine g_goto C 30 dX9_against_136 (by decide) ?_
  exact hK30 v1 v2 s0 x133 σ h
def wp_X9_against_131 (v1 : Int32) (v2 : Int32) (v4 : Int32) (K30 : Int32 → Int32 → Int32 → Int32 → Sg → Prop) (Q : Int32 → Sg → Prop) (σ : Sg) : Prop :=
  wp_X9_against_132 v1 v2 v4 (nI 0) K30 Q σ
set_option maxHeartbeats 4000000 in
set_option maxRecDepth 100000 in
theorem k_X9_against_131 {Q : Int32 → Sg → Prop} (C : Cx p s m args meth c D cy ad b0 yX9_against cX9_against 7 (some .int)) (v1 : Int32) (v2 : Int32) (v4 : Int32) (K30 : Int32 → Int32 → Int32 → Int32 → Sg → Prop) (hK30 : ∀ (z1 : Int32) (z2 : Int32) (z3 : Int32) (z4 : Int32) (σ : Sg), K30 z1 z2 z3 z4 σ → gI p l e rm_X9_against s m args below meth c D cy ad b0 Q 7 30 σ [some (.ref (ad 10)), some (.int z1), some (.int z2), some (.int z3), some (.int z4), none, none] []) (σ : Sg) (h : wp_X9_against_131 v1 v2 v4 K30 Q σ) : gI p l e rm_X9_against s m args below meth c D cy ad b0 Q 7 131 σ [some (.ref (ad 10)), some (.int v1), some (.int v2), none, some (.int v4), none, none] [] := by
  refine g_iconst C dX9_against_131 kc_0 ?_
  exact k_X9_against_132 C v1 v2 v4 (nI 0) K30 hK30 σ h
def wp_X9_against_127 (v1 : Int32) (v2 : Int32) (v4 : Int32) (K30 : Int32 → Int32 → Int32 → Int32 → Sg → Prop) (Q : Int32 → Sg → Prop) (σ : Sg) : Prop :=
  wp_X9_against_132 v1 v2 v4 (nI 1) K30 Q σ
set_option maxHeartbeats 4000000 in
set_option maxRecDepth 100000 in
theorem k_X9_against_127 {Q : Int32 → Sg → Prop} (C : Cx p s m args meth c D cy ad b0 yX9_against cX9_against 7 (some .int)) (v1 : Int32) (v2 : Int32) (v4 : Int32) (K30 : Int32 → Int32 → Int32 → Int32 → Sg → Prop) (hK30 : ∀ (z1 : Int32) (z2 : Int32) (z3 : Int32) (z4 : Int32) (σ : Sg), K30 z1 z2 z3 z4 σ → gI p l e rm_X9_against s m args below meth c D cy ad b0 Q 7 30 σ [some (.ref (ad 10)), some (.int z1), some (.int z2), some (.int z3), some (.int z4), none, none] []) (σ : Sg) (h : wp_X9_against_127 v1 v2 v4 K30 Q σ) : gI p l e rm_X9_against s m args below meth c D cy ad b0 Q 7 127 σ [some (.ref (ad 10)), some (.int v1), some (.int v2), none, some (.int v4), none, none] [] := by
  refine g_iconst C dX9_against_127 kc_1 ?_
  refine g_goto C 132 dX9_against_128 (by decide) ?_
  exact k_X9_against_132 C v1 v2 v4 (nI 1) K30 hK30 σ h
def wp_X9_against_112 (v1 : Int32) (v3 : Int32) (v4 : Int32) (v5 : Int32) (v6 : Int32) (s0 : Int32) (K30 : Int32 → Int32 → Int32 → Int32 → Sg → Prop) (Q : Int32 → Sg → Prop) (σ : Sg) : Prop :=
  ((¬ v3 = (nI 0) → wp_X9_against_127 v1 s0 v4 K30 Q σ) ∧ (v3 = (nI 0) → ((¬ v5 = (nI 0) → wp_X9_against_131 v1 s0 v4 K30 Q σ) ∧ (v5 = (nI 0) → ((v6 = (nI 0) → wp_X9_against_131 v1 s0 v4 K30 Q σ) ∧ (¬ v6 = (nI 0) → wp_X9_against_127 v1 s0 v4 K30 Q σ))))))
set_option maxHeartbeats 4000000 in
set_option maxRecDepth 100000 in
theorem k_X9_against_112 {Q : Int32 → Sg → Prop} (C : Cx p s m args meth c D cy ad b0 yX9_against cX9_against 7 (some .int)) (v1 : Int32) (v3 : Int32) (v4 : Int32) (v5 : Int32) (v6 : Int32) (s0 : Int32) (K30 : Int32 → Int32 → Int32 → Int32 → Sg → Prop) (hK30 : ∀ (z1 : Int32) (z2 : Int32) (z3 : Int32) (z4 : Int32) (σ : Sg), K30 z1 z2 z3 z4 σ → gI p l e rm_X9_against s m args below meth c D cy ad b0 Q 7 30 σ [some (.ref (ad 10)), some (.int z1), some (.int z2), some (.int z3), some (.int z4), none, none] []) (σ : Sg) (h : wp_X9_against_112 v1 v3 v4 v5 v6 s0 K30 Q σ) : gI p l e rm_X9_against s m args below meth c D cy ad b0 Q 7 112 σ [some (.ref (ad 10)), some (.int v1), none, some (.int v3), some (.int v4), some (.int v5), some (.int v6)] [.int s0] := by
  refine g_istore_n C [some (.ref (ad 10)), some (.int v1), some (.int s0), some (.int v3), some (.int v4), some (.int v5), some (.int v6)] dX9_against_112 (by decide) rfl ?_
  refine g_iload_n C dX9_against_113 rfl ?_
  refine g_if_ne C 127 dX9_against_114 (by decide) (fun c114 => ?_) (fun c114 => ?_)
  · have h := h.1 c114
    refine g_mask [true, true, true, false, true, false, false] rfl ?_
    exact k_X9_against_127 C v1 s0 v4 K30 hK30 σ h
  · have h := h.2 c114
    refine g_iload C dX9_against_117 rfl ?_
    refine g_if_ne C 131 dX9_against_119 (by decide) (fun c119 => ?_) (fun c119 => ?_)
    · have h := h.1 c119
      refine g_mask [true, true, true, false, true, false, false] rfl ?_
      exact k_X9_against_131 C v1 s0 v4 K30 hK30 σ h
    · have h := h.2 c119
      refine g_iload C dX9_against_122 rfl ?_
      refine g_if_eq C 131 dX9_against_124 (by decide) (fun c124 => ?_) (fun c124 => ?_)
      · have h := h.1 c124
        refine g_mask [true, true, true, false, true, false, false] rfl ?_
        exact k_X9_against_131 C v1 s0 v4 K30 hK30 σ h
      · have h := h.2 c124
        refine g_mask [true, true, true, false, true, false, false] rfl ?_
        exact k_X9_against_127 C v1 s0 v4 K30 hK30 σ h
def wp_X9_against_111 (v1 : Int32) (v3 : Int32) (v4 : Int32) (v5 : Int32) (v6 : Int32) (K30 : Int32 → Int32 → Int32 → Int32 → Sg → Prop) (Q : Int32 → Sg → Prop) (σ : Sg) : Prop :=
  wp_X9_against_112 v1 v3 v4 v5 v6 (nI 0) K30 Q σ
set_option maxHeartbeats 4000000 in
set_option maxRecDepth 100000 in
theorem k_X9_against_111 {Q : Int32 → Sg → Prop} (C : Cx p s m args meth c D cy ad b0 yX9_against cX9_against 7 (some .int)) (v1 : Int32) (v3 : Int32) (v4 : Int32) (v5 : Int32) (v6 : Int32) (K30 : Int32 → Int32 → Int32 → Int32 → Sg → Prop) (hK30 : ∀ (z1 : Int32) (z2 : Int32) (z3 : Int32) (z4 : Int32) (σ : Sg), K30 z1 z2 z3 z4 σ → gI p l e rm_X9_against s m args below meth c D cy ad b0 Q 7 30 σ [some (.ref (ad 10)), some (.int z1), some (.int z2), some (.int z3), some (.int z4), none, none] []) (σ : Sg) (h : wp_X9_against_111 v1 v3 v4 v5 v6 K30 Q σ) : gI p l e rm_X9_against s m args below meth c D cy ad b0 Q 7 111 σ [some (.ref (ad 10)), some (.int v1), none, some (.int v3), some (.int v4), some (.int v5), some (.int v6)] [] := by
  refine g_iconst C dX9_against_111 kc_0 ?_
  exact k_X9_against_112 C v1 v3 v4 v5 v6 (nI 0) K30 hK30 σ h
def wp_X9_against_107 (v1 : Int32) (v3 : Int32) (v4 : Int32) (v5 : Int32) (v6 : Int32) (K30 : Int32 → Int32 → Int32 → Int32 → Sg → Prop) (Q : Int32 → Sg → Prop) (σ : Sg) : Prop :=
  wp_X9_against_112 v1 v3 v4 v5 v6 (nI 1) K30 Q σ
set_option maxHeartbeats 4000000 in
set_option maxRecDepth 100000 in
theorem k_X9_against_107 {Q : Int32 → Sg → Prop} (C : Cx p s m args meth c D cy ad b0 yX9_against cX9_against 7 (some .int)) (v1 : Int32) (v3 : Int32) (v4 : Int32) (v5 : Int32) (v6 : Int32) (K30 : Int32 → Int32 → Int32 → Int32 → Sg → Prop) (hK30 : ∀ (z1 : Int32) (z2 : Int32) (z3 : Int32) (z4 : Int32) (σ : Sg), K30 z1 z2 z3 z4 σ → gI p l e rm_X9_against s m args below meth c D cy ad b0 Q 7 30 σ [some (.ref (ad 10)), some (.int z1), some (.int z2), some (.int z3), some (.int z4), none, none] []) (σ : Sg) (h : wp_X9_against_107 v1 v3 v4 v5 v6 K30 Q σ) : gI p l e rm_X9_against s m args below meth c D cy ad b0 Q 7 107 σ [some (.ref (ad 10)), some (.int v1), none, some (.int v3), some (.int v4), some (.int v5), some (.int v6)] [] := by
  refine g_iconst C dX9_against_107 kc_1 ?_
  refine g_goto C 112 dX9_against_108 (by decide) ?_
  exact k_X9_against_112 C v1 v3 v4 v5 v6 (nI 1) K30 hK30 σ h
def wp_X9_against_92 (v2 : Int32) (v3 : Int32) (v4 : Int32) (v5 : Int32) (v6 : Int32) (s0 : Int32) (K30 : Int32 → Int32 → Int32 → Int32 → Sg → Prop) (Q : Int32 → Sg → Prop) (σ : Sg) : Prop :=
  ((¬ v2 = (nI 0) → wp_X9_against_107 s0 v3 v4 v5 v6 K30 Q σ) ∧ (v2 = (nI 0) → ((v5 = (nI 0) → wp_X9_against_111 s0 v3 v4 v5 v6 K30 Q σ) ∧ (¬ v5 = (nI 0) → ((¬ v6 = (nI 0) → wp_X9_against_111 s0 v3 v4 v5 v6 K30 Q σ) ∧ (v6 = (nI 0) → wp_X9_against_107 s0 v3 v4 v5 v6 K30 Q σ))))))
set_option maxHeartbeats 4000000 in
set_option maxRecDepth 100000 in
theorem k_X9_against_92 {Q : Int32 → Sg → Prop} (C : Cx p s m args meth c D cy ad b0 yX9_against cX9_against 7 (some .int)) (v2 : Int32) (v3 : Int32) (v4 : Int32) (v5 : Int32) (v6 : Int32) (s0 : Int32) (K30 : Int32 → Int32 → Int32 → Int32 → Sg → Prop) (hK30 : ∀ (z1 : Int32) (z2 : Int32) (z3 : Int32) (z4 : Int32) (σ : Sg), K30 z1 z2 z3 z4 σ → gI p l e rm_X9_against s m args below meth c D cy ad b0 Q 7 30 σ [some (.ref (ad 10)), some (.int z1), some (.int z2), some (.int z3), some (.int z4), none, none] []) (σ : Sg) (h : wp_X9_against_92 v2 v3 v4 v5 v6 s0 K30 Q σ) : gI p l e rm_X9_against s m args below meth c D cy ad b0 Q 7 92 σ [some (.ref (ad 10)), none, some (.int v2), some (.int v3), some (.int v4), some (.int v5), some (.int v6)] [.int s0] := by
  refine g_istore_n C [some (.ref (ad 10)), some (.int s0), some (.int v2), some (.int v3), some (.int v4), some (.int v5), some (.int v6)] dX9_against_92 (by decide) rfl ?_
  refine g_iload_n C dX9_against_93 rfl ?_
  refine g_if_ne C 107 dX9_against_94 (by decide) (fun c94 => ?_) (fun c94 => ?_)
  · have h := h.1 c94
    refine g_mask [true, true, false, true, true, true, true] rfl ?_
    exact k_X9_against_107 C s0 v3 v4 v5 v6 K30 hK30 σ h
  · have h := h.2 c94
    refine g_iload C dX9_against_97 rfl ?_
    refine g_if_eq C 111 dX9_against_99 (by decide) (fun c99 => ?_) (fun c99 => ?_)
    · have h := h.1 c99
      refine g_mask [true, true, false, true, true, true, true] rfl ?_
      exact k_X9_against_111 C s0 v3 v4 v5 v6 K30 hK30 σ h
    · have h := h.2 c99
      refine g_iload C dX9_against_102 rfl ?_
      refine g_if_ne C 111 dX9_against_104 (by decide) (fun c104 => ?_) (fun c104 => ?_)
      · have h := h.1 c104
        refine g_mask [true, true, false, true, true, true, true] rfl ?_
        exact k_X9_against_111 C s0 v3 v4 v5 v6 K30 hK30 σ h
      · have h := h.2 c104
        refine g_mask [true, true, false, true, true, true, true] rfl ?_
        exact k_X9_against_107 C s0 v3 v4 v5 v6 K30 hK30 σ h
def wp_X9_against_91 (v2 : Int32) (v3 : Int32) (v4 : Int32) (v5 : Int32) (v6 : Int32) (K30 : Int32 → Int32 → Int32 → Int32 → Sg → Prop) (Q : Int32 → Sg → Prop) (σ : Sg) : Prop :=
  wp_X9_against_92 v2 v3 v4 v5 v6 (nI 0) K30 Q σ
set_option maxHeartbeats 4000000 in
set_option maxRecDepth 100000 in
theorem k_X9_against_91 {Q : Int32 → Sg → Prop} (C : Cx p s m args meth c D cy ad b0 yX9_against cX9_against 7 (some .int)) (v2 : Int32) (v3 : Int32) (v4 : Int32) (v5 : Int32) (v6 : Int32) (K30 : Int32 → Int32 → Int32 → Int32 → Sg → Prop) (hK30 : ∀ (z1 : Int32) (z2 : Int32) (z3 : Int32) (z4 : Int32) (σ : Sg), K30 z1 z2 z3 z4 σ → gI p l e rm_X9_against s m args below meth c D cy ad b0 Q 7 30 σ [some (.ref (ad 10)), some (.int z1), some (.int z2), some (.int z3), some (.int z4), none, none] []) (σ : Sg) (h : wp_X9_against_91 v2 v3 v4 v5 v6 K30 Q σ) : gI p l e rm_X9_against s m args below meth c D cy ad b0 Q 7 91 σ [some (.ref (ad 10)), none, some (.int v2), some (.int v3), some (.int v4), some (.int v5), some (.int v6)] [] := by
  refine g_iconst C dX9_against_91 kc_0 ?_
  exact k_X9_against_92 C v2 v3 v4 v5 v6 (nI 0) K30 hK30 σ h
def wp_X9_against_87 (v2 : Int32) (v3 : Int32) (v4 : Int32) (v5 : Int32) (v6 : Int32) (K30 : Int32 → Int32 → Int32 → Int32 → Sg → Prop) (Q : Int32 → Sg → Prop) (σ : Sg) : Prop :=
  wp_X9_against_92 v2 v3 v4 v5 v6 (nI 1) K30 Q σ
set_option maxHeartbeats 4000000 in
set_option maxRecDepth 100000 in
theorem k_X9_against_87 {Q : Int32 → Sg → Prop} (C : Cx p s m args meth c D cy ad b0 yX9_against cX9_against 7 (some .int)) (v2 : Int32) (v3 : Int32) (v4 : Int32) (v5 : Int32) (v6 : Int32) (K30 : Int32 → Int32 → Int32 → Int32 → Sg → Prop) (hK30 : ∀ (z1 : Int32) (z2 : Int32) (z3 : Int32) (z4 : Int32) (σ : Sg), K30 z1 z2 z3 z4 σ → gI p l e rm_X9_against s m args below meth c D cy ad b0 Q 7 30 σ [some (.ref (ad 10)), some (.int z1), some (.int z2), some (.int z3), some (.int z4), none, none] []) (σ : Sg) (h : wp_X9_against_87 v2 v3 v4 v5 v6 K30 Q σ) : gI p l e rm_X9_against s m args below meth c D cy ad b0 Q 7 87 σ [some (.ref (ad 10)), none, some (.int v2), some (.int v3), some (.int v4), some (.int v5), some (.int v6)] [] := by
  refine g_iconst C dX9_against_87 kc_1 ?_
  refine g_goto C 92 dX9_against_88 (by decide) ?_
  exact k_X9_against_92 C v2 v3 v4 v5 v6 (nI 1) K30 hK30 σ h
def wb_X9_against_30 (v1 : Int32) (v2 : Int32) (v3 : Int32) (v4 : Int32) (K30 : Int32 → Int32 → Int32 → Int32 → Sg → Prop) (K139 : Int32 → Int32 → Int32 → Sg → Prop) (Q : Int32 → Sg → Prop) (σ : Sg) : Prop :=
  (((gF σ 10 55) ≤ v4 → K139 v1 v2 v3 σ) ∧ (¬ (gF σ 10 55) ≤ v4 → vp_in v4 (aN 84) ∧ (vp_in ((gA σ 84 (Int32.toNatClampNeg v4)) / (nI 60)) (aN 72) ∧ (∀ x54 : Int32, x54 = (gA σ 72 (Int32.toNatClampNeg ((gA σ 84 (Int32.toNatClampNeg v4)) / (nI 60)))) → (vp_in v4 (aN 84) ∧ (vp_in (iREM (gA σ 84 (Int32.toNatClampNeg v4)) (nI 60)) (aN 83) ∧ (∀ x71 : Int32, x71 = (gA σ 83 (Int32.toNatClampNeg (iREM (gA σ 84 (Int32.toNatClampNeg v4)) (nI 60)))) → (((¬ v1 = (nI 0) → wp_X9_against_87 v2 v3 v4 x54 x71 K30 Q σ) ∧ (v1 = (nI 0) → ((x54 = (nI 0) → wp_X9_against_91 v2 v3 v4 x54 x71 K30 Q σ) ∧ (¬ x54 = (nI 0) → ((x71 = (nI 0) → wp_X9_against_91 v2 v3 v4 x54 x71 K30 Q σ) ∧ (¬ x71 = (nI 0) → wp_X9_against_87 v2 v3 v4 x54 x71 K30 Q σ))))))))))))))
set_option maxHeartbeats 4000000 in
set_option maxRecDepth 100000 in
theorem kb_X9_against_30 {Q : Int32 → Sg → Prop} (C : Cx p s m args meth c D cy ad b0 yX9_against cX9_against 7 (some .int)) (v1 : Int32) (v2 : Int32) (v3 : Int32) (v4 : Int32) (K30 : Int32 → Int32 → Int32 → Int32 → Sg → Prop) (K139 : Int32 → Int32 → Int32 → Sg → Prop) (hK30 : ∀ (z1 : Int32) (z2 : Int32) (z3 : Int32) (z4 : Int32) (σ : Sg), K30 z1 z2 z3 z4 σ → gI p l e rm_X9_against s m args below meth c D cy ad b0 Q 7 30 σ [some (.ref (ad 10)), some (.int z1), some (.int z2), some (.int z3), some (.int z4), none, none] []) (hK139 : ∀ (z1 : Int32) (z2 : Int32) (z3 : Int32) (σ : Sg), K139 z1 z2 z3 σ → gI p l e rm_X9_against s m args below meth c D cy ad b0 Q 7 139 σ [none, some (.int z1), some (.int z2), some (.int z3), none, none, none] []) (σ : Sg) (h : wb_X9_against_30 v1 v2 v3 v4 K30 K139 Q σ) : gI p l e rm_X9_against s m args below meth c D cy ad b0 Q 7 30 σ [some (.ref (ad 10)), some (.int v1), some (.int v2), some (.int v3), some (.int v4), none, none] [] := by
  refine g_iload C dX9_against_30 rfl ?_
  refine g_aload_n C dX9_against_32 rfl ?_
  refine fget_10_55_X9_317 C rfl dX9_against_33 ?_
  refine g_icmp_ge C 139 dX9_against_36 (by decide) (fun c36 => ?_) (fun c36 => ?_)
  · have h := h.1 c36
    refine g_mask [false, true, true, true, false, false, false] rfl ?_
    exact hK139 v1 v2 v3 σ h
  · have h := h.2 c36
    refine g_aload_n C dX9_against_39 rfl ?_
    refine fget_10_41_X9_88 C rfl dX9_against_40 ?_
    refine g_aload_n C dX9_against_43 rfl ?_
    refine fget_10_56_X9_125 C rfl dX9_against_44 ?_
    refine g_iload C dX9_against_47 rfl ?_
    refine g_iald C (by decide) h.1 dX9_against_49 ?_
    have h := h.2
    refine g_bipush C dX9_against_50 kb_60 ?_
    refine g_idiv C dX9_against_52 (by decide) ?_
    refine g_zald C (by decide) h.1 dX9_against_53 ?_
    have h := h.2
    refine g_topi (fun x54 e_x54 => ?_)
    have h := h x54 e_x54
    refine g_istore C [some (.ref (ad 10)), some (.int v1), some (.int v2), some (.int v3), some (.int v4), some (.int x54), none] dX9_against_54 (by decide) rfl ?_
    refine g_aload_n C dX9_against_56 rfl ?_
    refine fget_10_54_X9_122 C rfl dX9_against_57 ?_
    refine g_aload_n C dX9_against_60 rfl ?_
    refine fget_10_56_X9_125 C rfl dX9_against_61 ?_
    refine g_iload C dX9_against_64 rfl ?_
    refine g_iald C (by decide) h.1 dX9_against_66 ?_
    have h := h.2
    refine g_bipush C dX9_against_67 kb_60 ?_
    refine g_irem C dX9_against_69 (by decide) ?_
    refine g_zald C (by decide) h.1 dX9_against_70 ?_
    have h := h.2
    refine g_topi (fun x71 e_x71 => ?_)
    have h := h x71 e_x71
    refine g_istore C [some (.ref (ad 10)), some (.int v1), some (.int v2), some (.int v3), some (.int v4), some (.int x54), some (.int x71)] dX9_against_71 (by decide) rfl ?_
    refine g_iload_n C dX9_against_73 rfl ?_
    refine g_if_ne C 87 dX9_against_74 (by decide) (fun c74 => ?_) (fun c74 => ?_)
    · have h := h.1 c74
      refine g_mask [true, false, true, true, true, true, true] rfl ?_
      exact k_X9_against_87 C v2 v3 v4 x54 x71 K30 hK30 σ h
    · have h := h.2 c74
      refine g_iload C dX9_against_77 rfl ?_
      refine g_if_eq C 91 dX9_against_79 (by decide) (fun c79 => ?_) (fun c79 => ?_)
      · have h := h.1 c79
        refine g_mask [true, false, true, true, true, true, true] rfl ?_
        exact k_X9_against_91 C v2 v3 v4 x54 x71 K30 hK30 σ h
      · have h := h.2 c79
        refine g_iload C dX9_against_82 rfl ?_
        refine g_if_eq C 91 dX9_against_84 (by decide) (fun c84 => ?_) (fun c84 => ?_)
        · have h := h.1 c84
          refine g_mask [true, false, true, true, true, true, true] rfl ?_
          exact k_X9_against_91 C v2 v3 v4 x54 x71 K30 hK30 σ h
        · have h := h.2 c84
          refine g_mask [true, false, true, true, true, true, true] rfl ?_
          exact k_X9_against_87 C v2 v3 v4 x54 x71 K30 hK30 σ h
def wl_X9_against_30 (K139 : Int32 → Int32 → Int32 → Sg → Prop) (Q : Int32 → Sg → Prop) : Nat → Int32 → Int32 → Int32 → Int32 → Sg → Prop
  | 0, _, _, _, _, _ => False
  | n + 1, v1, v2, v3, v4, σ => wb_X9_against_30 v1 v2 v3 v4 (wl_X9_against_30 K139 Q n) K139 Q σ
set_option maxHeartbeats 4000000 in
set_option maxRecDepth 100000 in
theorem kl_X9_against_30 {Q : Int32 → Sg → Prop} (C : Cx p s m args meth c D cy ad b0 yX9_against cX9_against 7 (some .int)) (K139 : Int32 → Int32 → Int32 → Sg → Prop) (hK139 : ∀ (z1 : Int32) (z2 : Int32) (z3 : Int32) (σ : Sg), K139 z1 z2 z3 σ → gI p l e rm_X9_against s m args below meth c D cy ad b0 Q 7 139 σ [none, some (.int z1), some (.int z2), some (.int z3), none, none, none] []) : ∀ (n : Nat) (v1 : Int32) (v2 : Int32) (v3 : Int32) (v4 : Int32) (σ : Sg), wl_X9_against_30 K139 Q n v1 v2 v3 v4 σ → gI p l e rm_X9_against s m args below meth c D cy ad b0 Q 7 30 σ [some (.ref (ad 10)), some (.int v1), some (.int v2), some (.int v3), some (.int v4), none, none] [] := by
  intro n
  induction n with
  | zero => intro v1 v2 v3 v4 σ h; exact False.elim h
  | succ n ih =>
    intro v1 v2 v3 v4 σ h
    exact kb_X9_against_30 C v1 v2 v3 v4 (wl_X9_against_30 K139 Q n) K139 (fun z1 z2 z3 z4 σ h => ih z1 z2 z3 z4 σ h) hK139 σ h
def wp_X9_against (σ : Sg) (Q : Int32 → Sg → Prop) : Prop :=
  (((gF σ 10 38) = (nI 0) → Q (-3 : Int32) σ) ∧ (¬ (gF σ 10 38) = (nI 0) → ((¬ (gF σ 10 51) = (nI 0) → wp_X9_pairUp σ (fun σ1 => ∃ n, wl_X9_against_30 (fun z1 z2 z3 σ9 => wp_X9_against_139 z1 z2 z3 Q σ9) Q n (nI 0) (nI 0) (nI 0) (nI 0) σ1)) ∧ ((gF σ 10 51) = (nI 0) → Q (-3 : Int32) σ))))
set_option maxHeartbeats 4000000 in
set_option maxRecDepth 100000 in
theorem c_X9_against (l : Launch) (D : va_G) (cy : Nat → ClassId) (ad : Nat → Nat) (b0 : Nat) (hA : AdOk ad b0) : Cti l D cy ad b0 yX9_against cX9_against 7 (some .int) rm_X9_against [.ref (ad 10)] (fun σ Q => wp_X9_against σ Q) := by
  intro σ Q h
  refine g_enter hA rfl (Nat.le_of_ble_eq_true rfl) [some (.ref (ad 10)), none, none, none, none, none, none] rfl ?_
  intro p e s m args below meth c C
  refine g_aload_n C dX9_against_0 rfl ?_
  refine fget_10_38_X9_257 C rfl dX9_against_1 ?_
  refine g_if_eq C 14 dX9_against_4 (by decide) (fun c4 => ?_) (fun c4 => ?_)
  · have h := h.1 c4
    refine g_bipush C dX9_against_14 kb_m3 ?_
    exact g_iret C dX9_against_16 h
  · have h := h.2 c4
    refine g_aload_n C dX9_against_7 rfl ?_
    refine fget_10_51_X9_311 C rfl dX9_against_8 ?_
    refine g_if_ne C 17 dX9_against_11 (by decide) (fun c11 => ?_) (fun c11 => ?_)
    · have h := h.1 c11
      refine g_aload_n C dX9_against_17 rfl ?_
      refine g_callVv C 10 [] (c_X9_pairUp l D cy ad b0 C.A) cal_X9_pairUp mw_932 (by decide) rfl rfl ⟨Nat.le_of_ble_eq_true rfl, Nat.le_of_ble_eq_true rfl⟩ ⟨rfl, rfl⟩ ⟨Nat.zero_le _, Nat.zero_le _⟩ (Nat.le_of_ble_eq_true rfl) rfl dX9_against_18 h (fun σ1 h => ?_)
      refine g_iconst C dX9_against_21 kc_0 ?_
      refine g_istore_n C [some (.ref (ad 10)), some (.int (nI 0)), none, none, none, none, none] dX9_against_22 (by decide) rfl ?_
      refine g_iconst C dX9_against_23 kc_0 ?_
      refine g_istore_n C [some (.ref (ad 10)), some (.int (nI 0)), some (.int (nI 0)), none, none, none, none] dX9_against_24 (by decide) rfl ?_
      refine g_iconst C dX9_against_25 kc_0 ?_
      refine g_istore_n C [some (.ref (ad 10)), some (.int (nI 0)), some (.int (nI 0)), some (.int (nI 0)), none, none, none] dX9_against_26 (by decide) rfl ?_
      refine g_iconst C dX9_against_27 kc_0 ?_
      refine g_istore C [some (.ref (ad 10)), some (.int (nI 0)), some (.int (nI 0)), some (.int (nI 0)), some (.int (nI 0)), none, none] dX9_against_28 (by decide) rfl ?_
      obtain ⟨n, h⟩ := h
      exact kl_X9_against_30 C _ (fun z1 z2 z3 σ9 h => by exact k_X9_against_139 C z1 z2 z3 σ9 h) n (nI 0) (nI 0) (nI 0) (nI 0) σ1 h
    · have h := h.2 c11
      refine g_bipush C dX9_against_14 kb_m3 ?_
      exact g_iret C dX9_against_16 h
def rm_X9_apart : Room := { frames := 2, cells := 0, slots := 0, locals := 44 }
def wp_X9_apart_62 (v1 : Int32) (Q : Int32 → Sg → Prop) (σ : Sg) : Prop :=
  vp_in v1 (aN 85) ∧ (Q (gA σ 85 (Int32.toNatClampNeg v1)) σ)
set_option maxHeartbeats 4000000 in
set_option maxRecDepth 100000 in
theorem k_X9_apart_62 {Q : Int32 → Sg → Prop} (C : Cx p s m args meth c D cy ad b0 yX9_apart cX9_apart 2 (some .int)) (v1 : Int32) (σ : Sg) (h : wp_X9_apart_62 v1 Q σ) : gI p l e rm_X9_apart s m args below meth c D cy ad b0 Q 2 62 σ [some (.ref (ad 10)), some (.int v1)] [] := by
  refine g_aload_n C dX9_apart_62 rfl ?_
  refine fget_10_57_X9_128 C rfl dX9_apart_63 ?_
  refine g_iload_n C dX9_apart_66 rfl ?_
  refine g_iald C (by decide) h.1 dX9_apart_67 ?_
  have h := h.2
  exact g_iret C dX9_apart_68 h
def wb_X9_apart_23 (v1 : Int32) (K23 : Int32 → Sg → Prop) (K62 : Int32 → Sg → Prop) (Q : Int32 → Sg → Prop) (σ : Sg) : Prop :=
  (((gF σ 10 55) ≤ v1 → Q (-9 : Int32) σ) ∧ (¬ (gF σ 10 55) ≤ v1 → vp_in v1 (aN 84) ∧ (vp_in ((gA σ 84 (Int32.toNatClampNeg v1)) / (nI 60)) (aN 72) ∧ (vp_in v1 (aN 84) ∧ (vp_in (iREM (gA σ 84 (Int32.toNatClampNeg v1)) (nI 60)) (aN 83) ∧ ((((gA σ 72 (Int32.toNatClampNeg ((gA σ 84 (Int32.toNatClampNeg v1)) / (nI 60)))) = (gA σ 83 (Int32.toNatClampNeg (iREM (gA σ 84 (Int32.toNatClampNeg v1)) (nI 60)))) → ∀ x69 : Int32, x69 = v1 + (nI 1) → (K23 x69 σ)) ∧ (¬ (gA σ 72 (Int32.toNatClampNeg ((gA σ 84 (Int32.toNatClampNeg v1)) / (nI 60)))) = (gA σ 83 (Int32.toNatClampNeg (iREM (gA σ 84 (Int32.toNatClampNeg v1)) (nI 60)))) → K62 v1 σ))))))))
set_option maxHeartbeats 4000000 in
set_option maxRecDepth 100000 in
theorem kb_X9_apart_23 {Q : Int32 → Sg → Prop} (C : Cx p s m args meth c D cy ad b0 yX9_apart cX9_apart 2 (some .int)) (v1 : Int32) (K23 : Int32 → Sg → Prop) (K62 : Int32 → Sg → Prop) (hK23 : ∀ (z1 : Int32) (σ : Sg), K23 z1 σ → gI p l e rm_X9_apart s m args below meth c D cy ad b0 Q 2 23 σ [some (.ref (ad 10)), some (.int z1)] []) (hK62 : ∀ (z1 : Int32) (σ : Sg), K62 z1 σ → gI p l e rm_X9_apart s m args below meth c D cy ad b0 Q 2 62 σ [some (.ref (ad 10)), some (.int z1)] []) (σ : Sg) (h : wb_X9_apart_23 v1 K23 K62 Q σ) : gI p l e rm_X9_apart s m args below meth c D cy ad b0 Q 2 23 σ [some (.ref (ad 10)), some (.int v1)] [] := by
  refine g_iload_n C dX9_apart_23 rfl ?_
  refine g_aload_n C dX9_apart_24 rfl ?_
  refine fget_10_55_X9_317 C rfl dX9_apart_25 ?_
  refine g_icmp_ge C 75 dX9_apart_28 (by decide) (fun c28 => ?_) (fun c28 => ?_)
  · have h := h.1 c28
    refine g_bipush C dX9_apart_75 kb_m9 ?_
    exact g_iret C dX9_apart_77 h
  · have h := h.2 c28
    refine g_aload_n C dX9_apart_31 rfl ?_
    refine fget_10_41_X9_88 C rfl dX9_apart_32 ?_
    refine g_aload_n C dX9_apart_35 rfl ?_
    refine fget_10_56_X9_125 C rfl dX9_apart_36 ?_
    refine g_iload_n C dX9_apart_39 rfl ?_
    refine g_iald C (by decide) h.1 dX9_apart_40 ?_
    have h := h.2
    refine g_bipush C dX9_apart_41 kb_60 ?_
    refine g_idiv C dX9_apart_43 (by decide) ?_
    refine g_zald C (by decide) h.1 dX9_apart_44 ?_
    have h := h.2
    refine g_aload_n C dX9_apart_45 rfl ?_
    refine fget_10_54_X9_122 C rfl dX9_apart_46 ?_
    refine g_aload_n C dX9_apart_49 rfl ?_
    refine fget_10_56_X9_125 C rfl dX9_apart_50 ?_
    refine g_iload_n C dX9_apart_53 rfl ?_
    refine g_iald C (by decide) h.1 dX9_apart_54 ?_
    have h := h.2
    refine g_bipush C dX9_apart_55 kb_60 ?_
    refine g_irem C dX9_apart_57 (by decide) ?_
    refine g_zald C (by decide) h.1 dX9_apart_58 ?_
    have h := h.2
    refine g_icmp_eq C 69 dX9_apart_59 (by decide) (fun c59 => ?_) (fun c59 => ?_)
    · have h := h.1 c59
      obtain ⟨x69, e_x69⟩ : ∃ v : Int32, v = v1 + (nI 1) := ⟨_, rfl⟩
      have h := h x69 e_x69
      refine g_iinc C [some (.ref (ad 10)), some (.int x69)] dX9_apart_69 rfl e_x69.symm (by decide) rfl ?_
      refine g_goto C 23 dX9_apart_72 (by decide) ?_
      exact hK23 x69 σ h
    · have h := h.2 c59
      exact hK62 v1 σ h
def wl_X9_apart_23 (K62 : Int32 → Sg → Prop) (Q : Int32 → Sg → Prop) : Nat → Int32 → Sg → Prop
  | 0, _, _ => False
  | n + 1, v1, σ => wb_X9_apart_23 v1 (wl_X9_apart_23 K62 Q n) K62 Q σ
set_option maxHeartbeats 4000000 in
set_option maxRecDepth 100000 in
theorem kl_X9_apart_23 {Q : Int32 → Sg → Prop} (C : Cx p s m args meth c D cy ad b0 yX9_apart cX9_apart 2 (some .int)) (K62 : Int32 → Sg → Prop) (hK62 : ∀ (z1 : Int32) (σ : Sg), K62 z1 σ → gI p l e rm_X9_apart s m args below meth c D cy ad b0 Q 2 62 σ [some (.ref (ad 10)), some (.int z1)] []) : ∀ (n : Nat) (v1 : Int32) (σ : Sg), wl_X9_apart_23 K62 Q n v1 σ → gI p l e rm_X9_apart s m args below meth c D cy ad b0 Q 2 23 σ [some (.ref (ad 10)), some (.int v1)] [] := by
  intro n
  induction n with
  | zero => intro v1 σ h; exact False.elim h
  | succ n ih =>
    intro v1 σ h
    exact kb_X9_apart_23 C v1 (wl_X9_apart_23 K62 Q n) K62 (fun z1 σ h => ih z1 σ h) hK62 σ h
def wp_X9_apart (σ : Sg) (Q : Int32 → Sg → Prop) : Prop :=
  (((gF σ 10 38) = (nI 0) → Q (-3 : Int32) σ) ∧ (¬ (gF σ 10 38) = (nI 0) → ((¬ (gF σ 10 51) = (nI 0) → wp_X9_pairUp σ (fun σ1 => ∃ n, wl_X9_apart_23 (fun z1 σ9 => wp_X9_apart_62 z1 Q σ9) Q n (nI 0) σ1)) ∧ ((gF σ 10 51) = (nI 0) → Q (-3 : Int32) σ))))
set_option maxHeartbeats 4000000 in
set_option maxRecDepth 100000 in
theorem c_X9_apart (l : Launch) (D : va_G) (cy : Nat → ClassId) (ad : Nat → Nat) (b0 : Nat) (hA : AdOk ad b0) : Cti l D cy ad b0 yX9_apart cX9_apart 2 (some .int) rm_X9_apart [.ref (ad 10)] (fun σ Q => wp_X9_apart σ Q) := by
  intro σ Q h
  refine g_enter hA rfl (Nat.le_of_ble_eq_true rfl) [some (.ref (ad 10)), none] rfl ?_
  intro p e s m args below meth c C
  refine g_aload_n C dX9_apart_0 rfl ?_
  refine fget_10_38_X9_257 C rfl dX9_apart_1 ?_
  refine g_if_eq C 14 dX9_apart_4 (by decide) (fun c4 => ?_) (fun c4 => ?_)
  · have h := h.1 c4
    refine g_bipush C dX9_apart_14 kb_m3 ?_
    exact g_iret C dX9_apart_16 h
  · have h := h.2 c4
    refine g_aload_n C dX9_apart_7 rfl ?_
    refine fget_10_51_X9_311 C rfl dX9_apart_8 ?_
    refine g_if_ne C 17 dX9_apart_11 (by decide) (fun c11 => ?_) (fun c11 => ?_)
    · have h := h.1 c11
      refine g_aload_n C dX9_apart_17 rfl ?_
      refine g_callVv C 10 [] (c_X9_pairUp l D cy ad b0 C.A) cal_X9_pairUp mw_932 (by decide) rfl rfl ⟨Nat.le_of_ble_eq_true rfl, Nat.le_of_ble_eq_true rfl⟩ ⟨rfl, rfl⟩ ⟨Nat.zero_le _, Nat.zero_le _⟩ (Nat.le_of_ble_eq_true rfl) rfl dX9_apart_18 h (fun σ1 h => ?_)
      refine g_iconst C dX9_apart_21 kc_0 ?_
      refine g_istore_n C [some (.ref (ad 10)), some (.int (nI 0))] dX9_apart_22 (by decide) rfl ?_
      obtain ⟨n, h⟩ := h
      exact kl_X9_apart_23 C _ (fun z1 σ9 h => by exact k_X9_apart_62 C z1 σ9 h) n (nI 0) σ1 h
    · have h := h.2 c11
      refine g_bipush C dX9_apart_14 kb_m3 ?_
      exact g_iret C dX9_apart_16 h
def rm_X9_count : Room := { frames := 2, cells := 0, slots := 0, locals := 48 }
def wp_X9_count_106 (v3 : Int32) (s0 : Int32) (s1 : Int32) (K79 : Int32 → Int32 → Sg → Prop) (Q : Int32 → Sg → Prop) (σ : Sg) : Prop :=
  ∀ x107 : Int32, x107 = (s1 + s0) → (∀ x108 : Int32, x108 = v3 + (nI 1) → (K79 x107 x108 σ))
set_option maxHeartbeats 4000000 in
set_option maxRecDepth 100000 in
theorem k_X9_count_106 {Q : Int32 → Sg → Prop} (C : Cx p s m args meth c D cy ad b0 yX9_count cX9_count 4 (some .int)) (v3 : Int32) (s0 : Int32) (s1 : Int32) (K79 : Int32 → Int32 → Sg → Prop) (hK79 : ∀ (z2 : Int32) (z3 : Int32) (σ : Sg), K79 z2 z3 σ → gI p l e rm_X9_count s m args below meth c D cy ad b0 Q 4 79 σ [some (.ref (ad 10)), none, some (.int z2), some (.int z3)] []) (σ : Sg) (h : wp_X9_count_106 v3 s0 s1 K79 Q σ) : gI p l e rm_X9_count s m args below meth c D cy ad b0 Q 4 106 σ [some (.ref (ad 10)), none, none, some (.int v3)] [.int s0, .int s1] := by
  refine g_iadd C dX9_count_106 ?_
  refine g_topi (fun x107 e_x107 => ?_)
  have h := h x107 e_x107
  refine g_istore_n C [some (.ref (ad 10)), none, some (.int x107), some (.int v3)] dX9_count_107 (by decide) rfl ?_
  obtain ⟨x108, e_x108⟩ : ∃ v : Int32, v = v3 + (nI 1) := ⟨_, rfl⟩
  have h := h x108 e_x108
  refine g_iinc C [some (.ref (ad 10)), none, some (.int x107), some (.int x108)] dX9_count_108 rfl e_x108.symm (by decide) rfl ?_
  refine g_goto C 79 dX9_count_111 (by decide) ?_
  exact hK79 x107 x108 σ h
def wp_X9_count_105 (v3 : Int32) (s0 : Int32) (K79 : Int32 → Int32 → Sg → Prop) (Q : Int32 → Sg → Prop) (σ : Sg) : Prop :=
  wp_X9_count_106 v3 (nI 0) s0 K79 Q σ
set_option maxHeartbeats 4000000 in
set_option maxRecDepth 100000 in
theorem k_X9_count_105 {Q : Int32 → Sg → Prop} (C : Cx p s m args meth c D cy ad b0 yX9_count cX9_count 4 (some .int)) (v3 : Int32) (s0 : Int32) (K79 : Int32 → Int32 → Sg → Prop) (hK79 : ∀ (z2 : Int32) (z3 : Int32) (σ : Sg), K79 z2 z3 σ → gI p l e rm_X9_count s m args below meth c D cy ad b0 Q 4 79 σ [some (.ref (ad 10)), none, some (.int z2), some (.int z3)] []) (σ : Sg) (h : wp_X9_count_105 v3 s0 K79 Q σ) : gI p l e rm_X9_count s m args below meth c D cy ad b0 Q 4 105 σ [some (.ref (ad 10)), none, none, some (.int v3)] [.int s0] := by
  refine g_iconst C dX9_count_105 kc_0 ?_
  exact k_X9_count_106 C v3 (nI 0) s0 K79 hK79 σ h
def wb_X9_count_79 (v2 : Int32) (v3 : Int32) (K79 : Int32 → Int32 → Sg → Prop) (Q : Int32 → Sg → Prop) (σ : Sg) : Prop :=
  (((nI 16) ≤ v3 → Q v2 σ) ∧ (¬ (nI 16) ≤ v3 → (((gF σ 10 38) = (nI 0) → wp_X9_count_105 v3 v2 K79 Q σ) ∧ (¬ (gF σ 10 38) = (nI 0) → wp_X9_isGone v3 σ (fun r1 σ2 => ((r1 = (nI 0) → wp_X9_count_105 v3 v2 K79 Q σ2) ∧ (¬ r1 = (nI 0) → wp_X9_count_106 v3 (nI 1) v2 K79 Q σ2)))))))
set_option maxHeartbeats 4000000 in
set_option maxRecDepth 100000 in
theorem kb_X9_count_79 {Q : Int32 → Sg → Prop} (C : Cx p s m args meth c D cy ad b0 yX9_count cX9_count 4 (some .int)) (v2 : Int32) (v3 : Int32) (K79 : Int32 → Int32 → Sg → Prop) (hK79 : ∀ (z2 : Int32) (z3 : Int32) (σ : Sg), K79 z2 z3 σ → gI p l e rm_X9_count s m args below meth c D cy ad b0 Q 4 79 σ [some (.ref (ad 10)), none, some (.int z2), some (.int z3)] []) (σ : Sg) (h : wb_X9_count_79 v2 v3 K79 Q σ) : gI p l e rm_X9_count s m args below meth c D cy ad b0 Q 4 79 σ [some (.ref (ad 10)), none, some (.int v2), some (.int v3)] [] := by
  refine g_iload_n C dX9_count_79 rfl ?_
  refine g_bipush C dX9_count_80 kb_16 ?_
  refine g_icmp_ge C 114 dX9_count_82 (by decide) (fun c82 => ?_) (fun c82 => ?_)
  · have h := h.1 c82
    refine g_iload_n C dX9_count_114 rfl ?_
    exact g_iret C dX9_count_115 h
  · have h := h.2 c82
    refine g_iload_n C dX9_count_85 rfl ?_
    refine g_aload_n C dX9_count_86 rfl ?_
    refine fget_10_38_X9_257 C rfl dX9_count_87 ?_
    refine g_if_eq C 105 dX9_count_90 (by decide) (fun c90 => ?_) (fun c90 => ?_)
    · have h := h.1 c90
      refine g_mask [true, false, false, true] rfl ?_
      exact k_X9_count_105 C v3 v2 K79 hK79 σ h
    · have h := h.2 c90
      refine g_aload_n C dX9_count_93 rfl ?_
      refine g_iload_n C dX9_count_94 rfl ?_
      refine g_callVi C 10 [.int v3] (c_X9_isGone l D cy ad b0 C.A v3) cal_X9_isGone mw_796 (by decide) rfl rfl ⟨Nat.le_of_ble_eq_true rfl, Nat.le_of_ble_eq_true rfl⟩ ⟨rfl, rfl⟩ ⟨Nat.zero_le _, Nat.zero_le _⟩ (Nat.le_of_ble_eq_true rfl) rfl dX9_count_95 h (fun r1 σ2 h => ?_)
      refine g_if_eq C 105 dX9_count_98 (by decide) (fun c98 => ?_) (fun c98 => ?_)
      · have h := h.1 c98
        refine g_mask [true, false, false, true] rfl ?_
        exact k_X9_count_105 C v3 v2 K79 hK79 σ2 h
      · have h := h.2 c98
        refine g_iconst C dX9_count_101 kc_1 ?_
        refine g_goto C 106 dX9_count_102 (by decide) ?_
        refine g_mask [true, false, false, true] rfl ?_
        exact k_X9_count_106 C v3 (nI 1) v2 K79 hK79 σ2 h
def wl_X9_count_79 (Q : Int32 → Sg → Prop) : Nat → Int32 → Int32 → Sg → Prop
  | 0, _, _, _ => False
  | n + 1, v2, v3, σ => wb_X9_count_79 v2 v3 (wl_X9_count_79 Q n) Q σ
set_option maxHeartbeats 4000000 in
set_option maxRecDepth 100000 in
theorem kl_X9_count_79 {Q : Int32 → Sg → Prop} (C : Cx p s m args meth c D cy ad b0 yX9_count cX9_count 4 (some .int)) : ∀ (n : Nat) (v2 : Int32) (v3 : Int32) (σ : Sg), wl_X9_count_79 Q n v2 v3 σ → gI p l e rm_X9_count s m args below meth c D cy ad b0 Q 4 79 σ [some (.ref (ad 10)), none, some (.int v2), some (.int v3)] [] := by
  intro n
  induction n with
  | zero => intro v2 v3 σ h; exact False.elim h
  | succ n ih =>
    intro v2 v3 σ h
    exact kb_X9_count_79 C v2 v3 (wl_X9_count_79 Q n) (fun z2 z3 σ h => ih z2 z3 σ h) σ h
def wp_X9_count_67 (v3 : Int32) (s0 : Int32) (s1 : Int32) (K43 : Int32 → Int32 → Sg → Prop) (Q : Int32 → Sg → Prop) (σ : Sg) : Prop :=
  ∀ x68 : Int32, x68 = (s1 + s0) → (∀ x69 : Int32, x69 = v3 + (nI 1) → (K43 x68 x69 σ))
set_option maxHeartbeats 4000000 in
set_option maxRecDepth 100000 in
theorem k_X9_count_67 {Q : Int32 → Sg → Prop} (C : Cx p s m args meth c D cy ad b0 yX9_count cX9_count 4 (some .int)) (v3 : Int32) (s0 : Int32) (s1 : Int32) (K43 : Int32 → Int32 → Sg → Prop) (hK43 : ∀ (z2 : Int32) (z3 : Int32) (σ : Sg), K43 z2 z3 σ → gI p l e rm_X9_count s m args below meth c D cy ad b0 Q 4 43 σ [some (.ref (ad 10)), none, some (.int z2), some (.int z3)] []) (σ : Sg) (h : wp_X9_count_67 v3 s0 s1 K43 Q σ) : gI p l e rm_X9_count s m args below meth c D cy ad b0 Q 4 67 σ [some (.ref (ad 10)), none, none, some (.int v3)] [.int s0, .int s1] := by
  refine g_iadd C dX9_count_67 ?_
  refine g_topi (fun x68 e_x68 => ?_)
  have h := h x68 e_x68
  refine g_istore_n C [some (.ref (ad 10)), none, some (.int x68), some (.int v3)] dX9_count_68 (by decide) rfl ?_
  obtain ⟨x69, e_x69⟩ : ∃ v : Int32, v = v3 + (nI 1) := ⟨_, rfl⟩
  have h := h x69 e_x69
  refine g_iinc C [some (.ref (ad 10)), none, some (.int x68), some (.int x69)] dX9_count_69 rfl e_x69.symm (by decide) rfl ?_
  refine g_goto C 43 dX9_count_72 (by decide) ?_
  exact hK43 x68 x69 σ h
def wb_X9_count_43 (v2 : Int32) (v3 : Int32) (K43 : Int32 → Int32 → Sg → Prop) (Q : Int32 → Sg → Prop) (σ : Sg) : Prop :=
  (((gF σ 10 39) ≤ v3 → Q v2 σ) ∧ (¬ (gF σ 10 39) ≤ v3 → vp_in v3 (aN 73) ∧ ((((gA σ 73 (Int32.toNatClampNeg v3)) ≤ (nI 1) → wp_X9_count_67 v3 (nI 0) v2 K43 Q σ) ∧ (¬ (gA σ 73 (Int32.toNatClampNeg v3)) ≤ (nI 1) → wp_X9_count_67 v3 (nI 1) v2 K43 Q σ)))))
set_option maxHeartbeats 4000000 in
set_option maxRecDepth 100000 in
theorem kb_X9_count_43 {Q : Int32 → Sg → Prop} (C : Cx p s m args meth c D cy ad b0 yX9_count cX9_count 4 (some .int)) (v2 : Int32) (v3 : Int32) (K43 : Int32 → Int32 → Sg → Prop) (hK43 : ∀ (z2 : Int32) (z3 : Int32) (σ : Sg), K43 z2 z3 σ → gI p l e rm_X9_count s m args below meth c D cy ad b0 Q 4 43 σ [some (.ref (ad 10)), none, some (.int z2), some (.int z3)] []) (σ : Sg) (h : wb_X9_count_43 v2 v3 K43 Q σ) : gI p l e rm_X9_count s m args below meth c D cy ad b0 Q 4 43 σ [some (.ref (ad 10)), none, some (.int v2), some (.int v3)] [] := by
  refine g_iload_n C dX9_count_43 rfl ?_
  refine g_aload_n C dX9_count_44 rfl ?_
  refine fget_10_39_X9_237 C rfl dX9_count_45 ?_
  refine g_icmp_ge C 75 dX9_count_48 (by decide) (fun c48 => ?_) (fun c48 => ?_)
  · have h := h.1 c48
    refine g_iload_n C dX9_count_75 rfl ?_
    exact g_iret C dX9_count_76 h
  · have h := h.2 c48
    refine g_iload_n C dX9_count_51 rfl ?_
    refine g_aload_n C dX9_count_52 rfl ?_
    refine fget_10_42_X9_91 C rfl dX9_count_53 ?_
    refine g_iload_n C dX9_count_56 rfl ?_
    refine g_iald C (by decide) h.1 dX9_count_57 ?_
    have h := h.2
    refine g_iconst C dX9_count_58 kc_1 ?_
    refine g_icmp_le C 66 dX9_count_59 (by decide) (fun c59 => ?_) (fun c59 => ?_)
    · have h := h.1 c59
      refine g_iconst C dX9_count_66 kc_0 ?_
      refine g_mask [true, false, false, true] rfl ?_
      exact k_X9_count_67 C v3 (nI 0) v2 K43 hK43 σ h
    · have h := h.2 c59
      refine g_iconst C dX9_count_62 kc_1 ?_
      refine g_goto C 67 dX9_count_63 (by decide) ?_
      refine g_mask [true, false, false, true] rfl ?_
      exact k_X9_count_67 C v3 (nI 1) v2 K43 hK43 σ h
def wl_X9_count_43 (Q : Int32 → Sg → Prop) : Nat → Int32 → Int32 → Sg → Prop
  | 0, _, _, _ => False
  | n + 1, v2, v3, σ => wb_X9_count_43 v2 v3 (wl_X9_count_43 Q n) Q σ
set_option maxHeartbeats 4000000 in
set_option maxRecDepth 100000 in
theorem kl_X9_count_43 {Q : Int32 → Sg → Prop} (C : Cx p s m args meth c D cy ad b0 yX9_count cX9_count 4 (some .int)) : ∀ (n : Nat) (v2 : Int32) (v3 : Int32) (σ : Sg), wl_X9_count_43 Q n v2 v3 σ → gI p l e rm_X9_count s m args below meth c D cy ad b0 Q 4 43 σ [some (.ref (ad 10)), none, some (.int v2), some (.int v3)] [] := by
  intro n
  induction n with
  | zero => intro v2 v3 σ h; exact False.elim h
  | succ n ih =>
    intro v2 v3 σ h
    exact kb_X9_count_43 C v2 v3 (wl_X9_count_43 Q n) (fun z2 z3 σ h => ih z2 z3 σ h) σ h
def wp_X9_count (a0 : Int32) (σ : Sg) (Q : Int32 → Sg → Prop) : Prop :=
  ((a0 = (nI 0) → Q (gF σ 10 39) σ) ∧ (¬ a0 = (nI 0) → ((a0 = (nI 1) → ∃ n, wl_X9_count_43 Q n (nI 0) (nI 0) σ) ∧ (¬ a0 = (nI 1) → ((a0 = (nI 2) → ∃ n, wl_X9_count_79 Q n (nI 0) (nI 0) σ) ∧ (¬ a0 = (nI 2) → ((a0 = (nI 3) → Q (gF σ 10 1) σ) ∧ (¬ a0 = (nI 3) → ((a0 = (nI 4) → (((gF σ 10 51) = (nI 0) → Q (nI 0) σ) ∧ (¬ (gF σ 10 51) = (nI 0) → Q (nI 1) σ))) ∧ (¬ a0 = (nI 4) → Q (-2 : Int32) σ))))))))))
set_option maxHeartbeats 4000000 in
set_option maxRecDepth 100000 in
theorem c_X9_count (l : Launch) (D : va_G) (cy : Nat → ClassId) (ad : Nat → Nat) (b0 : Nat) (hA : AdOk ad b0) (a0 : Int32) : Cti l D cy ad b0 yX9_count cX9_count 4 (some .int) rm_X9_count [.ref (ad 10), .int a0] (fun σ Q => wp_X9_count a0 σ Q) := by
  intro σ Q h
  refine g_enter hA rfl (Nat.le_of_ble_eq_true rfl) [some (.ref (ad 10)), some (.int a0), none, none] rfl ?_
  intro p e s m args below meth c C
  refine g_iconst C dX9_count_0 kc_0 ?_
  refine g_istore_n C [some (.ref (ad 10)), some (.int a0), some (.int (nI 0)), none] dX9_count_1 (by decide) rfl ?_
  refine g_iload_n C dX9_count_2 rfl ?_
  refine dite_case (a0 = (nI 0)) (fun c3_0 => ?_) (fun c3_0 => ?_)
  · have h := h.1 c3_0
    refine g_tsw C 36 (off := 33) dX9_count_3 (tsel_at c3_0 (by decide)) (by decide) ?_
    refine g_aload_n C dX9_count_36 rfl ?_
    refine fget_10_39_X9_237 C rfl dX9_count_37 ?_
    exact g_iret C dX9_count_40 h
  · have h := h.2 c3_0
    refine dite_case (a0 = (nI 1)) (fun c3_1 => ?_) (fun c3_1 => ?_)
    · have h := h.1 c3_1
      refine g_tsw C 41 (off := 38) dX9_count_3 (tsel_at c3_1 (by decide)) (by decide) ?_
      refine g_iconst C dX9_count_41 kc_0 ?_
      refine g_istore_n C [some (.ref (ad 10)), some (.int a0), some (.int (nI 0)), some (.int (nI 0))] dX9_count_42 (by decide) rfl ?_
      refine g_mask [true, false, true, true] rfl ?_
      obtain ⟨n, h⟩ := h
      exact kl_X9_count_43 C n (nI 0) (nI 0) σ h
    · have h := h.2 c3_1
      refine dite_case (a0 = (nI 2)) (fun c3_2 => ?_) (fun c3_2 => ?_)
      · have h := h.1 c3_2
        refine g_tsw C 77 (off := 74) dX9_count_3 (tsel_at c3_2 (by decide)) (by decide) ?_
        refine g_iconst C dX9_count_77 kc_0 ?_
        refine g_istore_n C [some (.ref (ad 10)), some (.int a0), some (.int (nI 0)), some (.int (nI 0))] dX9_count_78 (by decide) rfl ?_
        refine g_mask [true, false, true, true] rfl ?_
        obtain ⟨n, h⟩ := h
        exact kl_X9_count_79 C n (nI 0) (nI 0) σ h
      · have h := h.2 c3_2
        refine dite_case (a0 = (nI 3)) (fun c3_3 => ?_) (fun c3_3 => ?_)
        · have h := h.1 c3_3
          refine g_tsw C 116 (off := 113) dX9_count_3 (tsel_at c3_3 (by decide)) (by decide) ?_
          refine g_aload_n C dX9_count_116 rfl ?_
          refine fget_10_1_X9_136 C rfl dX9_count_117 ?_
          exact g_iret C dX9_count_120 h
        · have h := h.2 c3_3
          refine dite_case (a0 = (nI 4)) (fun c3_4 => ?_) (fun c3_4 => ?_)
          · have h := h.1 c3_4
            refine g_tsw C 121 (off := 118) dX9_count_3 (tsel_at c3_4 (by decide)) (by decide) ?_
            refine g_aload_n C dX9_count_121 rfl ?_
            refine fget_10_51_X9_311 C rfl dX9_count_122 ?_
            refine g_if_eq C 132 dX9_count_125 (by decide) (fun c125 => ?_) (fun c125 => ?_)
            · have h := h.1 c125
              refine g_iconst C dX9_count_132 kc_0 ?_
              exact g_iret C dX9_count_133 h
            · have h := h.2 c125
              refine g_iconst C dX9_count_128 kc_1 ?_
              refine g_goto C 133 dX9_count_129 (by decide) ?_
              exact g_iret C dX9_count_133 h
          · have h := h.2 c3_4
            refine g_tsw C 134 (off := 131) dX9_count_3 (tsel_df [0, 1, 2, 3, 4] (by decide) (by decide) (List.forall_mem_cons.mpr ⟨lv_neT c3_0 (by decide), List.forall_mem_cons.mpr ⟨lv_neT c3_1 (by decide), List.forall_mem_cons.mpr ⟨lv_neT c3_2 (by decide), List.forall_mem_cons.mpr ⟨lv_neT c3_3 (by decide), List.forall_mem_cons.mpr ⟨lv_neT c3_4 (by decide), fun _ h => absurd h List.not_mem_nil⟩⟩⟩⟩⟩)) (by decide) ?_
            refine g_bipush C dX9_count_134 kb_m2 ?_
            exact g_iret C dX9_count_136 h
end
