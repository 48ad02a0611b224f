section
variable {p : Program} {l : Launch} {e : Env} {s : State} {m : MethodId} {args : Array Value} {below : List Frame} {meth : Method} {c : Code} {D : va_G} {cy : Nat → ClassId} {ad : Nat → Nat} {b0 : Nat}
def rm_X9_layBits : Room := { frames := 0, cells := 0, slots := 0, locals := 0 }
def wp_X9_layBits_190 (v1 : Int32) (K22 : Int32 → Sg → Prop) (Q : Sg → Prop) (σ : Sg) : Prop :=
  ∀ x190 : Int32, x190 = v1 + (nI 1) → (K22 x190 σ)
set_option maxHeartbeats 4000000 in
set_option maxRecDepth 100000 in
theorem k_X9_layBits_190 {Q : Sg → Prop} (C : Cx p s m args meth c D cy ad b0 yX9_layBits cX9_layBits 3 none) (v1 : Int32) (K22 : Int32 → Sg → Prop) (hK22 : ∀ (z1 : Int32) (σ : Sg), K22 z1 σ → gV p l e rm_X9_layBits s m args below meth c D cy ad b0 Q 3 22 σ [some (.ref (ad 10)), some (.int z1), none] []) (σ : Sg) (h : wp_X9_layBits_190 v1 K22 Q σ) : gV p l e rm_X9_layBits s m args below meth c D cy ad b0 Q 3 190 σ [some (.ref (ad 10)), some (.int v1), none] [] := by
  obtain ⟨x190, e_x190⟩ : ∃ v : Int32, v = v1 + (nI 1) := ⟨_, rfl⟩
  have h := h x190 e_x190
  refine g_iinc C [some (.ref (ad 10)), some (.int x190), none] dX9_layBits_190 rfl e_x190.symm (by decide) rfl ?_
  refine g_goto C 22 dX9_layBits_193 (by decide) ?_
  exact hK22 x190 σ h
def wp_X9_layBits_176 (v1 : Int32) (s0 : Int32) (s1 : Int32) (K22 : Int32 → Sg → Prop) (Q : Sg → Prop) (σ : Sg) : Prop :=
  ∀ σ1 : Sg, σ1 = stF σ 10 19 (s1 ||| s0) → (∀ σ2 : Sg, σ2 = stF σ1 10 16 ((gF σ1 10 16) + (nI 1)) → (wp_X9_layBits_190 v1 K22 Q σ2))
set_option maxHeartbeats 4000000 in
set_option maxRecDepth 100000 in
theorem k_X9_layBits_176 {Q : Sg → Prop} (C : Cx p s m args meth c D cy ad b0 yX9_layBits cX9_layBits 3 none) (v1 : Int32) (s0 : Int32) (s1 : Int32) (K22 : Int32 → Sg → Prop) (hK22 : ∀ (z1 : Int32) (σ : Sg), K22 z1 σ → gV p l e rm_X9_layBits s m args below meth c D cy ad b0 Q 3 22 σ [some (.ref (ad 10)), some (.int z1), none] []) (σ : Sg) (h : wp_X9_layBits_176 v1 s0 s1 K22 Q σ) : gV p l e rm_X9_layBits s m args below meth c D cy ad b0 Q 3 176 σ [some (.ref (ad 10)), some (.int v1), none] [.int s0, .int s1, .ref (ad 10)] := by
  refine g_ior C dX9_layBits_176 ?_
  refine fput_10_19_X9_194 C rfl dX9_layBits_177 (fun σ1 e_σ1 => ?_)
  have h := h σ1 e_σ1
  refine g_aload_n C dX9_layBits_180 rfl ?_
  refine g_dup C dX9_layBits_181 rfl ?_
  refine fget_10_16_X9_188 C rfl dX9_layBits_182 ?_
  refine g_iconst C dX9_layBits_185 kc_1 ?_
  refine g_iadd C dX9_layBits_186 ?_
  refine fput_10_16_X9_188 C rfl dX9_layBits_187 (fun σ2 e_σ2 => ?_)
  have h := h σ2 e_σ2
  exact k_X9_layBits_190 C v1 K22 hK22 σ2 h
def wp_X9_layBits_145 (v1 : Int32) (v2 : Int32) (K22 : Int32 → Sg → Prop) (Q : Sg → Prop) (σ : Sg) : Prop :=
  vp_in v1 (aN 56) ∧ (∀ σ1 : Sg, σ1 = stA σ 56 (Int32.toNatClampNeg v1) (gF σ 10 16) → (((¬ v2 = (nI 72) → wp_X9_layBits_176 v1 (nI 0) (gF σ1 10 19) K22 Q σ1) ∧ (v2 = (nI 72) → wp_X9_layBits_176 v1 ((nI 1) <<< ((gF σ1 10 16) &&& 31)) (gF σ1 10 19) K22 Q σ1))))
set_option maxHeartbeats 4000000 in
set_option maxRecDepth 100000 in
theorem k_X9_layBits_145 {Q : Sg → Prop} (C : Cx p s m args meth c D cy ad b0 yX9_layBits cX9_layBits 3 none) (v1 : Int32) (v2 : Int32) (K22 : Int32 → Sg → Prop) (hK22 : ∀ (z1 : Int32) (σ : Sg), K22 z1 σ → gV p l e rm_X9_layBits s m args below meth c D cy ad b0 Q 3 22 σ [some (.ref (ad 10)), some (.int z1), none] []) (σ : Sg) (h : wp_X9_layBits_145 v1 v2 K22 Q σ) : gV p l e rm_X9_layBits s m args below meth c D cy ad b0 Q 3 145 σ [some (.ref (ad 10)), some (.int v1), some (.int v2)] [] := by
  refine g_aload_n C dX9_layBits_145 rfl ?_
  refine fget_10_17_X9_39 C rfl dX9_layBits_146 ?_
  refine g_iload_n C dX9_layBits_149 rfl ?_
  refine g_aload_n C dX9_layBits_150 rfl ?_
  refine fget_10_16_X9_188 C rfl dX9_layBits_151 ?_
  refine g_iast C (by decide) h.1 dX9_layBits_154 (fun σ1 e_σ1 => ?_)
  have h := h.2 σ1 e_σ1
  refine g_aload_n C dX9_layBits_155 rfl ?_
  refine g_dup C dX9_layBits_156 rfl ?_
  refine fget_10_19_X9_194 C rfl dX9_layBits_157 ?_
  refine g_iload_n C dX9_layBits_160 rfl ?_
  refine g_bipush C dX9_layBits_161 kb_72 ?_
  refine g_icmp_ne C 175 dX9_layBits_163 (by decide) (fun c163 => ?_) (fun c163 => ?_)
  · have h := h.1 c163
    refine g_iconst C dX9_layBits_175 kc_0 ?_
    refine g_mask [true, true, false] rfl ?_
    exact k_X9_layBits_176 C v1 (nI 0) (gF σ1 10 19) K22 hK22 σ1 h
  · have h := h.2 c163
    refine g_iconst C dX9_layBits_166 kc_1 ?_
    refine g_aload_n C dX9_layBits_167 rfl ?_
    refine fget_10_16_X9_188 C rfl dX9_layBits_168 ?_
    refine g_ishl C dX9_layBits_171 ?_
    refine g_goto C 176 dX9_layBits_172 (by decide) ?_
    refine g_mask [true, true, false] rfl ?_
    exact k_X9_layBits_176 C v1 ((nI 1) <<< ((gF σ1 10 16) &&& 31)) (gF σ1 10 19) K22 hK22 σ1 h
def wp_X9_layBits_104 (v1 : Int32) (s0 : Int32) (s1 : Int32) (K22 : Int32 → Sg → Prop) (Q : Sg → Prop) (σ : Sg) : Prop :=
  ∀ σ1 : Sg, σ1 = stF σ 10 18 (s1 ||| s0) → (∀ σ2 : Sg, σ2 = stF σ1 10 15 ((gF σ1 10 15) + (nI 1)) → (wp_X9_layBits_190 v1 K22 Q σ2))
set_option maxHeartbeats 4000000 in
set_option maxRecDepth 100000 in
theorem k_X9_layBits_104 {Q : Sg → Prop} (C : Cx p s m args meth c D cy ad b0 yX9_layBits cX9_layBits 3 none) (v1 : Int32) (s0 : Int32) (s1 : Int32) (K22 : Int32 → Sg → Prop) (hK22 : ∀ (z1 : Int32) (σ : Sg), K22 z1 σ → gV p l e rm_X9_layBits s m args below meth c D cy ad b0 Q 3 22 σ [some (.ref (ad 10)), some (.int z1), none] []) (σ : Sg) (h : wp_X9_layBits_104 v1 s0 s1 K22 Q σ) : gV p l e rm_X9_layBits s m args below meth c D cy ad b0 Q 3 104 σ [some (.ref (ad 10)), some (.int v1), none] [.int s0, .int s1, .ref (ad 10)] := by
  refine g_ior C dX9_layBits_104 ?_
  refine fput_10_18_X9_191 C rfl dX9_layBits_105 (fun σ1 e_σ1 => ?_)
  have h := h σ1 e_σ1
  refine g_aload_n C dX9_layBits_108 rfl ?_
  refine g_dup C dX9_layBits_109 rfl ?_
  refine fget_10_15_X9_185 C rfl dX9_layBits_110 ?_
  refine g_iconst C dX9_layBits_113 kc_1 ?_
  refine g_iadd C dX9_layBits_114 ?_
  refine fput_10_15_X9_185 C rfl dX9_layBits_115 (fun σ2 e_σ2 => ?_)
  have h := h σ2 e_σ2
  refine g_goto C 190 dX9_layBits_118 (by decide) ?_
  exact k_X9_layBits_190 C v1 K22 hK22 σ2 h
def wp_X9_layBits_94 (v1 : Int32) (s0 : Int32) (K22 : Int32 → Sg → Prop) (Q : Sg → Prop) (σ : Sg) : Prop :=
  wp_X9_layBits_104 v1 ((nI 1) <<< ((gF σ 10 15) &&& 31)) s0 K22 Q σ
set_option maxHeartbeats 4000000 in
set_option maxRecDepth 100000 in
theorem k_X9_layBits_94 {Q : Sg → Prop} (C : Cx p s m args meth c D cy ad b0 yX9_layBits cX9_layBits 3 none) (v1 : Int32) (s0 : Int32) (K22 : Int32 → Sg → Prop) (hK22 : ∀ (z1 : Int32) (σ : Sg), K22 z1 σ → gV p l e rm_X9_layBits s m args below meth c D cy ad b0 Q 3 22 σ [some (.ref (ad 10)), some (.int z1), none] []) (σ : Sg) (h : wp_X9_layBits_94 v1 s0 K22 Q σ) : gV p l e rm_X9_layBits s m args below meth c D cy ad b0 Q 3 94 σ [some (.ref (ad 10)), some (.int v1), none] [.int s0, .ref (ad 10)] := by
  refine g_iconst C dX9_layBits_94 kc_1 ?_
  refine g_aload_n C dX9_layBits_95 rfl ?_
  refine fget_10_15_X9_185 C rfl dX9_layBits_96 ?_
  refine g_ishl C dX9_layBits_99 ?_
  refine g_goto C 104 dX9_layBits_100 (by decide) ?_
  exact k_X9_layBits_104 C v1 ((nI 1) <<< ((gF σ 10 15) &&& 31)) s0 K22 hK22 σ h
def wp_X9_layBits_67 (v1 : Int32) (v2 : Int32) (K22 : Int32 → Sg → Prop) (Q : Sg → Prop) (σ : Sg) : Prop :=
  vp_in v1 (aN 56) ∧ (∀ σ1 : Sg, σ1 = stA σ 56 (Int32.toNatClampNeg v1) (gF σ 10 15) → (((v2 = (nI 87) → wp_X9_layBits_94 v1 (gF σ1 10 18) K22 Q σ1) ∧ (¬ v2 = (nI 87) → ((¬ v2 = (nI 71) → wp_X9_layBits_104 v1 (nI 0) (gF σ1 10 18) K22 Q σ1) ∧ (v2 = (nI 71) → wp_X9_layBits_94 v1 (gF σ1 10 18) K22 Q σ1))))))
set_option maxHeartbeats 4000000 in
set_option maxRecDepth 100000 in
theorem k_X9_layBits_67 {Q : Sg → Prop} (C : Cx p s m args meth c D cy ad b0 yX9_layBits cX9_layBits 3 none) (v1 : Int32) (v2 : Int32) (K22 : Int32 → Sg → Prop) (hK22 : ∀ (z1 : Int32) (σ : Sg), K22 z1 σ → gV p l e rm_X9_layBits s m args below meth c D cy ad b0 Q 3 22 σ [some (.ref (ad 10)), some (.int z1), none] []) (σ : Sg) (h : wp_X9_layBits_67 v1 v2 K22 Q σ) : gV p l e rm_X9_layBits s m args below meth c D cy ad b0 Q 3 67 σ [some (.ref (ad 10)), some (.int v1), some (.int v2)] [] := by
  refine g_aload_n C dX9_layBits_67 rfl ?_
  refine fget_10_17_X9_39 C rfl dX9_layBits_68 ?_
  refine g_iload_n C dX9_layBits_71 rfl ?_
  refine g_aload_n C dX9_layBits_72 rfl ?_
  refine fget_10_15_X9_185 C rfl dX9_layBits_73 ?_
  refine g_iast C (by decide) h.1 dX9_layBits_76 (fun σ1 e_σ1 => ?_)
  have h := h.2 σ1 e_σ1
  refine g_aload_n C dX9_layBits_77 rfl ?_
  refine g_dup C dX9_layBits_78 rfl ?_
  refine fget_10_18_X9_191 C rfl dX9_layBits_79 ?_
  refine g_iload_n C dX9_layBits_82 rfl ?_
  refine g_bipush C dX9_layBits_83 kb_87 ?_
  refine g_icmp_eq C 94 dX9_layBits_85 (by decide) (fun c85 => ?_) (fun c85 => ?_)
  · have h := h.1 c85
    refine g_mask [true, true, false] rfl ?_
    exact k_X9_layBits_94 C v1 (gF σ1 10 18) K22 hK22 σ1 h
  · have h := h.2 c85
    refine g_iload_n C dX9_layBits_88 rfl ?_
    refine g_bipush C dX9_layBits_89 kb_71 ?_
    refine g_icmp_ne C 103 dX9_layBits_91 (by decide) (fun c91 => ?_) (fun c91 => ?_)
    · have h := h.1 c91
      refine g_iconst C dX9_layBits_103 kc_0 ?_
      refine g_mask [true, true, false] rfl ?_
      exact k_X9_layBits_104 C v1 (nI 0) (gF σ1 10 18) K22 hK22 σ1 h
    · have h := h.2 c91
      refine g_mask [true, true, false] rfl ?_
      exact k_X9_layBits_94 C v1 (gF σ1 10 18) K22 hK22 σ1 h
def wb_X9_layBits_22 (v1 : Int32) (K22 : Int32 → Sg → Prop) (Q : Sg → Prop) (σ : Sg) : Prop :=
  (((gF σ 10 4) ≤ v1 → Q σ) ∧ (¬ (gF σ 10 4) ≤ v1 → vp_in v1 (aN 48) ∧ (∀ x36 : Int32, x36 = (gA σ 48 (Int32.toNatClampNeg v1)) → (((x36 = (nI 78) → wp_X9_layBits_67 v1 x36 K22 Q σ) ∧ (¬ x36 = (nI 78) → ((x36 = (nI 87) → wp_X9_layBits_67 v1 x36 K22 Q σ) ∧ (¬ x36 = (nI 87) → ((x36 = (nI 71) → wp_X9_layBits_67 v1 x36 K22 Q σ) ∧ (¬ x36 = (nI 71) → ((x36 = (nI 70) → wp_X9_layBits_67 v1 x36 K22 Q σ) ∧ (¬ x36 = (nI 70) → ((¬ x36 = (nI 85) → ((x36 = (nI 89) → wp_X9_layBits_145 v1 x36 K22 Q σ) ∧ (¬ x36 = (nI 89) → ((x36 = (nI 72) → wp_X9_layBits_145 v1 x36 K22 Q σ) ∧ (¬ x36 = (nI 72) → ((x36 = (nI 79) → wp_X9_layBits_145 v1 x36 K22 Q σ) ∧ (¬ x36 = (nI 79) → ((¬ x36 = (nI 83) → wp_X9_layBits_190 v1 K22 Q σ) ∧ (x36 = (nI 83) → wp_X9_layBits_145 v1 x36 K22 Q σ))))))))) ∧ (x36 = (nI 85) → wp_X9_layBits_67 v1 x36 K22 Q σ))))))))))))))
set_option maxHeartbeats 4000000 in
set_option maxRecDepth 100000 in
theorem kb_X9_layBits_22 {Q : Sg → Prop} (C : Cx p s m args meth c D cy ad b0 yX9_layBits cX9_layBits 3 none) (v1 : Int32) (K22 : Int32 → Sg → Prop) (hK22 : ∀ (z1 : Int32) (σ : Sg), K22 z1 σ → gV p l e rm_X9_layBits s m args below meth c D cy ad b0 Q 3 22 σ [some (.ref (ad 10)), some (.int z1), none] []) (σ : Sg) (h : wb_X9_layBits_22 v1 K22 Q σ) : gV p l e rm_X9_layBits s m args below meth c D cy ad b0 Q 3 22 σ [some (.ref (ad 10)), some (.int v1), none] [] := by
  refine g_iload_n C dX9_layBits_22 rfl ?_
  refine g_aload_n C dX9_layBits_23 rfl ?_
  refine fget_10_4_X9_143 C rfl dX9_layBits_24 ?_
  refine g_icmp_ge C 196 dX9_layBits_27 (by decide) (fun c27 => ?_) (fun c27 => ?_)
  · have h := h.1 c27
    exact g_vret C dX9_layBits_196 h
  · have h := h.2 c27
    refine g_aload_n C dX9_layBits_30 rfl ?_
    refine fget_10_5_X9_13 C rfl dX9_layBits_31 ?_
    refine g_iload_n C dX9_layBits_34 rfl ?_
    refine g_iald C (by decide) h.1 dX9_layBits_35 ?_
    have h := h.2
    refine g_topi (fun x36 e_x36 => ?_)
    have h := h x36 e_x36
    refine g_istore_n C [some (.ref (ad 10)), some (.int v1), some (.int x36)] dX9_layBits_36 (by decide) rfl ?_
    refine g_iload_n C dX9_layBits_37 rfl ?_
    refine g_bipush C dX9_layBits_38 kb_78 ?_
    refine g_icmp_eq C 67 dX9_layBits_40 (by decide) (fun c40 => ?_) (fun c40 => ?_)
    · have h := h.1 c40
      exact k_X9_layBits_67 C v1 x36 K22 hK22 σ h
    · have h := h.2 c40
      refine g_iload_n C dX9_layBits_43 rfl ?_
      refine g_bipush C dX9_layBits_44 kb_87 ?_
      refine g_icmp_eq C 67 dX9_layBits_46 (by decide) (fun c46 => ?_) (fun c46 => ?_)
      · have h := h.1 c46
        exact k_X9_layBits_67 C v1 x36 K22 hK22 σ h
      · have h := h.2 c46
        refine g_iload_n C dX9_layBits_49 rfl ?_
        refine g_bipush C dX9_layBits_50 kb_71 ?_
        refine g_icmp_eq C 67 dX9_layBits_52 (by decide) (fun c52 => ?_) (fun c52 => ?_)
        · have h := h.1 c52
          exact k_X9_layBits_67 C v1 x36 K22 hK22 σ h
        · have h := h.2 c52
          refine g_iload_n C dX9_layBits_55 rfl ?_
          refine g_bipush C dX9_layBits_56 kb_70 ?_
          refine g_icmp_eq C 67 dX9_layBits_58 (by decide) (fun c58 => ?_) (fun c58 => ?_)
          · have h := h.1 c58
            exact k_X9_layBits_67 C v1 x36 K22 hK22 σ h
          · have h := h.2 c58
            refine g_iload_n C dX9_layBits_61 rfl ?_
            refine g_bipush C dX9_layBits_62 kb_85 ?_
            refine g_icmp_ne C 121 dX9_layBits_64 (by decide) (fun c64 => ?_) (fun c64 => ?_)
            · have h := h.1 c64
              refine g_iload_n C dX9_layBits_121 rfl ?_
              refine g_bipush C dX9_layBits_122 kb_89 ?_
              refine g_icmp_eq C 145 dX9_layBits_124 (by decide) (fun c124 => ?_) (fun c124 => ?_)
              · have h := h.1 c124
                exact k_X9_layBits_145 C v1 x36 K22 hK22 σ h
              · have h := h.2 c124
                refine g_iload_n C dX9_layBits_127 rfl ?_
                refine g_bipush C dX9_layBits_128 kb_72 ?_
                refine g_icmp_eq C 145 dX9_layBits_130 (by decide) (fun c130 => ?_) (fun c130 => ?_)
                · have h := h.1 c130
                  exact k_X9_layBits_145 C v1 x36 K22 hK22 σ h
                · have h := h.2 c130
                  refine g_iload_n C dX9_layBits_133 rfl ?_
                  refine g_bipush C dX9_layBits_134 kb_79 ?_
                  refine g_icmp_eq C 145 dX9_layBits_136 (by decide) (fun c136 => ?_) (fun c136 => ?_)
                  · have h := h.1 c136
                    exact k_X9_layBits_145 C v1 x36 K22 hK22 σ h
                  · have h := h.2 c136
                    refine g_iload_n C dX9_layBits_139 rfl ?_
                    refine g_bipush C dX9_layBits_140 kb_83 ?_
                    refine g_icmp_ne C 190 dX9_layBits_142 (by decide) (fun c142 => ?_) (fun c142 => ?_)
                    · have h := h.1 c142
                      refine g_mask [true, true, false] rfl ?_
                      exact k_X9_layBits_190 C v1 K22 hK22 σ h
                    · have h := h.2 c142
                      exact k_X9_layBits_145 C v1 x36 K22 hK22 σ h
            · have h := h.2 c64
              exact k_X9_layBits_67 C v1 x36 K22 hK22 σ h
def wl_X9_layBits_22 (Q : Sg → Prop) : Nat → Int32 → Sg → Prop
  | 0, _, _ => False
  | n + 1, v1, σ => wb_X9_layBits_22 v1 (wl_X9_layBits_22 Q n) Q σ
set_option maxHeartbeats 4000000 in
set_option maxRecDepth 100000 in
theorem kl_X9_layBits_22 {Q : Sg → Prop} (C : Cx p s m args meth c D cy ad b0 yX9_layBits cX9_layBits 3 none) : ∀ (n : Nat) (v1 : Int32) (σ : Sg), wl_X9_layBits_22 Q n v1 σ → gV p l e rm_X9_layBits s m args below meth c D cy ad b0 Q 3 22 σ [some (.ref (ad 10)), some (.int v1), none] [] := by
  intro n
  induction n with
  | zero => intro v1 σ h; exact False.elim h
  | succ n ih =>
    intro v1 σ h
    exact kb_X9_layBits_22 C v1 (wl_X9_layBits_22 Q n) (fun z1 σ h => ih z1 σ h) σ h
def wp_X9_layBits (σ : Sg) (Q : Sg → Prop) : Prop :=
  ∀ σ1 : Sg, σ1 = stF σ 10 15 (nI 0) → (∀ σ2 : Sg, σ2 = stF σ1 10 16 (nI 0) → (∀ σ3 : Sg, σ3 = stF σ2 10 18 (nI 0) → (∀ σ4 : Sg, σ4 = stF σ3 10 19 (nI 0) → (∃ n, wl_X9_layBits_22 Q n (nI 0) σ4))))
set_option maxHeartbeats 4000000 in
set_option maxRecDepth 100000 in
theorem c_X9_layBits (l : Launch) (D : va_G) (cy : Nat → ClassId) (ad : Nat → Nat) (b0 : Nat) (hA : AdOk ad b0) : Ctv l D cy ad b0 yX9_layBits cX9_layBits 3 none rm_X9_layBits [.ref (ad 10)] (fun σ Q => wp_X9_layBits σ Q) := by
  intro σ Q h
  refine g_enter hA rfl (Nat.le_of_ble_eq_true rfl) [some (.ref (ad 10)), none, none] rfl ?_
  intro p e s m args below meth c C
  refine g_aload_n C dX9_layBits_0 rfl ?_
  refine g_iconst C dX9_layBits_1 kc_0 ?_
  refine fput_10_15_X9_185 C rfl dX9_layBits_2 (fun σ1 e_σ1 => ?_)
  have h := h σ1 e_σ1
  refine g_aload_n C dX9_layBits_5 rfl ?_
  refine g_iconst C dX9_layBits_6 kc_0 ?_
  refine fput_10_16_X9_188 C rfl dX9_layBits_7 (fun σ2 e_σ2 => ?_)
  have h := h σ2 e_σ2
  refine g_aload_n C dX9_layBits_10 rfl ?_
  refine g_iconst C dX9_layBits_11 kc_0 ?_
  refine fput_10_18_X9_191 C rfl dX9_layBits_12 (fun σ3 e_σ3 => ?_)
  have h := h σ3 e_σ3
  refine g_aload_n C dX9_layBits_15 rfl ?_
  refine g_iconst C dX9_layBits_16 kc_0 ?_
  refine fput_10_19_X9_194 C rfl dX9_layBits_17 (fun σ4 e_σ4 => ?_)
  have h := h σ4 e_σ4
  refine g_iconst C dX9_layBits_20 kc_0 ?_
  refine g_istore_n C [some (.ref (ad 10)), some (.int (nI 0)), none] dX9_layBits_21 (by decide) rfl ?_
  obtain ⟨n, h⟩ := h
  exact kl_X9_layBits_22 C n (nI 0) σ4 h
def rm_X9_look : Room := { frames := 0, cells := 0, slots := 0, locals := 0 }
def wp_X9_look_598 (v1 : Int32) (v2 : Int32) (v3 : Int32) (v4 : Int32) (s0 : Int32) (s1 : Int32) (K13 : Int32 → Sg → Prop) (Q : Sg → Prop) (σ : Sg) : Prop :=
  ∀ σ1 : Sg, σ1 = stF σ 10 21 (s1 ||| s0) → (∀ x602 : Int32, x602 = v4 + (nI 1) → (K13 x602 σ1))
set_option maxHeartbeats 4000000 in
set_option maxRecDepth 100000 in
theorem k_X9_look_598 {Q : Sg → Prop} (C : Cx p s m args meth c D cy ad b0 yX9_look cX9_look 13 none) (v1 : Int32) (v2 : Int32) (v3 : Int32) (v4 : Int32) (s0 : Int32) (s1 : Int32) (K13 : Int32 → Sg → Prop) (hK13 : ∀ (z4 : Int32) (σ : Sg), K13 z4 σ → gV p l e rm_X9_look s m args below meth c D cy ad b0 Q 13 13 σ [some (.ref (ad 10)), some (.int v1), some (.int v2), some (.int v3), some (.int z4), none, none, none, none, none, none, none, none] []) (σ : Sg) (h : wp_X9_look_598 v1 v2 v3 v4 s0 s1 K13 Q σ) : gV p l e rm_X9_look s m args below meth c D cy ad b0 Q 13 598 σ [some (.ref (ad 10)), some (.int v1), some (.int v2), some (.int v3), some (.int v4), none, none, none, none, none, none, none, none] [.int s0, .int s1, .ref (ad 10)] := by
  refine g_ior C dX9_look_598 ?_
  refine fput_10_21_X9_197 C rfl dX9_look_599 (fun σ1 e_σ1 => ?_)
  have h := h σ1 e_σ1
  obtain ⟨x602, e_x602⟩ : ∃ v : Int32, v = v4 + (nI 1) := ⟨_, rfl⟩
  have h := h x602 e_x602
  refine g_iinc C [some (.ref (ad 10)), some (.int v1), some (.int v2), some (.int v3), some (.int x602), none, none, none, none, none, none, none, none] dX9_look_602 rfl e_x602.symm (by decide) rfl ?_
  refine g_goto C 13 dX9_look_605 (by decide) ?_
  exact hK13 x602 σ1 h
def wp_X9_look_571 (v1 : Int32) (v2 : Int32) (v3 : Int32) (v4 : Int32) (v12 : Int32) (s0 : Int32) (s1 : Int32) (K13 : Int32 → Sg → Prop) (Q : Sg → Prop) (σ : Sg) : Prop :=
  ∀ σ1 : Sg, σ1 = stF σ 10 22 (s1 ||| s0) → (((v12 = (nI 0) → wp_X9_look_598 v1 v2 v3 v4 (nI 0) (gF σ1 10 21) K13 Q σ1) ∧ (¬ v12 = (nI 0) → vp_in v4 (aN 56) ∧ (wp_X9_look_598 v1 v2 v3 v4 ((nI 1) <<< ((gA σ1 56 (Int32.toNatClampNeg v4)) &&& 31)) (gF σ1 10 21) K13 Q σ1))))
set_option maxHeartbeats 4000000 in
set_option maxRecDepth 100000 in
theorem k_X9_look_571 {Q : Sg → Prop} (C : Cx p s m args meth c D cy ad b0 yX9_look cX9_look 13 none) (v1 : Int32) (v2 : Int32) (v3 : Int32) (v4 : Int32) (v12 : Int32) (s0 : Int32) (s1 : Int32) (K13 : Int32 → Sg → Prop) (hK13 : ∀ (z4 : Int32) (σ : Sg), K13 z4 σ → gV p l e rm_X9_look s m args below meth c D cy ad b0 Q 13 13 σ [some (.ref (ad 10)), some (.int v1), some (.int v2), some (.int v3), some (.int z4), none, none, none, none, none, none, none, none] []) (σ : Sg) (h : wp_X9_look_571 v1 v2 v3 v4 v12 s0 s1 K13 Q σ) : gV p l e rm_X9_look s m args below meth c D cy ad b0 Q 13 571 σ [some (.ref (ad 10)), some (.int v1), some (.int v2), some (.int v3), some (.int v4), none, none, none, none, none, none, none, some (.int v12)] [.int s0, .int s1, .ref (ad 10)] := by
  refine g_ior C dX9_look_571 ?_
  refine fput_10_22_X9_200 C rfl dX9_look_572 (fun σ1 e_σ1 => ?_)
  have h := h σ1 e_σ1
  refine g_aload_n C dX9_look_575 rfl ?_
  refine g_dup C dX9_look_576 rfl ?_
  refine fget_10_21_X9_197 C rfl dX9_look_577 ?_
  refine g_iload C dX9_look_580 rfl ?_
  refine g_if_eq C 597 dX9_look_582 (by decide) (fun c582 => ?_) (fun c582 => ?_)
  · have h := h.1 c582
    refine g_iconst C dX9_look_597 kc_0 ?_
    refine g_mask [true, true, true, true, true, false, false, false, false, false, false, false, false] rfl ?_
    exact k_X9_look_598 C v1 v2 v3 v4 (nI 0) (gF σ1 10 21) K13 hK13 σ1 h
  · have h := h.2 c582
    refine g_iconst C dX9_look_585 kc_1 ?_
    refine g_aload_n C dX9_look_586 rfl ?_
    refine fget_10_17_X9_39 C rfl dX9_look_587 ?_
    refine g_iload C dX9_look_590 rfl ?_
    refine g_iald C (by decide) h.1 dX9_look_592 ?_
    have h := h.2
    refine g_ishl C dX9_look_593 ?_
    refine g_goto C 598 dX9_look_594 (by decide) ?_
    refine g_mask [true, true, true, true, true, false, false, false, false, false, false, false, false] rfl ?_
    exact k_X9_look_598 C v1 v2 v3 v4 ((nI 1) <<< ((gA σ1 56 (Int32.toNatClampNeg v4)) &&& 31)) (gF σ1 10 21) K13 hK13 σ1 h
def wp_X9_look_539 (v1 : Int32) (v2 : Int32) (v3 : Int32) (v4 : Int32) (v10 : Int32) (v11 : Int32) (v12 : Int32) (K13 : Int32 → Sg → Prop) (Q : Sg → Prop) (σ : Sg) : Prop :=
  vp_in v4 (aN 57) ∧ (∀ σ1 : Sg, σ1 = stA σ 57 (Int32.toNatClampNeg v4) (vp_nar .boolean v10) → (((v11 = (nI 0) → wp_X9_look_571 v1 v2 v3 v4 v12 (nI 0) (gF σ1 10 22) K13 Q σ1) ∧ (¬ v11 = (nI 0) → vp_in v4 (aN 56) ∧ (wp_X9_look_571 v1 v2 v3 v4 v12 ((nI 1) <<< ((gA σ1 56 (Int32.toNatClampNeg v4)) &&& 31)) (gF σ1 10 22) K13 Q σ1)))))
set_option maxHeartbeats 4000000 in
set_option maxRecDepth 100000 in
theorem k_X9_look_539 {Q : Sg → Prop} (C : Cx p s m args meth c D cy ad b0 yX9_look cX9_look 13 none) (v1 : Int32) (v2 : Int32) (v3 : Int32) (v4 : Int32) (v10 : Int32) (v11 : Int32) (v12 : Int32) (K13 : Int32 → Sg → Prop) (hK13 : ∀ (z4 : Int32) (σ : Sg), K13 z4 σ → gV p l e rm_X9_look s m args below meth c D cy ad b0 Q 13 13 σ [some (.ref (ad 10)), some (.int v1), some (.int v2), some (.int v3), some (.int z4), none, none, none, none, none, none, none, none] []) (σ : Sg) (h : wp_X9_look_539 v1 v2 v3 v4 v10 v11 v12 K13 Q σ) : gV p l e rm_X9_look s m args below meth c D cy ad b0 Q 13 539 σ [some (.ref (ad 10)), some (.int v1), some (.int v2), some (.int v3), some (.int v4), none, none, none, none, none, some (.int v10), some (.int v11), some (.int v12)] [] := by
  refine g_aload_n C dX9_look_539 rfl ?_
  refine fget_10_20_X9_42 C rfl dX9_look_540 ?_
  refine g_iload C dX9_look_543 rfl ?_
  refine g_iload C dX9_look_545 rfl ?_
  refine g_zast C (by decide) h.1 dX9_look_547 (fun σ1 e_σ1 => ?_)
  have h := h.2 σ1 e_σ1
  refine g_aload_n C dX9_look_548 rfl ?_
  refine g_dup C dX9_look_549 rfl ?_
  refine fget_10_22_X9_200 C rfl dX9_look_550 ?_
  refine g_iload C dX9_look_553 rfl ?_
  refine g_if_eq C 570 dX9_look_555 (by decide) (fun c555 => ?_) (fun c555 => ?_)
  · have h := h.1 c555
    refine g_iconst C dX9_look_570 kc_0 ?_
    refine g_mask [true, true, true, true, true, false, false, false, false, false, false, false, true] rfl ?_
    exact k_X9_look_571 C v1 v2 v3 v4 v12 (nI 0) (gF σ1 10 22) K13 hK13 σ1 h
  · have h := h.2 c555
    refine g_iconst C dX9_look_558 kc_1 ?_
    refine g_aload_n C dX9_look_559 rfl ?_
    refine fget_10_17_X9_39 C rfl dX9_look_560 ?_
    refine g_iload C dX9_look_563 rfl ?_
    refine g_iald C (by decide) h.1 dX9_look_565 ?_
    have h := h.2
    refine g_ishl C dX9_look_566 ?_
    refine g_goto C 571 dX9_look_567 (by decide) ?_
    refine g_mask [true, true, true, true, true, false, false, false, false, false, false, false, true] rfl ?_
    exact k_X9_look_571 C v1 v2 v3 v4 v12 ((nI 1) <<< ((gA σ1 56 (Int32.toNatClampNeg v4)) &&& 31)) (gF σ1 10 22) K13 hK13 σ1 h
def wp_X9_look_530 (v1 : Int32) (v2 : Int32) (v3 : Int32) (v4 : Int32) (v11 : Int32) (s0 : Int32) (K13 : Int32 → Sg → Prop) (Q : Sg → Prop) (σ : Sg) : Prop :=
  wp_X9_look_539 v1 v2 v3 v4 s0 v11 s0 K13 Q σ
set_option maxHeartbeats 4000000 in
set_option maxRecDepth 100000 in
theorem k_X9_look_530 {Q : Sg → Prop} (C : Cx p s m args meth c D cy ad b0 yX9_look cX9_look 13 none) (v1 : Int32) (v2 : Int32) (v3 : Int32) (v4 : Int32) (v11 : Int32) (s0 : Int32) (K13 : Int32 → Sg → Prop) (hK13 : ∀ (z4 : Int32) (σ : Sg), K13 z4 σ → gV p l e rm_X9_look s m args below meth c D cy ad b0 Q 13 13 σ [some (.ref (ad 10)), some (.int v1), some (.int v2), some (.int v3), some (.int z4), none, none, none, none, none, none, none, none] []) (σ : Sg) (h : wp_X9_look_530 v1 v2 v3 v4 v11 s0 K13 Q σ) : gV p l e rm_X9_look s m args below meth c D cy ad b0 Q 13 530 σ [some (.ref (ad 10)), some (.int v1), some (.int v2), some (.int v3), some (.int v4), none, none, none, none, none, none, some (.int v11), none] [.int s0] := by
  refine g_istore C [some (.ref (ad 10)), some (.int v1), some (.int v2), some (.int v3), some (.int v4), none, none, none, none, none, some (.int s0), some (.int v11), none] dX9_look_530 (by decide) rfl ?_
  refine g_iload C dX9_look_532 rfl ?_
  refine g_istore C [some (.ref (ad 10)), some (.int v1), some (.int v2), some (.int v3), some (.int v4), none, none, none, none, none, some (.int s0), some (.int v11), some (.int s0)] dX9_look_534 (by decide) rfl ?_
  refine g_goto C 539 dX9_look_536 (by decide) ?_
  exact k_X9_look_539 C v1 v2 v3 v4 s0 v11 s0 K13 hK13 σ h
def wp_X9_look_529 (v1 : Int32) (v2 : Int32) (v3 : Int32) (v4 : Int32) (v11 : Int32) (K13 : Int32 → Sg → Prop) (Q : Sg → Prop) (σ : Sg) : Prop :=
  wp_X9_look_530 v1 v2 v3 v4 v11 (nI 0) K13 Q σ
set_option maxHeartbeats 4000000 in
set_option maxRecDepth 100000 in
theorem k_X9_look_529 {Q : Sg → Prop} (C : Cx p s m args meth c D cy ad b0 yX9_look cX9_look 13 none) (v1 : Int32) (v2 : Int32) (v3 : Int32) (v4 : Int32) (v11 : Int32) (K13 : Int32 → Sg → Prop) (hK13 : ∀ (z4 : Int32) (σ : Sg), K13 z4 σ → gV p l e rm_X9_look s m args below meth c D cy ad b0 Q 13 13 σ [some (.ref (ad 10)), some (.int v1), some (.int v2), some (.int v3), some (.int z4), none, none, none, none, none, none, none, none] []) (σ : Sg) (h : wp_X9_look_529 v1 v2 v3 v4 v11 K13 Q σ) : gV p l e rm_X9_look s m args below meth c D cy ad b0 Q 13 529 σ [some (.ref (ad 10)), some (.int v1), some (.int v2), some (.int v3), some (.int v4), none, none, none, none, none, none, some (.int v11), none] [] := by
  refine g_iconst C dX9_look_529 kc_0 ?_
  exact k_X9_look_530 C v1 v2 v3 v4 v11 (nI 0) K13 hK13 σ h
def wp_X9_look_525 (v1 : Int32) (v2 : Int32) (v3 : Int32) (v4 : Int32) (v11 : Int32) (K13 : Int32 → Sg → Prop) (Q : Sg → Prop) (σ : Sg) : Prop :=
  wp_X9_look_530 v1 v2 v3 v4 v11 (nI 1) K13 Q σ
set_option maxHeartbeats 4000000 in
set_option maxRecDepth 100000 in
theorem k_X9_look_525 {Q : Sg → Prop} (C : Cx p s m args meth c D cy ad b0 yX9_look cX9_look 13 none) (v1 : Int32) (v2 : Int32) (v3 : Int32) (v4 : Int32) (v11 : Int32) (K13 : Int32 → Sg → Prop) (hK13 : ∀ (z4 : Int32) (σ : Sg), K13 z4 σ → gV p l e rm_X9_look s m args below meth c D cy ad b0 Q 13 13 σ [some (.ref (ad 10)), some (.int v1), some (.int v2), some (.int v3), some (.int z4), none, none, none, none, none, none, none, none] []) (σ : Sg) (h : wp_X9_look_525 v1 v2 v3 v4 v11 K13 Q σ) : gV p l e rm_X9_look s m args below meth c D cy ad b0 Q 13 525 σ [some (.ref (ad 10)), some (.int v1), some (.int v2), some (.int v3), some (.int v4), none, none, none, none, none, none, some (.int v11), none] [] := by
  refine g_iconst C dX9_look_525 kc_1 ?_
  refine g_goto C 530 dX9_look_526 (by decide) ?_
  exact k_X9_look_530 C v1 v2 v3 v4 v11 (nI 1) K13 hK13 σ h
def wp_X9_look_501 (v1 : Int32) (v2 : Int32) (v3 : Int32) (v4 : Int32) (v11 : Int32) (s0 : Int32) (K13 : Int32 → Sg → Prop) (Q : Sg → Prop) (σ : Sg) : Prop :=
  wp_X9_look_539 v1 v2 v3 v4 s0 v11 s0 K13 Q σ
set_option maxHeartbeats 4000000 in
set_option maxRecDepth 100000 in
theorem k_X9_look_501 {Q : Sg → Prop} (C : Cx p s m args meth c D cy ad b0 yX9_look cX9_look 13 none) (v1 : Int32) (v2 : Int32) (v3 : Int32) (v4 : Int32) (v11 : Int32) (s0 : Int32) (K13 : Int32 → Sg → Prop) (hK13 : ∀ (z4 : Int32) (σ : Sg), K13 z4 σ → gV p l e rm_X9_look s m args below meth c D cy ad b0 Q 13 13 σ [some (.ref (ad 10)), some (.int v1), some (.int v2), some (.int v3), some (.int z4), none, none, none, none, none, none, none, none] []) (σ : Sg) (h : wp_X9_look_501 v1 v2 v3 v4 v11 s0 K13 Q σ) : gV p l e rm_X9_look s m args below meth c D cy ad b0 Q 13 501 σ [some (.ref (ad 10)), some (.int v1), some (.int v2), some (.int v3), some (.int v4), none, none, none, none, none, none, some (.int v11), none] [.int s0] := by
  refine g_istore C [some (.ref (ad 10)), some (.int v1), some (.int v2), some (.int v3), some (.int v4), none, none, none, none, none, some (.int s0), some (.int v11), none] dX9_look_501 (by decide) rfl ?_
  refine g_iload C dX9_look_503 rfl ?_
  refine g_istore C [some (.ref (ad 10)), some (.int v1), some (.int v2), some (.int v3), some (.int v4), none, none, none, none, none, some (.int s0), some (.int v11), some (.int s0)] dX9_look_505 (by decide) rfl ?_
  refine g_goto C 539 dX9_look_507 (by decide) ?_
  exact k_X9_look_539 C v1 v2 v3 v4 s0 v11 s0 K13 hK13 σ h
def wp_X9_look_496 (v1 : Int32) (v2 : Int32) (v3 : Int32) (v4 : Int32) (v11 : Int32) (K13 : Int32 → Sg → Prop) (Q : Sg → Prop) (σ : Sg) : Prop :=
  wp_X9_look_501 v1 v2 v3 v4 v11 (nI 1) K13 Q σ
set_option maxHeartbeats 4000000 in
set_option maxRecDepth 100000 in
theorem k_X9_look_496 {Q : Sg → Prop} (C : Cx p s m args meth c D cy ad b0 yX9_look cX9_look 13 none) (v1 : Int32) (v2 : Int32) (v3 : Int32) (v4 : Int32) (v11 : Int32) (K13 : Int32 → Sg → Prop) (hK13 : ∀ (z4 : Int32) (σ : Sg), K13 z4 σ → gV p l e rm_X9_look s m args below meth c D cy ad b0 Q 13 13 σ [some (.ref (ad 10)), some (.int v1), some (.int v2), some (.int v3), some (.int z4), none, none, none, none, none, none, none, none] []) (σ : Sg) (h : wp_X9_look_496 v1 v2 v3 v4 v11 K13 Q σ) : gV p l e rm_X9_look s m args below meth c D cy ad b0 Q 13 496 σ [some (.ref (ad 10)), some (.int v1), some (.int v2), some (.int v3), some (.int v4), none, none, none, none, none, none, some (.int v11), none] [] := by
  refine g_iconst C dX9_look_496 kc_1 ?_
  refine g_goto C 501 dX9_look_497 (by decide) ?_
  exact k_X9_look_501 C v1 v2 v3 v4 v11 (nI 1) K13 hK13 σ h
def wp_X9_look_477 (v1 : Int32) (v2 : Int32) (v3 : Int32) (v4 : Int32) (v11 : Int32) (s0 : Int32) (K13 : Int32 → Sg → Prop) (Q : Sg → Prop) (σ : Sg) : Prop :=
  wp_X9_look_539 v1 v2 v3 v4 s0 v11 s0 K13 Q σ
set_option maxHeartbeats 4000000 in
set_option maxRecDepth 100000 in
theorem k_X9_look_477 {Q : Sg → Prop} (C : Cx p s m args meth c D cy ad b0 yX9_look cX9_look 13 none) (v1 : Int32) (v2 : Int32) (v3 : Int32) (v4 : Int32) (v11 : Int32) (s0 : Int32) (K13 : Int32 → Sg → Prop) (hK13 : ∀ (z4 : Int32) (σ : Sg), K13 z4 σ → gV p l e rm_X9_look s m args below meth c D cy ad b0 Q 13 13 σ [some (.ref (ad 10)), some (.int v1), some (.int v2), some (.int v3), some (.int z4), none, none, none, none, none, none, none, none] []) (σ : Sg) (h : wp_X9_look_477 v1 v2 v3 v4 v11 s0 K13 Q σ) : gV p l e rm_X9_look s m args below meth c D cy ad b0 Q 13 477 σ [some (.ref (ad 10)), some (.int v1), some (.int v2), some (.int v3), some (.int v4), none, none, none, none, none, none, some (.int v11), none] [.int s0] := by
  refine g_istore C [some (.ref (ad 10)), some (.int v1), some (.int v2), some (.int v3), some (.int v4), none, none, none, none, none, some (.int s0), some (.int v11), none] dX9_look_477 (by decide) rfl ?_
  refine g_iload C dX9_look_479 rfl ?_
  refine g_istore C [some (.ref (ad 10)), some (.int v1), some (.int v2), some (.int v3), some (.int v4), none, none, none, none, none, some (.int s0), some (.int v11), some (.int s0)] dX9_look_481 (by decide) rfl ?_
  refine g_goto C 539 dX9_look_483 (by decide) ?_
  exact k_X9_look_539 C v1 v2 v3 v4 s0 v11 s0 K13 hK13 σ h
def wp_X9_look_476 (v1 : Int32) (v2 : Int32) (v3 : Int32) (v4 : Int32) (v11 : Int32) (K13 : Int32 → Sg → Prop) (Q : Sg → Prop) (σ : Sg) : Prop :=
  wp_X9_look_477 v1 v2 v3 v4 v11 (nI 0) K13 Q σ
set_option maxHeartbeats 4000000 in
set_option maxRecDepth 100000 in
theorem k_X9_look_476 {Q : Sg → Prop} (C : Cx p s m args meth c D cy ad b0 yX9_look cX9_look 13 none) (v1 : Int32) (v2 : Int32) (v3 : Int32) (v4 : Int32) (v11 : Int32) (K13 : Int32 → Sg → Prop) (hK13 : ∀ (z4 : Int32) (σ : Sg), K13 z4 σ → gV p l e rm_X9_look s m args below meth c D cy ad b0 Q 13 13 σ [some (.ref (ad 10)), some (.int v1), some (.int v2), some (.int v3), some (.int z4), none, none, none, none, none, none, none, none] []) (σ : Sg) (h : wp_X9_look_476 v1 v2 v3 v4 v11 K13 Q σ) : gV p l e rm_X9_look s m args below meth c D cy ad b0 Q 13 476 σ [some (.ref (ad 10)), some (.int v1), some (.int v2), some (.int v3), some (.int v4), none, none, none, none, none, none, some (.int v11), none] [] := by
  refine g_iconst C dX9_look_476 kc_0 ?_
  exact k_X9_look_477 C v1 v2 v3 v4 v11 (nI 0) K13 hK13 σ h
def wp_X9_look_442 (v1 : Int32) (v2 : Int32) (v3 : Int32) (v4 : Int32) (v12 : Int32) (s0 : Int32) (K13 : Int32 → Sg → Prop) (Q : Sg → Prop) (σ : Sg) : Prop :=
  wp_X9_look_539 v1 v2 v3 v4 s0 s0 v12 K13 Q σ
set_option maxHeartbeats 4000000 in
set_option maxRecDepth 100000 in
theorem k_X9_look_442 {Q : Sg → Prop} (C : Cx p s m args meth c D cy ad b0 yX9_look cX9_look 13 none) (v1 : Int32) (v2 : Int32) (v3 : Int32) (v4 : Int32) (v12 : Int32) (s0 : Int32) (K13 : Int32 → Sg → Prop) (hK13 : ∀ (z4 : Int32) (σ : Sg), K13 z4 σ → gV p l e rm_X9_look s m args below meth c D cy ad b0 Q 13 13 σ [some (.ref (ad 10)), some (.int v1), some (.int v2), some (.int v3), some (.int z4), none, none, none, none, none, none, none, none] []) (σ : Sg) (h : wp_X9_look_442 v1 v2 v3 v4 v12 s0 K13 Q σ) : gV p l e rm_X9_look s m args below meth c D cy ad b0 Q 13 442 σ [some (.ref (ad 10)), some (.int v1), some (.int v2), some (.int v3), some (.int v4), none, none, none, none, none, none, none, some (.int v12)] [.int s0] := by
  refine g_istore C [some (.ref (ad 10)), some (.int v1), some (.int v2), some (.int v3), some (.int v4), none, none, none, none, none, some (.int s0), none, some (.int v12)] dX9_look_442 (by decide) rfl ?_
  refine g_iload C dX9_look_444 rfl ?_
  refine g_istore C [some (.ref (ad 10)), some (.int v1), some (.int v2), some (.int v3), some (.int v4), none, none, none, none, none, some (.int s0), some (.int s0), some (.int v12)] dX9_look_446 (by decide) rfl ?_
  refine g_goto C 539 dX9_look_448 (by decide) ?_
  exact k_X9_look_539 C v1 v2 v3 v4 s0 s0 v12 K13 hK13 σ h
def wp_X9_look_441 (v1 : Int32) (v2 : Int32) (v3 : Int32) (v4 : Int32) (v12 : Int32) (K13 : Int32 → Sg → Prop) (Q : Sg → Prop) (σ : Sg) : Prop :=
  wp_X9_look_442 v1 v2 v3 v4 v12 (nI 0) K13 Q σ
set_option maxHeartbeats 4000000 in
set_option maxRecDepth 100000 in
theorem k_X9_look_441 {Q : Sg → Prop} (C : Cx p s m args meth c D cy ad b0 yX9_look cX9_look 13 none) (v1 : Int32) (v2 : Int32) (v3 : Int32) (v4 : Int32) (v12 : Int32) (K13 : Int32 → Sg → Prop) (hK13 : ∀ (z4 : Int32) (σ : Sg), K13 z4 σ → gV p l e rm_X9_look s m args below meth c D cy ad b0 Q 13 13 σ [some (.ref (ad 10)), some (.int v1), some (.int v2), some (.int v3), some (.int z4), none, none, none, none, none, none, none, none] []) (σ : Sg) (h : wp_X9_look_441 v1 v2 v3 v4 v12 K13 Q σ) : gV p l e rm_X9_look s m args below meth c D cy ad b0 Q 13 441 σ [some (.ref (ad 10)), some (.int v1), some (.int v2), some (.int v3), some (.int v4), none, none, none, none, none, none, none, some (.int v12)] [] := by
  refine g_iconst C dX9_look_441 kc_0 ?_
  exact k_X9_look_442 C v1 v2 v3 v4 v12 (nI 0) K13 hK13 σ h
def wp_X9_look_437 (v1 : Int32) (v2 : Int32) (v3 : Int32) (v4 : Int32) (v12 : Int32) (K13 : Int32 → Sg → Prop) (Q : Sg → Prop) (σ : Sg) : Prop :=
  wp_X9_look_442 v1 v2 v3 v4 v12 (nI 1) K13 Q σ
set_option maxHeartbeats 4000000 in
set_option maxRecDepth 100000 in
theorem k_X9_look_437 {Q : Sg → Prop} (C : Cx p s m args meth c D cy ad b0 yX9_look cX9_look 13 none) (v1 : Int32) (v2 : Int32) (v3 : Int32) (v4 : Int32) (v12 : Int32) (K13 : Int32 → Sg → Prop) (hK13 : ∀ (z4 : Int32) (σ : Sg), K13 z4 σ → gV p l e rm_X9_look s m args below meth c D cy ad b0 Q 13 13 σ [some (.ref (ad 10)), some (.int v1), some (.int v2), some (.int v3), some (.int z4), none, none, none, none, none, none, none, none] []) (σ : Sg) (h : wp_X9_look_437 v1 v2 v3 v4 v12 K13 Q σ) : gV p l e rm_X9_look s m args below meth c D cy ad b0 Q 13 437 σ [some (.ref (ad 10)), some (.int v1), some (.int v2), some (.int v3), some (.int v4), none, none, none, none, none, none, none, some (.int v12)] [] := by
  refine g_iconst C dX9_look_437 kc_1 ?_
  refine g_goto C 442 dX9_look_438 (by decide) ?_
  exact k_X9_look_442 C v1 v2 v3 v4 v12 (nI 1) K13 hK13 σ h
def wp_X9_look_413 (v1 : Int32) (v2 : Int32) (v3 : Int32) (v4 : Int32) (v12 : Int32) (s0 : Int32) (K13 : Int32 → Sg → Prop) (Q : Sg → Prop) (σ : Sg) : Prop :=
  wp_X9_look_539 v1 v2 v3 v4 s0 s0 v12 K13 Q σ
set_option maxHeartbeats 4000000 in
set_option maxRecDepth 100000 in
theorem k_X9_look_413 {Q : Sg → Prop} (C : Cx p s m args meth c D cy ad b0 yX9_look cX9_look 13 none) (v1 : Int32) (v2 : Int32) (v3 : Int32) (v4 : Int32) (v12 : Int32) (s0 : Int32) (K13 : Int32 → Sg → Prop) (hK13 : ∀ (z4 : Int32) (σ : Sg), K13 z4 σ → gV p l e rm_X9_look s m args below meth c D cy ad b0 Q 13 13 σ [some (.ref (ad 10)), some (.int v1), some (.int v2), some (.int v3), some (.int z4), none, none, none, none, none, none, none, none] []) (σ : Sg) (h : wp_X9_look_413 v1 v2 v3 v4 v12 s0 K13 Q σ) : gV p l e rm_X9_look s m args below meth c D cy ad b0 Q 13 413 σ [some (.ref (ad 10)), some (.int v1), some (.int v2), some (.int v3), some (.int v4), none, none, none, none, none, none, none, some (.int v12)] [.int s0] := by
  refine g_istore C [some (.ref (ad 10)), some (.int v1), some (.int v2), some (.int v3), some (.int v4), none, none, none, none, none, some (.int s0), none, some (.int v12)] dX9_look_413 (by decide) rfl ?_
  refine g_iload C dX9_look_415 rfl ?_
  refine g_istore C [some (.ref (ad 10)), some (.int v1), some (.int v2), some (.int v3), some (.int v4), none, none, none, none, none, some (.int s0), some (.int s0), some (.int v12)] dX9_look_417 (by decide) rfl ?_
  refine g_goto C 539 dX9_look_419 (by decide) ?_
  exact k_X9_look_539 C v1 v2 v3 v4 s0 s0 v12 K13 hK13 σ h
def wp_X9_look_408 (v1 : Int32) (v2 : Int32) (v3 : Int32) (v4 : Int32) (v12 : Int32) (K13 : Int32 → Sg → Prop) (Q : Sg → Prop) (σ : Sg) : Prop :=
  wp_X9_look_413 v1 v2 v3 v4 v12 (nI 1) K13 Q σ
set_option maxHeartbeats 4000000 in
set_option maxRecDepth 100000 in
theorem k_X9_look_408 {Q : Sg → Prop} (C : Cx p s m args meth c D cy ad b0 yX9_look cX9_look 13 none) (v1 : Int32) (v2 : Int32) (v3 : Int32) (v4 : Int32) (v12 : Int32) (K13 : Int32 → Sg → Prop) (hK13 : ∀ (z4 : Int32) (σ : Sg), K13 z4 σ → gV p l e rm_X9_look s m args below meth c D cy ad b0 Q 13 13 σ [some (.ref (ad 10)), some (.int v1), some (.int v2), some (.int v3), some (.int z4), none, none, none, none, none, none, none, none] []) (σ : Sg) (h : wp_X9_look_408 v1 v2 v3 v4 v12 K13 Q σ) : gV p l e rm_X9_look s m args below meth c D cy ad b0 Q 13 408 σ [some (.ref (ad 10)), some (.int v1), some (.int v2), some (.int v3), some (.int v4), none, none, none, none, none, none, none, some (.int v12)] [] := by
  refine g_iconst C dX9_look_408 kc_1 ?_
  refine g_goto C 413 dX9_look_409 (by decide) ?_
  exact k_X9_look_413 C v1 v2 v3 v4 v12 (nI 1) K13 hK13 σ h
def wp_X9_look_389 (v1 : Int32) (v2 : Int32) (v3 : Int32) (v4 : Int32) (v12 : Int32) (s0 : Int32) (K13 : Int32 → Sg → Prop) (Q : Sg → Prop) (σ : Sg) : Prop :=
  wp_X9_look_539 v1 v2 v3 v4 s0 s0 v12 K13 Q σ
set_option maxHeartbeats 4000000 in
set_option maxRecDepth 100000 in
theorem k_X9_look_389 {Q : Sg → Prop} (C : Cx p s m args meth c D cy ad b0 yX9_look cX9_look 13 none) (v1 : Int32) (v2 : Int32) (v3 : Int32) (v4 : Int32) (v12 : Int32) (s0 : Int32) (K13 : Int32 → Sg → Prop) (hK13 : ∀ (z4 : Int32) (σ : Sg), K13 z4 σ → gV p l e rm_X9_look s m args below meth c D cy ad b0 Q 13 13 σ [some (.ref (ad 10)), some (.int v1), some (.int v2), some (.int v3), some (.int z4), none, none, none, none, none, none, none, none] []) (σ : Sg) (h : wp_X9_look_389 v1 v2 v3 v4 v12 s0 K13 Q σ) : gV p l e rm_X9_look s m args below meth c D cy ad b0 Q 13 389 σ [some (.ref (ad 10)), some (.int v1), some (.int v2), some (.int v3), some (.int v4), none, none, none, none, none, none, none, some (.int v12)] [.int s0] := by
  refine g_istore C [some (.ref (ad 10)), some (.int v1), some (.int v2), some (.int v3), some (.int v4), none, none, none, none, none, some (.int s0), none, some (.int v12)] dX9_look_389 (by decide) rfl ?_
  refine g_iload C dX9_look_391 rfl ?_
  refine g_istore C [some (.ref (ad 10)), some (.int v1), some (.int v2), some (.int v3), some (.int v4), none, none, none, none, none, some (.int s0), some (.int s0), some (.int v12)] dX9_look_393 (by decide) rfl ?_
  refine g_goto C 539 dX9_look_395 (by decide) ?_
  exact k_X9_look_539 C v1 v2 v3 v4 s0 s0 v12 K13 hK13 σ h
def wp_X9_look_388 (v1 : Int32) (v2 : Int32) (v3 : Int32) (v4 : Int32) (v12 : Int32) (K13 : Int32 → Sg → Prop) (Q : Sg → Prop) (σ : Sg) : Prop :=
  wp_X9_look_389 v1 v2 v3 v4 v12 (nI 0) K13 Q σ
set_option maxHeartbeats 4000000 in
set_option maxRecDepth 100000 in
theorem k_X9_look_388 {Q : Sg → Prop} (C : Cx p s m args meth c D cy ad b0 yX9_look cX9_look 13 none) (v1 : Int32) (v2 : Int32) (v3 : Int32) (v4 : Int32) (v12 : Int32) (K13 : Int32 → Sg → Prop) (hK13 : ∀ (z4 : Int32) (σ : Sg), K13 z4 σ → gV p l e rm_X9_look s m args below meth c D cy ad b0 Q 13 13 σ [some (.ref (ad 10)), some (.int v1), some (.int v2), some (.int v3), some (.int z4), none, none, none, none, none, none, none, none] []) (σ : Sg) (h : wp_X9_look_388 v1 v2 v3 v4 v12 K13 Q σ) : gV p l e rm_X9_look s m args below meth c D cy ad b0 Q 13 388 σ [some (.ref (ad 10)), some (.int v1), some (.int v2), some (.int v3), some (.int v4), none, none, none, none, none, none, none, some (.int v12)] [] := by
  refine g_iconst C dX9_look_388 kc_0 ?_
  exact k_X9_look_389 C v1 v2 v3 v4 v12 (nI 0) K13 hK13 σ h
def wp_X9_look_358 (v1 : Int32) (v2 : Int32) (v3 : Int32) (v4 : Int32) (v11 : Int32) (v12 : Int32) (s0 : Int32) (K13 : Int32 → Sg → Prop) (Q : Sg → Prop) (σ : Sg) : Prop :=
  wp_X9_look_539 v1 v2 v3 v4 s0 v11 v12 K13 Q σ
set_option maxHeartbeats 4000000 in
set_option maxRecDepth 100000 in
theorem k_X9_look_358 {Q : Sg → Prop} (C : Cx p s m args meth c D cy ad b0 yX9_look cX9_look 13 none) (v1 : Int32) (v2 : Int32) (v3 : Int32) (v4 : Int32) (v11 : Int32) (v12 : Int32) (s0 : Int32) (K13 : Int32 → Sg → Prop) (hK13 : ∀ (z4 : Int32) (σ : Sg), K13 z4 σ → gV p l e rm_X9_look s m args below meth c D cy ad b0 Q 13 13 σ [some (.ref (ad 10)), some (.int v1), some (.int v2), some (.int v3), some (.int z4), none, none, none, none, none, none, none, none] []) (σ : Sg) (h : wp_X9_look_358 v1 v2 v3 v4 v11 v12 s0 K13 Q σ) : gV p l e rm_X9_look s m args below meth c D cy ad b0 Q 13 358 σ [some (.ref (ad 10)), some (.int v1), some (.int v2), some (.int v3), some (.int v4), none, none, none, none, none, none, some (.int v11), some (.int v12)] [.int s0] := by
  refine g_istore C [some (.ref (ad 10)), some (.int v1), some (.int v2), some (.int v3), some (.int v4), none, none, none, none, none, some (.int s0), some (.int v11), some (.int v12)] dX9_look_358 (by decide) rfl ?_
  refine g_goto C 539 dX9_look_360 (by decide) ?_
  exact k_X9_look_539 C v1 v2 v3 v4 s0 v11 v12 K13 hK13 σ h
def wp_X9_look_353 (v1 : Int32) (v2 : Int32) (v3 : Int32) (v4 : Int32) (v11 : Int32) (v12 : Int32) (K13 : Int32 → Sg → Prop) (Q : Sg → Prop) (σ : Sg) : Prop :=
  wp_X9_look_358 v1 v2 v3 v4 v11 v12 (nI 1) K13 Q σ
set_option maxHeartbeats 4000000 in
set_option maxRecDepth 100000 in
theorem k_X9_look_353 {Q : Sg → Prop} (C : Cx p s m args meth c D cy ad b0 yX9_look cX9_look 13 none) (v1 : Int32) (v2 : Int32) (v3 : Int32) (v4 : Int32) (v11 : Int32) (v12 : Int32) (K13 : Int32 → Sg → Prop) (hK13 : ∀ (z4 : Int32) (σ : Sg), K13 z4 σ → gV p l e rm_X9_look s m args below meth c D cy ad b0 Q 13 13 σ [some (.ref (ad 10)), some (.int v1), some (.int v2), some (.int v3), some (.int z4), none, none, none, none, none, none, none, none] []) (σ : Sg) (h : wp_X9_look_353 v1 v2 v3 v4 v11 v12 K13 Q σ) : gV p l e rm_X9_look s m args below meth c D cy ad b0 Q 13 353 σ [some (.ref (ad 10)), some (.int v1), some (.int v2), some (.int v3), some (.int v4), none, none, none, none, none, none, some (.int v11), some (.int v12)] [] := by
  refine g_iconst C dX9_look_353 kc_1 ?_
  refine g_goto C 358 dX9_look_354 (by decide) ?_
  exact k_X9_look_358 C v1 v2 v3 v4 v11 v12 (nI 1) K13 hK13 σ h
def wp_X9_look_338 (v1 : Int32) (v2 : Int32) (v3 : Int32) (v4 : Int32) (v11 : Int32) (v12 : Int32) (s0 : Int32) (K13 : Int32 → Sg → Prop) (Q : Sg → Prop) (σ : Sg) : Prop :=
  wp_X9_look_539 v1 v2 v3 v4 s0 v11 v12 K13 Q σ
set_option maxHeartbeats 4000000 in
set_option maxRecDepth 100000 in
theorem k_X9_look_338 {Q : Sg → Prop} (C : Cx p s m args meth c D cy ad b0 yX9_look cX9_look 13 none) (v1 : Int32) (v2 : Int32) (v3 : Int32) (v4 : Int32) (v11 : Int32) (v12 : Int32) (s0 : Int32) (K13 : Int32 → Sg → Prop) (hK13 : ∀ (z4 : Int32) (σ : Sg), K13 z4 σ → gV p l e rm_X9_look s m args below meth c D cy ad b0 Q 13 13 σ [some (.ref (ad 10)), some (.int v1), some (.int v2), some (.int v3), some (.int z4), none, none, none, none, none, none, none, none] []) (σ : Sg) (h : wp_X9_look_338 v1 v2 v3 v4 v11 v12 s0 K13 Q σ) : gV p l e rm_X9_look s m args below meth c D cy ad b0 Q 13 338 σ [some (.ref (ad 10)), some (.int v1), some (.int v2), some (.int v3), some (.int v4), none, none, none, none, none, none, some (.int v11), some (.int v12)] [.int s0] := by
  refine g_istore C [some (.ref (ad 10)), some (.int v1), some (.int v2), some (.int v3), some (.int v4), none, none, none, none, none, some (.int s0), some (.int v11), some (.int v12)] dX9_look_338 (by decide) rfl ?_
  refine g_goto C 539 dX9_look_340 (by decide) ?_
  exact k_X9_look_539 C v1 v2 v3 v4 s0 v11 v12 K13 hK13 σ h
def wp_X9_look_333 (v1 : Int32) (v2 : Int32) (v3 : Int32) (v4 : Int32) (v11 : Int32) (v12 : Int32) (K13 : Int32 → Sg → Prop) (Q : Sg → Prop) (σ : Sg) : Prop :=
  wp_X9_look_338 v1 v2 v3 v4 v11 v12 (nI 1) K13 Q σ
set_option maxHeartbeats 4000000 in
set_option maxRecDepth 100000 in
theorem k_X9_look_333 {Q : Sg → Prop} (C : Cx p s m args meth c D cy ad b0 yX9_look cX9_look 13 none) (v1 : Int32) (v2 : Int32) (v3 : Int32) (v4 : Int32) (v11 : Int32) (v12 : Int32) (K13 : Int32 → Sg → Prop) (hK13 : ∀ (z4 : Int32) (σ : Sg), K13 z4 σ → gV p l e rm_X9_look s m args below meth c D cy ad b0 Q 13 13 σ [some (.ref (ad 10)), some (.int v1), some (.int v2), some (.int v3), some (.int z4), none, none, none, none, none, none, none, none] []) (σ : Sg) (h : wp_X9_look_333 v1 v2 v3 v4 v11 v12 K13 Q σ) : gV p l e rm_X9_look s m args below meth c D cy ad b0 Q 13 333 σ [some (.ref (ad 10)), some (.int v1), some (.int v2), some (.int v3), some (.int v4), none, none, none, none, none, none, some (.int v11), some (.int v12)] [] := by
  refine g_iconst C dX9_look_333 kc_1 ?_
  refine g_goto C 338 dX9_look_334 (by decide) ?_
  exact k_X9_look_338 C v1 v2 v3 v4 v11 v12 (nI 1) K13 hK13 σ h
def wp_X9_look_318 (v1 : Int32) (v2 : Int32) (v3 : Int32) (v4 : Int32) (v11 : Int32) (v12 : Int32) (s0 : Int32) (K13 : Int32 → Sg → Prop) (Q : Sg → Prop) (σ : Sg) : Prop :=
  wp_X9_look_539 v1 v2 v3 v4 s0 v11 v12 K13 Q σ
set_option maxHeartbeats 4000000 in
set_option maxRecDepth 100000 in
theorem k_X9_look_318 {Q : Sg → Prop} (C : Cx p s m args meth c D cy ad b0 yX9_look cX9_look 13 none) (v1 : Int32) (v2 : Int32) (v3 : Int32) (v4 : Int32) (v11 : Int32) (v12 : Int32) (s0 : Int32) (K13 : Int32 → Sg → Prop) (hK13 : ∀ (z4 : Int32) (σ : Sg), K13 z4 σ → gV p l e rm_X9_look s m args below meth c D cy ad b0 Q 13 13 σ [some (.ref (ad 10)), some (.int v1), some (.int v2), some (.int v3), some (.int z4), none, none, none, none, none, none, none, none] []) (σ : Sg) (h : wp_X9_look_318 v1 v2 v3 v4 v11 v12 s0 K13 Q σ) : gV p l e rm_X9_look s m args below meth c D cy ad b0 Q 13 318 σ [some (.ref (ad 10)), some (.int v1), some (.int v2), some (.int v3), some (.int v4), none, none, none, none, none, none, some (.int v11), some (.int v12)] [.int s0] := by
  refine g_istore C [some (.ref (ad 10)), some (.int v1), some (.int v2), some (.int v3), some (.int v4), none, none, none, none, none, some (.int s0), some (.int v11), some (.int v12)] dX9_look_318 (by decide) rfl ?_
  refine g_goto C 539 dX9_look_320 (by decide) ?_
  exact k_X9_look_539 C v1 v2 v3 v4 s0 v11 v12 K13 hK13 σ h
def wp_X9_look_317 (v1 : Int32) (v2 : Int32) (v3 : Int32) (v4 : Int32) (v11 : Int32) (v12 : Int32) (K13 : Int32 → Sg → Prop) (Q : Sg → Prop) (σ : Sg) : Prop :=
  wp_X9_look_318 v1 v2 v3 v4 v11 v12 (nI 0) K13 Q σ
set_option maxHeartbeats 4000000 in
set_option maxRecDepth 100000 in
theorem k_X9_look_317 {Q : Sg → Prop} (C : Cx p s m args meth c D cy ad b0 yX9_look cX9_look 13 none) (v1 : Int32) (v2 : Int32) (v3 : Int32) (v4 : Int32) (v11 : Int32) (v12 : Int32) (K13 : Int32 → Sg → Prop) (hK13 : ∀ (z4 : Int32) (σ : Sg), K13 z4 σ → gV p l e rm_X9_look s m args below meth c D cy ad b0 Q 13 13 σ [some (.ref (ad 10)), some (.int v1), some (.int v2), some (.int v3), some (.int z4), none, none, none, none, none, none, none, none] []) (σ : Sg) (h : wp_X9_look_317 v1 v2 v3 v4 v11 v12 K13 Q σ) : gV p l e rm_X9_look s m args below meth c D cy ad b0 Q 13 317 σ [some (.ref (ad 10)), some (.int v1), some (.int v2), some (.int v3), some (.int v4), none, none, none, none, none, none, some (.int v11), some (.int v12)] [] := by
  refine g_iconst C dX9_look_317 kc_0 ?_
  exact k_X9_look_318 C v1 v2 v3 v4 v11 v12 (nI 0) K13 hK13 σ h
def wp_X9_look_298 (v1 : Int32) (v2 : Int32) (v3 : Int32) (v4 : Int32) (v11 : Int32) (v12 : Int32) (s0 : Int32) (K13 : Int32 → Sg → Prop) (Q : Sg → Prop) (σ : Sg) : Prop :=
  wp_X9_look_539 v1 v2 v3 v4 s0 v11 v12 K13 Q σ
set_option maxHeartbeats 4000000 in
set_option maxRecDepth 100000 in
theorem k_X9_look_298 {Q : Sg → Prop} (C : Cx p s m args meth c D cy ad b0 yX9_look cX9_look 13 none) (v1 : Int32) (v2 : Int32) (v3 : Int32) (v4 : Int32) (v11 : Int32) (v12 : Int32) (s0 : Int32) (K13 : Int32 → Sg → Prop) (hK13 : ∀ (z4 : Int32) (σ : Sg), K13 z4 σ → gV p l e rm_X9_look s m args below meth c D cy ad b0 Q 13 13 σ [some (.ref (ad 10)), some (.int v1), some (.int v2), some (.int v3), some (.int z4), none, none, none, none, none, none, none, none] []) (σ : Sg) (h : wp_X9_look_298 v1 v2 v3 v4 v11 v12 s0 K13 Q σ) : gV p l e rm_X9_look s m args below meth c D cy ad b0 Q 13 298 σ [some (.ref (ad 10)), some (.int v1), some (.int v2), some (.int v3), some (.int v4), none, none, none, none, none, none, some (.int v11), some (.int v12)] [.int s0] := by
  refine g_istore C [some (.ref (ad 10)), some (.int v1), some (.int v2), some (.int v3), some (.int v4), none, none, none, none, none, some (.int s0), some (.int v11), some (.int v12)] dX9_look_298 (by decide) rfl ?_
  refine g_goto C 539 dX9_look_300 (by decide) ?_
  exact k_X9_look_539 C v1 v2 v3 v4 s0 v11 v12 K13 hK13 σ h
def wp_X9_look_164 (v1 : Int32) (v2 : Int32) (v3 : Int32) (v4 : Int32) (v5 : Int32) (v6 : Int32) (v7 : Int32) (v8 : Int32) (v9 : Int32) (s0 : Int32) (K13 : Int32 → Sg → Prop) (Q : Sg → Prop) (σ : Sg) : Prop :=
  ((v5 = (nI 33) → ((¬ v6 = (nI 0) → wp_X9_look_298 v1 v2 v3 v4 (nI 0) (nI 0) (nI 0) K13 Q σ) ∧ (v6 = (nI 0) → wp_X9_look_298 v1 v2 v3 v4 (nI 0) (nI 0) (nI 1) K13 Q σ))) ∧ (¬ v5 = (nI 33) → ((v5 = (nI 38) → ((v6 = (nI 0) → wp_X9_look_317 v1 v2 v3 v4 (nI 0) (nI 0) K13 Q σ) ∧ (¬ v6 = (nI 0) → ((v7 = (nI 0) → wp_X9_look_317 v1 v2 v3 v4 (nI 0) (nI 0) K13 Q σ) ∧ (¬ v7 = (nI 0) → wp_X9_look_318 v1 v2 v3 v4 (nI 0) (nI 0) (nI 1) K13 Q σ))))) ∧ (¬ v5 = (nI 38) → ((v5 = (nI 47) → ((¬ v6 = (nI 0) → wp_X9_look_333 v1 v2 v3 v4 (nI 0) (nI 0) K13 Q σ) ∧ (v6 = (nI 0) → ((v7 = (nI 0) → wp_X9_look_338 v1 v2 v3 v4 (nI 0) (nI 0) (nI 0) K13 Q σ) ∧ (¬ v7 = (nI 0) → wp_X9_look_333 v1 v2 v3 v4 (nI 0) (nI 0) K13 Q σ))))) ∧ (¬ v5 = (nI 47) → ((v5 = (nI 62) → ((v6 = (nI 0) → wp_X9_look_353 v1 v2 v3 v4 (nI 0) (nI 0) K13 Q σ) ∧ (¬ v6 = (nI 0) → ((v7 = (nI 0) → wp_X9_look_358 v1 v2 v3 v4 (nI 0) (nI 0) (nI 0) K13 Q σ) ∧ (¬ v7 = (nI 0) → wp_X9_look_353 v1 v2 v3 v4 (nI 0) (nI 0) K13 Q σ))))) ∧ (¬ v5 = (nI 62) → ((v5 = (nI 70) → ((¬ v6 = (nI 0) → wp_X9_look_408 v1 v2 v3 v4 (nI 0) K13 Q σ) ∧ (v6 = (nI 0) → ((v8 = (nI 0) → wp_X9_look_413 v1 v2 v3 v4 (nI 0) (nI 0) K13 Q σ) ∧ (¬ v8 = (nI 0) → wp_X9_look_408 v1 v2 v3 v4 (nI 0) K13 Q σ))))) ∧ (¬ v5 = (nI 70) → ((v5 = (nI 71) → ((v6 = (nI 0) → wp_X9_look_388 v1 v2 v3 v4 (nI 0) K13 Q σ) ∧ (¬ v6 = (nI 0) → ((v8 = (nI 0) → wp_X9_look_388 v1 v2 v3 v4 (nI 0) K13 Q σ) ∧ (¬ v8 = (nI 0) → wp_X9_look_389 v1 v2 v3 v4 (nI 0) (nI 1) K13 Q σ))))) ∧ (¬ v5 = (nI 71) → ((v5 = (nI 72) → ((v6 = (nI 0) → wp_X9_look_476 v1 v2 v3 v4 (nI 0) K13 Q σ) ∧ (¬ v6 = (nI 0) → ((v9 = (nI 0) → wp_X9_look_476 v1 v2 v3 v4 (nI 0) K13 Q σ) ∧ (¬ v9 = (nI 0) → wp_X9_look_477 v1 v2 v3 v4 (nI 0) (nI 1) K13 Q σ))))) ∧ (¬ v5 = (nI 72) → ((v5 = (nI 78) → wp_X9_look_539 v1 v2 v3 v4 v8 v6 (nI 0) K13 Q σ) ∧ (¬ v5 = (nI 78) → ((v5 = (nI 79) → ((¬ v6 = (nI 0) → wp_X9_look_496 v1 v2 v3 v4 (nI 0) K13 Q σ) ∧ (v6 = (nI 0) → ((v9 = (nI 0) → wp_X9_look_501 v1 v2 v3 v4 (nI 0) (nI 0) K13 Q σ) ∧ (¬ v9 = (nI 0) → wp_X9_look_496 v1 v2 v3 v4 (nI 0) K13 Q σ))))) ∧ (¬ v5 = (nI 79) → ((v5 = (nI 83) → ((¬ v7 = (nI 0) → wp_X9_look_525 v1 v2 v3 v4 (nI 0) K13 Q σ) ∧ (v7 = (nI 0) → ((v6 = (nI 0) → wp_X9_look_529 v1 v2 v3 v4 (nI 0) K13 Q σ) ∧ (¬ v6 = (nI 0) → ((v9 = (nI 0) → wp_X9_look_529 v1 v2 v3 v4 (nI 0) K13 Q σ) ∧ (¬ v9 = (nI 0) → wp_X9_look_525 v1 v2 v3 v4 (nI 0) K13 Q σ))))))) ∧ (¬ v5 = (nI 83) → ((v5 = (nI 85) → ((¬ v7 = (nI 0) → wp_X9_look_437 v1 v2 v3 v4 (nI 0) K13 Q σ) ∧ (v7 = (nI 0) → ((v6 = (nI 0) → wp_X9_look_441 v1 v2 v3 v4 (nI 0) K13 Q σ) ∧ (¬ v6 = (nI 0) → ((v8 = (nI 0) → wp_X9_look_441 v1 v2 v3 v4 (nI 0) K13 Q σ) ∧ (¬ v8 = (nI 0) → wp_X9_look_437 v1 v2 v3 v4 (nI 0) K13 Q σ))))))) ∧ (¬ v5 = (nI 85) → ((v5 = (nI 87) → wp_X9_look_539 v1 v2 v3 v4 v8 v6 (nI 0) K13 Q σ) ∧ (¬ v5 = (nI 87) → ((v5 = (nI 89) → wp_X9_look_539 v1 v2 v3 v4 v9 (nI 0) v6 K13 Q σ) ∧ (¬ v5 = (nI 89) → wp_X9_look_539 v1 v2 v3 v4 s0 (nI 0) (nI 0) K13 Q σ))))))))))))))))))))))))))
set_option maxHeartbeats 4000000 in
set_option maxRecDepth 100000 in
theorem k_X9_look_164 {Q : Sg → Prop} (C : Cx p s m args meth c D cy ad b0 yX9_look cX9_look 13 none) (v1 : Int32) (v2 : Int32) (v3 : Int32) (v4 : Int32) (v5 : Int32) (v6 : Int32) (v7 : Int32) (v8 : Int32) (v9 : Int32) (s0 : Int32) (K13 : Int32 → Sg → Prop) (hK13 : ∀ (z4 : Int32) (σ : Sg), K13 z4 σ → gV p l e rm_X9_look s m args below meth c D cy ad b0 Q 13 13 σ [some (.ref (ad 10)), some (.int v1), some (.int v2), some (.int v3), some (.int z4), none, none, none, none, none, none, none, none] []) (σ : Sg) (h : wp_X9_look_164 v1 v2 v3 v4 v5 v6 v7 v8 v9 s0 K13 Q σ) : gV p l e rm_X9_look s m args below meth c D cy ad b0 Q 13 164 σ [some (.ref (ad 10)), some (.int v1), some (.int v2), some (.int v3), some (.int v4), some (.int v5), some (.int v6), some (.int v7), some (.int v8), some (.int v9), none, none, none] [.int s0] := by
  refine g_istore C [some (.ref (ad 10)), some (.int v1), some (.int v2), some (.int v3), some (.int v4), some (.int v5), some (.int v6), some (.int v7), some (.int v8), some (.int v9), some (.int s0), none, none] dX9_look_164 (by decide) rfl ?_
  refine g_iconst C dX9_look_166 kc_0 ?_
  refine g_istore C [some (.ref (ad 10)), some (.int v1), some (.int v2), some (.int v3), some (.int v4), some (.int v5), some (.int v6), some (.int v7), some (.int v8), some (.int v9), some (.int s0), some (.int (nI 0)), none] dX9_look_167 (by decide) rfl ?_
  refine g_iconst C dX9_look_169 kc_0 ?_
  refine g_istore C [some (.ref (ad 10)), some (.int v1), some (.int v2), some (.int v3), some (.int v4), some (.int v5), some (.int v6), some (.int v7), some (.int v8), some (.int v9), some (.int s0), some (.int (nI 0)), some (.int (nI 0))] dX9_look_170 (by decide) rfl ?_
  refine g_iload C dX9_look_172 rfl ?_
  refine dite_case (v5 = (nI 33)) (fun c174_33 => ?_) (fun c174_33 => ?_)
  · have h := h.1 c174_33
    refine g_lsw C 288 (off := 114) dX9_look_174 rfl (lsw_at c174_33 (by decide)) (by decide) ?_
    refine g_iload C dX9_look_288 rfl ?_
    refine g_if_ne C 297 dX9_look_290 (by decide) (fun c290 => ?_) (fun c290 => ?_)
    · have h := h.1 c290
      refine g_iconst C dX9_look_297 kc_0 ?_
      refine g_mask [true, true, true, true, true, false, false, false, false, false, false, true, true] rfl ?_
      exact k_X9_look_298 C v1 v2 v3 v4 (nI 0) (nI 0) (nI 0) K13 hK13 σ h
    · have h := h.2 c290
      refine g_iconst C dX9_look_293 kc_1 ?_
      refine g_goto C 298 dX9_look_294 (by decide) ?_
      refine g_mask [true, true, true, true, true, false, false, false, false, false, false, true, true] rfl ?_
      exact k_X9_look_298 C v1 v2 v3 v4 (nI 0) (nI 0) (nI 1) K13 hK13 σ h
  · have h := h.2 c174_33
    refine dite_case (v5 = (nI 38)) (fun c174_38 => ?_) (fun c174_38 => ?_)
    · have h := h.1 c174_38
      refine g_lsw C 303 (off := 129) dX9_look_174 rfl (lsw_at c174_38 (by decide)) (by decide) ?_
      refine g_iload C dX9_look_303 rfl ?_
      refine g_if_eq C 317 dX9_look_305 (by decide) (fun c305 => ?_) (fun c305 => ?_)
      · have h := h.1 c305
        refine g_mask [true, true, true, true, true, false, false, false, false, false, false, true, true] rfl ?_
        exact k_X9_look_317 C v1 v2 v3 v4 (nI 0) (nI 0) K13 hK13 σ h
      · have h := h.2 c305
        refine g_iload C dX9_look_308 rfl ?_
        refine g_if_eq C 317 dX9_look_310 (by decide) (fun c310 => ?_) (fun c310 => ?_)
        · have h := h.1 c310
          refine g_mask [true, true, true, true, true, false, false, false, false, false, false, true, true] rfl ?_
          exact k_X9_look_317 C v1 v2 v3 v4 (nI 0) (nI 0) K13 hK13 σ h
        · have h := h.2 c310
          refine g_iconst C dX9_look_313 kc_1 ?_
          refine g_goto C 318 dX9_look_314 (by decide) ?_
          refine g_mask [true, true, true, true, true, false, false, false, false, false, false, true, true] rfl ?_
          exact k_X9_look_318 C v1 v2 v3 v4 (nI 0) (nI 0) (nI 1) K13 hK13 σ h
    · have h := h.2 c174_38
      refine dite_case (v5 = (nI 47)) (fun c174_47 => ?_) (fun c174_47 => ?_)
      · have h := h.1 c174_47
        refine g_lsw C 323 (off := 149) dX9_look_174 rfl (lsw_at c174_47 (by decide)) (by decide) ?_
        refine g_iload C dX9_look_323 rfl ?_
        refine g_if_ne C 333 dX9_look_325 (by decide) (fun c325 => ?_) (fun c325 => ?_)
        · have h := h.1 c325
          refine g_mask [true, true, true, true, true, false, false, false, false, false, false, true, true] rfl ?_
          exact k_X9_look_333 C v1 v2 v3 v4 (nI 0) (nI 0) K13 hK13 σ h
        · have h := h.2 c325
          refine g_iload C dX9_look_328 rfl ?_
          refine g_if_eq C 337 dX9_look_330 (by decide) (fun c330 => ?_) (fun c330 => ?_)
          · have h := h.1 c330
            refine g_iconst C dX9_look_337 kc_0 ?_
            refine g_mask [true, true, true, true, true, false, false, false, false, false, false, true, true] rfl ?_
            exact k_X9_look_338 C v1 v2 v3 v4 (nI 0) (nI 0) (nI 0) K13 hK13 σ h
          · have h := h.2 c330
            refine g_mask [true, true, true, true, true, false, false, false, false, false, false, true, true] rfl ?_
            exact k_X9_look_333 C v1 v2 v3 v4 (nI 0) (nI 0) K13 hK13 σ h
      · have h := h.2 c174_47
        refine dite_case (v5 = (nI 62)) (fun c174_62 => ?_) (fun c174_62 => ?_)
        · have h := h.1 c174_62
          refine g_lsw C 343 (off := 169) dX9_look_174 rfl (lsw_at c174_62 (by decide)) (by decide) ?_
          refine g_iload C dX9_look_343 rfl ?_
          refine g_if_eq C 353 dX9_look_345 (by decide) (fun c345 => ?_) (fun c345 => ?_)
          · have h := h.1 c345
            refine g_mask [true, true, true, true, true, false, false, false, false, false, false, true, true] rfl ?_
            exact k_X9_look_353 C v1 v2 v3 v4 (nI 0) (nI 0) K13 hK13 σ h
          · have h := h.2 c345
            refine g_iload C dX9_look_348 rfl ?_
            refine g_if_eq C 357 dX9_look_350 (by decide) (fun c350 => ?_) (fun c350 => ?_)
            · have h := h.1 c350
              refine g_iconst C dX9_look_357 kc_0 ?_
              refine g_mask [true, true, true, true, true, false, false, false, false, false, false, true, true] rfl ?_
              exact k_X9_look_358 C v1 v2 v3 v4 (nI 0) (nI 0) (nI 0) K13 hK13 σ h
            · have h := h.2 c350
              refine g_mask [true, true, true, true, true, false, false, false, false, false, false, true, true] rfl ?_
              exact k_X9_look_353 C v1 v2 v3 v4 (nI 0) (nI 0) K13 hK13 σ h
        · have h := h.2 c174_62
          refine dite_case (v5 = (nI 70)) (fun c174_70 => ?_) (fun c174_70 => ?_)
          · have h := h.1 c174_70
            refine g_lsw C 398 (off := 224) dX9_look_174 rfl (lsw_at c174_70 (by decide)) (by decide) ?_
            refine g_iload C dX9_look_398 rfl ?_
            refine g_if_ne C 408 dX9_look_400 (by decide) (fun c400 => ?_) (fun c400 => ?_)
            · have h := h.1 c400
              refine g_mask [true, true, true, true, true, false, false, false, false, false, false, false, true] rfl ?_
              exact k_X9_look_408 C v1 v2 v3 v4 (nI 0) K13 hK13 σ h
            · have h := h.2 c400
              refine g_iload C dX9_look_403 rfl ?_
              refine g_if_eq C 412 dX9_look_405 (by decide) (fun c405 => ?_) (fun c405 => ?_)
              · have h := h.1 c405
                refine g_iconst C dX9_look_412 kc_0 ?_
                refine g_mask [true, true, true, true, true, false, false, false, false, false, false, false, true] rfl ?_
                exact k_X9_look_413 C v1 v2 v3 v4 (nI 0) (nI 0) K13 hK13 σ h
              · have h := h.2 c405
                refine g_mask [true, true, true, true, true, false, false, false, false, false, false, false, true] rfl ?_
                exact k_X9_look_408 C v1 v2 v3 v4 (nI 0) K13 hK13 σ h
          · have h := h.2 c174_70
            refine dite_case (v5 = (nI 71)) (fun c174_71 => ?_) (fun c174_71 => ?_)
            · have h := h.1 c174_71
              refine g_lsw C 374 (off := 200) dX9_look_174 rfl (lsw_at c174_71 (by decide)) (by decide) ?_
              refine g_iload C dX9_look_374 rfl ?_
              refine g_if_eq C 388 dX9_look_376 (by decide) (fun c376 => ?_) (fun c376 => ?_)
              · have h := h.1 c376
                refine g_mask [true, true, true, true, true, false, false, false, false, false, false, false, true] rfl ?_
                exact k_X9_look_388 C v1 v2 v3 v4 (nI 0) K13 hK13 σ h
              · have h := h.2 c376
                refine g_iload C dX9_look_379 rfl ?_
                refine g_if_eq C 388 dX9_look_381 (by decide) (fun c381 => ?_) (fun c381 => ?_)
                · have h := h.1 c381
                  refine g_mask [true, true, true, true, true, false, false, false, false, false, false, false, true] rfl ?_
                  exact k_X9_look_388 C v1 v2 v3 v4 (nI 0) K13 hK13 σ h
                · have h := h.2 c381
                  refine g_iconst C dX9_look_384 kc_1 ?_
                  refine g_goto C 389 dX9_look_385 (by decide) ?_
                  refine g_mask [true, true, true, true, true, false, false, false, false, false, false, false, true] rfl ?_
                  exact k_X9_look_389 C v1 v2 v3 v4 (nI 0) (nI 1) K13 hK13 σ h
            · have h := h.2 c174_71
              refine dite_case (v5 = (nI 72)) (fun c174_72 => ?_) (fun c174_72 => ?_)
              · have h := h.1 c174_72
                refine g_lsw C 462 (off := 288) dX9_look_174 rfl (lsw_at c174_72 (by decide)) (by decide) ?_
                refine g_iload C dX9_look_462 rfl ?_
                refine g_if_eq C 476 dX9_look_464 (by decide) (fun c464 => ?_) (fun c464 => ?_)
                · have h := h.1 c464
                  refine g_mask [true, true, true, true, true, false, false, false, false, false, false, true, false] rfl ?_
                  exact k_X9_look_476 C v1 v2 v3 v4 (nI 0) K13 hK13 σ h
                · have h := h.2 c464
                  refine g_iload C dX9_look_467 rfl ?_
                  refine g_if_eq C 476 dX9_look_469 (by decide) (fun c469 => ?_) (fun c469 => ?_)
                  · have h := h.1 c469
                    refine g_mask [true, true, true, true, true, false, false, false, false, false, false, true, false] rfl ?_
                    exact k_X9_look_476 C v1 v2 v3 v4 (nI 0) K13 hK13 σ h
                  · have h := h.2 c469
                    refine g_iconst C dX9_look_472 kc_1 ?_
                    refine g_goto C 477 dX9_look_473 (by decide) ?_
                    refine g_mask [true, true, true, true, true, false, false, false, false, false, false, true, false] rfl ?_
                    exact k_X9_look_477 C v1 v2 v3 v4 (nI 0) (nI 1) K13 hK13 σ h
              · have h := h.2 c174_72
                refine dite_case (v5 = (nI 78)) (fun c174_78 => ?_) (fun c174_78 => ?_)
                · have h := h.1 c174_78
                  refine g_lsw C 363 (off := 189) dX9_look_174 rfl (lsw_at c174_78 (by decide)) (by decide) ?_
                  refine g_iload C dX9_look_363 rfl ?_
                  refine g_istore C [some (.ref (ad 10)), some (.int v1), some (.int v2), some (.int v3), some (.int v4), some (.int v5), some (.int v6), some (.int v7), some (.int v8), some (.int v9), some (.int v8), some (.int (nI 0)), some (.int (nI 0))] dX9_look_365 (by decide) rfl ?_
                  refine g_iload C dX9_look_367 rfl ?_
                  refine g_istore C [some (.ref (ad 10)), some (.int v1), some (.int v2), some (.int v3), some (.int v4), some (.int v5), some (.int v6), some (.int v7), some (.int v8), some (.int v9), some (.int v8), some (.int v6), some (.int (nI 0))] dX9_look_369 (by decide) rfl ?_
                  refine g_goto C 539 dX9_look_371 (by decide) ?_
                  refine g_mask [true, true, true, true, true, false, false, false, false, false, true, true, true] rfl ?_
                  exact k_X9_look_539 C v1 v2 v3 v4 v8 v6 (nI 0) K13 hK13 σ h
                · have h := h.2 c174_78
                  refine dite_case (v5 = (nI 79)) (fun c174_79 => ?_) (fun c174_79 => ?_)
                  · have h := h.1 c174_79
                    refine g_lsw C 486 (off := 312) dX9_look_174 rfl (lsw_at c174_79 (by decide)) (by decide) ?_
                    refine g_iload C dX9_look_486 rfl ?_
                    refine g_if_ne C 496 dX9_look_488 (by decide) (fun c488 => ?_) (fun c488 => ?_)
                    · have h := h.1 c488
                      refine g_mask [true, true, true, true, true, false, false, false, false, false, false, true, false] rfl ?_
                      exact k_X9_look_496 C v1 v2 v3 v4 (nI 0) K13 hK13 σ h
                    · have h := h.2 c488
                      refine g_iload C dX9_look_491 rfl ?_
                      refine g_if_eq C 500 dX9_look_493 (by decide) (fun c493 => ?_) (fun c493 => ?_)
                      · have h := h.1 c493
                        refine g_iconst C dX9_look_500 kc_0 ?_
                        refine g_mask [true, true, true, true, true, false, false, false, false, false, false, true, false] rfl ?_
                        exact k_X9_look_501 C v1 v2 v3 v4 (nI 0) (nI 0) K13 hK13 σ h
                      · have h := h.2 c493
                        refine g_mask [true, true, true, true, true, false, false, false, false, false, false, true, false] rfl ?_
                        exact k_X9_look_496 C v1 v2 v3 v4 (nI 0) K13 hK13 σ h
                  · have h := h.2 c174_79
                    refine dite_case (v5 = (nI 83)) (fun c174_83 => ?_) (fun c174_83 => ?_)
                    · have h := h.1 c174_83
                      refine g_lsw C 510 (off := 336) dX9_look_174 rfl (lsw_at c174_83 (by decide)) (by decide) ?_
                      refine g_iload C dX9_look_510 rfl ?_
                      refine g_if_ne C 525 dX9_look_512 (by decide) (fun c512 => ?_) (fun c512 => ?_)
                      · have h := h.1 c512
                        refine g_mask [true, true, true, true, true, false, false, false, false, false, false, true, false] rfl ?_
                        exact k_X9_look_525 C v1 v2 v3 v4 (nI 0) K13 hK13 σ h
                      · have h := h.2 c512
                        refine g_iload C dX9_look_515 rfl ?_
                        refine g_if_eq C 529 dX9_look_517 (by decide) (fun c517 => ?_) (fun c517 => ?_)
                        · have h := h.1 c517
                          refine g_mask [true, true, true, true, true, false, false, false, false, false, false, true, false] rfl ?_
                          exact k_X9_look_529 C v1 v2 v3 v4 (nI 0) K13 hK13 σ h
                        · have h := h.2 c517
                          refine g_iload C dX9_look_520 rfl ?_
                          refine g_if_eq C 529 dX9_look_522 (by decide) (fun c522 => ?_) (fun c522 => ?_)
                          · have h := h.1 c522
                            refine g_mask [true, true, true, true, true, false, false, false, false, false, false, true, false] rfl ?_
                            exact k_X9_look_529 C v1 v2 v3 v4 (nI 0) K13 hK13 σ h
                          · have h := h.2 c522
                            refine g_mask [true, true, true, true, true, false, false, false, false, false, false, true, false] rfl ?_
                            exact k_X9_look_525 C v1 v2 v3 v4 (nI 0) K13 hK13 σ h
                    · have h := h.2 c174_83
                      refine dite_case (v5 = (nI 85)) (fun c174_85 => ?_) (fun c174_85 => ?_)
                      · have h := h.1 c174_85
                        refine g_lsw C 422 (off := 248) dX9_look_174 rfl (lsw_at c174_85 (by decide)) (by decide) ?_
                        refine g_iload C dX9_look_422 rfl ?_
                        refine g_if_ne C 437 dX9_look_424 (by decide) (fun c424 => ?_) (fun c424 => ?_)
                        · have h := h.1 c424
                          refine g_mask [true, true, true, true, true, false, false, false, false, false, false, false, true] rfl ?_
                          exact k_X9_look_437 C v1 v2 v3 v4 (nI 0) K13 hK13 σ h
                        · have h := h.2 c424
                          refine g_iload C dX9_look_427 rfl ?_
                          refine g_if_eq C 441 dX9_look_429 (by decide) (fun c429 => ?_) (fun c429 => ?_)
                          · have h := h.1 c429
                            refine g_mask [true, true, true, true, true, false, false, false, false, false, false, false, true] rfl ?_
                            exact k_X9_look_441 C v1 v2 v3 v4 (nI 0) K13 hK13 σ h
                          · have h := h.2 c429
                            refine g_iload C dX9_look_432 rfl ?_
                            refine g_if_eq C 441 dX9_look_434 (by decide) (fun c434 => ?_) (fun c434 => ?_)
                            · have h := h.1 c434
                              refine g_mask [true, true, true, true, true, false, false, false, false, false, false, false, true] rfl ?_
                              exact k_X9_look_441 C v1 v2 v3 v4 (nI 0) K13 hK13 σ h
                            · have h := h.2 c434
                              refine g_mask [true, true, true, true, true, false, false, false, false, false, false, false, true] rfl ?_
                              exact k_X9_look_437 C v1 v2 v3 v4 (nI 0) K13 hK13 σ h
                      · have h := h.2 c174_85
                        refine dite_case (v5 = (nI 87)) (fun c174_87 => ?_) (fun c174_87 => ?_)
                        · have h := h.1 c174_87
                          refine g_lsw C 363 (off := 189) dX9_look_174 rfl (lsw_at c174_87 (by decide)) (by decide) ?_
                          refine g_iload C dX9_look_363 rfl ?_
                          refine g_istore C [some (.ref (ad 10)), some (.int v1), some (.int v2), some (.int v3), some (.int v4), some (.int v5), some (.int v6), some (.int v7), some (.int v8), some (.int v9), some (.int v8), some (.int (nI 0)), some (.int (nI 0))] dX9_look_365 (by decide) rfl ?_
                          refine g_iload C dX9_look_367 rfl ?_
                          refine g_istore C [some (.ref (ad 10)), some (.int v1), some (.int v2), some (.int v3), some (.int v4), some (.int v5), some (.int v6), some (.int v7), some (.int v8), some (.int v9), some (.int v8), some (.int v6), some (.int (nI 0))] dX9_look_369 (by decide) rfl ?_
                          refine g_goto C 539 dX9_look_371 (by decide) ?_
                          refine g_mask [true, true, true, true, true, false, false, false, false, false, true, true, true] rfl ?_
                          exact k_X9_look_539 C v1 v2 v3 v4 v8 v6 (nI 0) K13 hK13 σ h
                        · have h := h.2 c174_87
                          refine dite_case (v5 = (nI 89)) (fun c174_89 => ?_) (fun c174_89 => ?_)
                          · have h := h.1 c174_89
                            refine g_lsw C 451 (off := 277) dX9_look_174 rfl (lsw_at c174_89 (by decide)) (by decide) ?_
                            refine g_iload C dX9_look_451 rfl ?_
                            refine g_istore C [some (.ref (ad 10)), some (.int v1), some (.int v2), some (.int v3), some (.int v4), some (.int v5), some (.int v6), some (.int v7), some (.int v8), some (.int v9), some (.int v9), some (.int (nI 0)), some (.int (nI 0))] dX9_look_453 (by decide) rfl ?_
                            refine g_iload C dX9_look_455 rfl ?_
                            refine g_istore C [some (.ref (ad 10)), some (.int v1), some (.int v2), some (.int v3), some (.int v4), some (.int v5), some (.int v6), some (.int v7), some (.int v8), some (.int v9), some (.int v9), some (.int (nI 0)), some (.int v6)] dX9_look_457 (by decide) rfl ?_
                            refine g_goto C 539 dX9_look_459 (by decide) ?_
                            refine g_mask [true, true, true, true, true, false, false, false, false, false, true, true, true] rfl ?_
                            exact k_X9_look_539 C v1 v2 v3 v4 v9 (nI 0) v6 K13 hK13 σ h
                          · have h := h.2 c174_89
                            refine g_lsw C 539 (off := 365) dX9_look_174 rfl (lsw_df _ (List.forall_mem_cons.mpr ⟨lv_neT c174_33 (by decide), List.forall_mem_cons.mpr ⟨lv_neT c174_38 (by decide), List.forall_mem_cons.mpr ⟨lv_neT c174_47 (by decide), List.forall_mem_cons.mpr ⟨lv_neT c174_62 (by decide), List.forall_mem_cons.mpr ⟨lv_neT c174_70 (by decide), List.forall_mem_cons.mpr ⟨lv_neT c174_71 (by decide), List.forall_mem_cons.mpr ⟨lv_neT c174_72 (by decide), List.forall_mem_cons.mpr ⟨lv_neT c174_78 (by decide), List.forall_mem_cons.mpr ⟨lv_neT c174_79 (by decide), List.forall_mem_cons.mpr ⟨lv_neT c174_83 (by decide), List.forall_mem_cons.mpr ⟨lv_neT c174_85 (by decide), List.forall_mem_cons.mpr ⟨lv_neT c174_87 (by decide), List.forall_mem_cons.mpr ⟨lv_neT c174_89 (by decide), fun _ h => absurd h List.not_mem_nil⟩⟩⟩⟩⟩⟩⟩⟩⟩⟩⟩⟩⟩)) (by decide) ?_
                            refine g_mask [true, true, true, true, true, false, false, false, false, false, true, true, true] rfl ?_
                            exact k_X9_look_539 C v1 v2 v3 v4 s0 (nI 0) (nI 0) K13 hK13 σ h
def wp_X9_look_159 (v1 : Int32) (v2 : Int32) (v3 : Int32) (v4 : Int32) (v5 : Int32) (v6 : Int32) (v7 : Int32) (v8 : Int32) (v9 : Int32) (K13 : Int32 → Sg → Prop) (Q : Sg → Prop) (σ : Sg) : Prop :=
  wp_X9_look_164 v1 v2 v3 v4 v5 v6 v7 v8 v9 (nI 1) K13 Q σ
set_option maxHeartbeats 4000000 in
set_option maxRecDepth 100000 in
theorem k_X9_look_159 {Q : Sg → Prop} (C : Cx p s m args meth c D cy ad b0 yX9_look cX9_look 13 none) (v1 : Int32) (v2 : Int32) (v3 : Int32) (v4 : Int32) (v5 : Int32) (v6 : Int32) (v7 : Int32) (v8 : Int32) (v9 : Int32) (K13 : Int32 → Sg → Prop) (hK13 : ∀ (z4 : Int32) (σ : Sg), K13 z4 σ → gV p l e rm_X9_look s m args below meth c D cy ad b0 Q 13 13 σ [some (.ref (ad 10)), some (.int v1), some (.int v2), some (.int v3), some (.int z4), none, none, none, none, none, none, none, none] []) (σ : Sg) (h : wp_X9_look_159 v1 v2 v3 v4 v5 v6 v7 v8 v9 K13 Q σ) : gV p l e rm_X9_look s m args below meth c D cy ad b0 Q 13 159 σ [some (.ref (ad 10)), some (.int v1), some (.int v2), some (.int v3), some (.int v4), some (.int v5), some (.int v6), some (.int v7), some (.int v8), some (.int v9), none, none, none] [] := by
  refine g_iconst C dX9_look_159 kc_1 ?_
  refine g_goto C 164 dX9_look_160 (by decide) ?_
  exact k_X9_look_164 C v1 v2 v3 v4 v5 v6 v7 v8 v9 (nI 1) K13 hK13 σ h
def wp_X9_look_141 (v1 : Int32) (v2 : Int32) (v3 : Int32) (v4 : Int32) (v5 : Int32) (v6 : Int32) (v7 : Int32) (v8 : Int32) (s0 : Int32) (K13 : Int32 → Sg → Prop) (Q : Sg → Prop) (σ : Sg) : Prop :=
  ((v5 = (nI 46) → wp_X9_look_159 v1 v2 v3 v4 v5 v6 v7 v8 s0 K13 Q σ) ∧ (¬ v5 = (nI 46) → ((¬ (v5 - (nI 97)) = v1 → wp_X9_look_164 v1 v2 v3 v4 v5 v6 v7 v8 s0 (nI 0) K13 Q σ) ∧ ((v5 - (nI 97)) = v1 → wp_X9_look_159 v1 v2 v3 v4 v5 v6 v7 v8 s0 K13 Q σ))))
set_option maxHeartbeats 4000000 in
set_option maxRecDepth 100000 in
theorem k_X9_look_141 {Q : Sg → Prop} (C : Cx p s m args meth c D cy ad b0 yX9_look cX9_look 13 none) (v1 : Int32) (v2 : Int32) (v3 : Int32) (v4 : Int32) (v5 : Int32) (v6 : Int32) (v7 : Int32) (v8 : Int32) (s0 : Int32) (K13 : Int32 → Sg → Prop) (hK13 : ∀ (z4 : Int32) (σ : Sg), K13 z4 σ → gV p l e rm_X9_look s m args below meth c D cy ad b0 Q 13 13 σ [some (.ref (ad 10)), some (.int v1), some (.int v2), some (.int v3), some (.int z4), none, none, none, none, none, none, none, none] []) (σ : Sg) (h : wp_X9_look_141 v1 v2 v3 v4 v5 v6 v7 v8 s0 K13 Q σ) : gV p l e rm_X9_look s m args below meth c D cy ad b0 Q 13 141 σ [some (.ref (ad 10)), some (.int v1), some (.int v2), some (.int v3), some (.int v4), some (.int v5), some (.int v6), some (.int v7), some (.int v8), none, none, none, none] [.int s0] := by
  refine g_istore C [some (.ref (ad 10)), some (.int v1), some (.int v2), some (.int v3), some (.int v4), some (.int v5), some (.int v6), some (.int v7), some (.int v8), some (.int s0), none, none, none] dX9_look_141 (by decide) rfl ?_
  refine g_iload C dX9_look_143 rfl ?_
  refine g_bipush C dX9_look_145 kb_46 ?_
  refine g_icmp_eq C 159 dX9_look_147 (by decide) (fun c147 => ?_) (fun c147 => ?_)
  · have h := h.1 c147
    exact k_X9_look_159 C v1 v2 v3 v4 v5 v6 v7 v8 s0 K13 hK13 σ h
  · have h := h.2 c147
    refine g_iload C dX9_look_150 rfl ?_
    refine g_bipush C dX9_look_152 kb_97 ?_
    refine g_isub C dX9_look_154 ?_
    refine g_iload_n C dX9_look_155 rfl ?_
    refine g_icmp_ne C 163 dX9_look_156 (by decide) (fun c156 => ?_) (fun c156 => ?_)
    · have h := h.1 c156
      refine g_iconst C dX9_look_163 kc_0 ?_
      exact k_X9_look_164 C v1 v2 v3 v4 v5 v6 v7 v8 s0 (nI 0) K13 hK13 σ h
    · have h := h.2 c156
      exact k_X9_look_159 C v1 v2 v3 v4 v5 v6 v7 v8 s0 K13 hK13 σ h
def wp_X9_look_119 (v1 : Int32) (v2 : Int32) (v3 : Int32) (v4 : Int32) (v5 : Int32) (v6 : Int32) (v7 : Int32) (s0 : Int32) (K13 : Int32 → Sg → Prop) (Q : Sg → Prop) (σ : Sg) : Prop :=
  vp_in v4 (aN 56) ∧ (((¬ ((v2 >>> ((gA σ 56 (Int32.toNatClampNeg v4)) &&& 31)) &&& (nI 1)) = (nI 1) → wp_X9_look_141 v1 v2 v3 v4 v5 v6 v7 s0 (nI 0) K13 Q σ) ∧ (((v2 >>> ((gA σ 56 (Int32.toNatClampNeg v4)) &&& 31)) &&& (nI 1)) = (nI 1) → wp_X9_look_141 v1 v2 v3 v4 v5 v6 v7 s0 (nI 1) K13 Q σ)))
set_option maxHeartbeats 4000000 in
set_option maxRecDepth 100000 in
theorem k_X9_look_119 {Q : Sg → Prop} (C : Cx p s m args meth c D cy ad b0 yX9_look cX9_look 13 none) (v1 : Int32) (v2 : Int32) (v3 : Int32) (v4 : Int32) (v5 : Int32) (v6 : Int32) (v7 : Int32) (s0 : Int32) (K13 : Int32 → Sg → Prop) (hK13 : ∀ (z4 : Int32) (σ : Sg), K13 z4 σ → gV p l e rm_X9_look s m args below meth c D cy ad b0 Q 13 13 σ [some (.ref (ad 10)), some (.int v1), some (.int v2), some (.int v3), some (.int z4), none, none, none, none, none, none, none, none] []) (σ : Sg) (h : wp_X9_look_119 v1 v2 v3 v4 v5 v6 v7 s0 K13 Q σ) : gV p l e rm_X9_look s m args below meth c D cy ad b0 Q 13 119 σ [some (.ref (ad 10)), some (.int v1), some (.int v2), some (.int v3), some (.int v4), some (.int v5), some (.int v6), some (.int v7), none, none, none, none, none] [.int s0] := by
  refine g_istore C [some (.ref (ad 10)), some (.int v1), some (.int v2), some (.int v3), some (.int v4), some (.int v5), some (.int v6), some (.int v7), some (.int s0), none, none, none, none] dX9_look_119 (by decide) rfl ?_
  refine g_iload_n C dX9_look_121 rfl ?_
  refine g_aload_n C dX9_look_122 rfl ?_
  refine fget_10_17_X9_39 C rfl dX9_look_123 ?_
  refine g_iload C dX9_look_126 rfl ?_
  refine g_iald C (by decide) h.1 dX9_look_128 ?_
  have h := h.2
  refine g_ishr C dX9_look_129 ?_
  refine g_iconst C dX9_look_130 kc_1 ?_
  refine g_iand C dX9_look_131 ?_
  refine g_iconst C dX9_look_132 kc_1 ?_
  refine g_icmp_ne C 140 dX9_look_133 (by decide) (fun c133 => ?_) (fun c133 => ?_)
  · have h := h.1 c133
    refine g_iconst C dX9_look_140 kc_0 ?_
    exact k_X9_look_141 C v1 v2 v3 v4 v5 v6 v7 s0 (nI 0) K13 hK13 σ h
  · have h := h.2 c133
    refine g_iconst C dX9_look_136 kc_1 ?_
    refine g_goto C 141 dX9_look_137 (by decide) ?_
    exact k_X9_look_141 C v1 v2 v3 v4 v5 v6 v7 s0 (nI 1) K13 hK13 σ h
def wp_X9_look_97 (v1 : Int32) (v2 : Int32) (v3 : Int32) (v4 : Int32) (v5 : Int32) (v6 : Int32) (s0 : Int32) (K13 : Int32 → Sg → Prop) (Q : Sg → Prop) (σ : Sg) : Prop :=
  vp_in v4 (aN 56) ∧ (((¬ ((v3 >>> ((gA σ 56 (Int32.toNatClampNeg v4)) &&& 31)) &&& (nI 1)) = (nI 1) → wp_X9_look_119 v1 v2 v3 v4 v5 v6 s0 (nI 0) K13 Q σ) ∧ (((v3 >>> ((gA σ 56 (Int32.toNatClampNeg v4)) &&& 31)) &&& (nI 1)) = (nI 1) → wp_X9_look_119 v1 v2 v3 v4 v5 v6 s0 (nI 1) K13 Q σ)))
set_option maxHeartbeats 4000000 in
set_option maxRecDepth 100000 in
theorem k_X9_look_97 {Q : Sg → Prop} (C : Cx p s m args meth c D cy ad b0 yX9_look cX9_look 13 none) (v1 : Int32) (v2 : Int32) (v3 : Int32) (v4 : Int32) (v5 : Int32) (v6 : Int32) (s0 : Int32) (K13 : Int32 → Sg → Prop) (hK13 : ∀ (z4 : Int32) (σ : Sg), K13 z4 σ → gV p l e rm_X9_look s m args below meth c D cy ad b0 Q 13 13 σ [some (.ref (ad 10)), some (.int v1), some (.int v2), some (.int v3), some (.int z4), none, none, none, none, none, none, none, none] []) (σ : Sg) (h : wp_X9_look_97 v1 v2 v3 v4 v5 v6 s0 K13 Q σ) : gV p l e rm_X9_look s m args below meth c D cy ad b0 Q 13 97 σ [some (.ref (ad 10)), some (.int v1), some (.int v2), some (.int v3), some (.int v4), some (.int v5), some (.int v6), none, none, none, none, none, none] [.int s0] := by
  refine g_istore C [some (.ref (ad 10)), some (.int v1), some (.int v2), some (.int v3), some (.int v4), some (.int v5), some (.int v6), some (.int s0), none, none, none, none, none] dX9_look_97 (by decide) rfl ?_
  refine g_iload_n C dX9_look_99 rfl ?_
  refine g_aload_n C dX9_look_100 rfl ?_
  refine fget_10_17_X9_39 C rfl dX9_look_101 ?_
  refine g_iload C dX9_look_104 rfl ?_
  refine g_iald C (by decide) h.1 dX9_look_106 ?_
  have h := h.2
  refine g_ishr C dX9_look_107 ?_
  refine g_iconst C dX9_look_108 kc_1 ?_
  refine g_iand C dX9_look_109 ?_
  refine g_iconst C dX9_look_110 kc_1 ?_
  refine g_icmp_ne C 118 dX9_look_111 (by decide) (fun c111 => ?_) (fun c111 => ?_)
  · have h := h.1 c111
    refine g_iconst C dX9_look_118 kc_0 ?_
    exact k_X9_look_119 C v1 v2 v3 v4 v5 v6 s0 (nI 0) K13 hK13 σ h
  · have h := h.2 c111
    refine g_iconst C dX9_look_114 kc_1 ?_
    refine g_goto C 119 dX9_look_115 (by decide) ?_
    exact k_X9_look_119 C v1 v2 v3 v4 v5 v6 s0 (nI 1) K13 hK13 σ h
def wp_X9_look_96 (v1 : Int32) (v2 : Int32) (v3 : Int32) (v4 : Int32) (v5 : Int32) (v6 : Int32) (K13 : Int32 → Sg → Prop) (Q : Sg → Prop) (σ : Sg) : Prop :=
  wp_X9_look_97 v1 v2 v3 v4 v5 v6 (nI 0) K13 Q σ
set_option maxHeartbeats 4000000 in
set_option maxRecDepth 100000 in
theorem k_X9_look_96 {Q : Sg → Prop} (C : Cx p s m args meth c D cy ad b0 yX9_look cX9_look 13 none) (v1 : Int32) (v2 : Int32) (v3 : Int32) (v4 : Int32) (v5 : Int32) (v6 : Int32) (K13 : Int32 → Sg → Prop) (hK13 : ∀ (z4 : Int32) (σ : Sg), K13 z4 σ → gV p l e rm_X9_look s m args below meth c D cy ad b0 Q 13 13 σ [some (.ref (ad 10)), some (.int v1), some (.int v2), some (.int v3), some (.int z4), none, none, none, none, none, none, none, none] []) (σ : Sg) (h : wp_X9_look_96 v1 v2 v3 v4 v5 v6 K13 Q σ) : gV p l e rm_X9_look s m args below meth c D cy ad b0 Q 13 96 σ [some (.ref (ad 10)), some (.int v1), some (.int v2), some (.int v3), some (.int v4), some (.int v5), some (.int v6), none, none, none, none, none, none] [] := by
  refine g_iconst C dX9_look_96 kc_0 ?_
  exact k_X9_look_97 C v1 v2 v3 v4 v5 v6 (nI 0) K13 hK13 σ h
def wp_X9_look_63 (v1 : Int32) (v2 : Int32) (v3 : Int32) (v4 : Int32) (v5 : Int32) (s0 : Int32) (K13 : Int32 → Sg → Prop) (Q : Sg → Prop) (σ : Sg) : Prop :=
  vp_in v4 (aN 50) ∧ ((((gA σ 50 (Int32.toNatClampNeg v4)) = (-9 : Int32) → wp_X9_look_96 v1 v2 v3 v4 v5 s0 K13 Q σ) ∧ (¬ (gA σ 50 (Int32.toNatClampNeg v4)) = (-9 : Int32) → vp_in v4 (aN 50) ∧ (vp_in (gA σ 50 (Int32.toNatClampNeg v4)) (aN 57) ∧ ((((gA σ 57 (Int32.toNatClampNeg (gA σ 50 (Int32.toNatClampNeg v4)))) = (nI 0) → wp_X9_look_96 v1 v2 v3 v4 v5 s0 K13 Q σ) ∧ (¬ (gA σ 57 (Int32.toNatClampNeg (gA σ 50 (Int32.toNatClampNeg v4)))) = (nI 0) → wp_X9_look_97 v1 v2 v3 v4 v5 s0 (nI 1) K13 Q σ)))))))
set_option maxHeartbeats 4000000 in
set_option maxRecDepth 100000 in
theorem k_X9_look_63 {Q : Sg → Prop} (C : Cx p s m args meth c D cy ad b0 yX9_look cX9_look 13 none) (v1 : Int32) (v2 : Int32) (v3 : Int32) (v4 : Int32) (v5 : Int32) (s0 : Int32) (K13 : Int32 → Sg → Prop) (hK13 : ∀ (z4 : Int32) (σ : Sg), K13 z4 σ → gV p l e rm_X9_look s m args below meth c D cy ad b0 Q 13 13 σ [some (.ref (ad 10)), some (.int v1), some (.int v2), some (.int v3), some (.int z4), none, none, none, none, none, none, none, none] []) (σ : Sg) (h : wp_X9_look_63 v1 v2 v3 v4 v5 s0 K13 Q σ) : gV p l e rm_X9_look s m args below meth c D cy ad b0 Q 13 63 σ [some (.ref (ad 10)), some (.int v1), some (.int v2), some (.int v3), some (.int v4), some (.int v5), none, none, none, none, none, none, none] [.int s0] := by
  refine g_istore C [some (.ref (ad 10)), some (.int v1), some (.int v2), some (.int v3), some (.int v4), some (.int v5), some (.int s0), none, none, none, none, none, none] dX9_look_63 (by decide) rfl ?_
  refine g_aload_n C dX9_look_65 rfl ?_
  refine fget_10_7_X9_20 C rfl dX9_look_66 ?_
  refine g_iload C dX9_look_69 rfl ?_
  refine g_iald C (by decide) h.1 dX9_look_71 ?_
  have h := h.2
  refine g_bipush C dX9_look_72 kb_m9 ?_
  refine g_icmp_eq C 96 dX9_look_74 (by decide) (fun c74 => ?_) (fun c74 => ?_)
  · have h := h.1 c74
    exact k_X9_look_96 C v1 v2 v3 v4 v5 s0 K13 hK13 σ h
  · have h := h.2 c74
    refine g_aload_n C dX9_look_77 rfl ?_
    refine fget_10_20_X9_42 C rfl dX9_look_78 ?_
    refine g_aload_n C dX9_look_81 rfl ?_
    refine fget_10_7_X9_20 C rfl dX9_look_82 ?_
    refine g_iload C dX9_look_85 rfl ?_
    refine g_iald C (by decide) h.1 dX9_look_87 ?_
    have h := h.2
    refine g_zald C (by decide) h.1 dX9_look_88 ?_
    have h := h.2
    refine g_if_eq C 96 dX9_look_89 (by decide) (fun c89 => ?_) (fun c89 => ?_)
    · have h := h.1 c89
      exact k_X9_look_96 C v1 v2 v3 v4 v5 s0 K13 hK13 σ h
    · have h := h.2 c89
      refine g_iconst C dX9_look_92 kc_1 ?_
      refine g_goto C 97 dX9_look_93 (by decide) ?_
      exact k_X9_look_97 C v1 v2 v3 v4 v5 s0 (nI 1) K13 hK13 σ h
def wp_X9_look_62 (v1 : Int32) (v2 : Int32) (v3 : Int32) (v4 : Int32) (v5 : Int32) (K13 : Int32 → Sg → Prop) (Q : Sg → Prop) (σ : Sg) : Prop :=
  wp_X9_look_63 v1 v2 v3 v4 v5 (nI 0) K13 Q σ
set_option maxHeartbeats 4000000 in
set_option maxRecDepth 100000 in
theorem k_X9_look_62 {Q : Sg → Prop} (C : Cx p s m args meth c D cy ad b0 yX9_look cX9_look 13 none) (v1 : Int32) (v2 : Int32) (v3 : Int32) (v4 : Int32) (v5 : Int32) (K13 : Int32 → Sg → Prop) (hK13 : ∀ (z4 : Int32) (σ : Sg), K13 z4 σ → gV p l e rm_X9_look s m args below meth c D cy ad b0 Q 13 13 σ [some (.ref (ad 10)), some (.int v1), some (.int v2), some (.int v3), some (.int z4), none, none, none, none, none, none, none, none] []) (σ : Sg) (h : wp_X9_look_62 v1 v2 v3 v4 v5 K13 Q σ) : gV p l e rm_X9_look s m args below meth c D cy ad b0 Q 13 62 σ [some (.ref (ad 10)), some (.int v1), some (.int v2), some (.int v3), some (.int v4), some (.int v5), none, none, none, none, none, none, none] [] := by
  refine g_iconst C dX9_look_62 kc_0 ?_
  exact k_X9_look_63 C v1 v2 v3 v4 v5 (nI 0) K13 hK13 σ h
def wb_X9_look_13 (v1 : Int32) (v2 : Int32) (v3 : Int32) (v4 : Int32) (K13 : Int32 → Sg → Prop) (Q : Sg → Prop) (σ : Sg) : Prop :=
  (((gF σ 10 4) ≤ v4 → Q σ) ∧ (¬ (gF σ 10 4) ≤ v4 → vp_in v4 (aN 48) ∧ (∀ x29 : Int32, x29 = (gA σ 48 (Int32.toNatClampNeg v4)) → (vp_in v4 (aN 49) ∧ ((((gA σ 49 (Int32.toNatClampNeg v4)) = (-9 : Int32) → wp_X9_look_62 v1 v2 v3 v4 x29 K13 Q σ) ∧ (¬ (gA σ 49 (Int32.toNatClampNeg v4)) = (-9 : Int32) → vp_in v4 (aN 49) ∧ (vp_in (gA σ 49 (Int32.toNatClampNeg v4)) (aN 57) ∧ ((((gA σ 57 (Int32.toNatClampNeg (gA σ 49 (Int32.toNatClampNeg v4)))) = (nI 0) → wp_X9_look_62 v1 v2 v3 v4 x29 K13 Q σ) ∧ (¬ (gA σ 57 (Int32.toNatClampNeg (gA σ 49 (Int32.toNatClampNeg v4)))) = (nI 0) → wp_X9_look_63 v1 v2 v3 v4 x29 (nI 1) K13 Q σ)))))))))))
set_option maxHeartbeats 4000000 in
set_option maxRecDepth 100000 in
theorem kb_X9_look_13 {Q : Sg → Prop} (C : Cx p s m args meth c D cy ad b0 yX9_look cX9_look 13 none) (v1 : Int32) (v2 : Int32) (v3 : Int32) (v4 : Int32) (K13 : Int32 → Sg → Prop) (hK13 : ∀ (z4 : Int32) (σ : Sg), K13 z4 σ → gV p l e rm_X9_look s m args below meth c D cy ad b0 Q 13 13 σ [some (.ref (ad 10)), some (.int v1), some (.int v2), some (.int v3), some (.int z4), none, none, none, none, none, none, none, none] []) (σ : Sg) (h : wb_X9_look_13 v1 v2 v3 v4 K13 Q σ) : gV p l e rm_X9_look s m args below meth c D cy ad b0 Q 13 13 σ [some (.ref (ad 10)), some (.int v1), some (.int v2), some (.int v3), some (.int v4), none, none, none, none, none, none, none, none] [] := by
  refine g_iload C dX9_look_13 rfl ?_
  refine g_aload_n C dX9_look_15 rfl ?_
  refine fget_10_4_X9_143 C rfl dX9_look_16 ?_
  refine g_icmp_ge C 608 dX9_look_19 (by decide) (fun c19 => ?_) (fun c19 => ?_)
  · have h := h.1 c19
    exact g_vret C dX9_look_608 h
  · have h := h.2 c19
    refine g_aload_n C dX9_look_22 rfl ?_
    refine fget_10_5_X9_13 C rfl dX9_look_23 ?_
    refine g_iload C dX9_look_26 rfl ?_
    refine g_iald C (by decide) h.1 dX9_look_28 ?_
    have h := h.2
    refine g_topi (fun x29 e_x29 => ?_)
    have h := h x29 e_x29
    refine g_istore C [some (.ref (ad 10)), some (.int v1), some (.int v2), some (.int v3), some (.int v4), some (.int x29), none, none, none, none, none, none, none] dX9_look_29 (by decide) rfl ?_
    refine g_aload_n C dX9_look_31 rfl ?_
    refine fget_10_6_X9_17 C rfl dX9_look_32 ?_
    refine g_iload C dX9_look_35 rfl ?_
    refine g_iald C (by decide) h.1 dX9_look_37 ?_
    have h := h.2
    refine g_bipush C dX9_look_38 kb_m9 ?_
    refine g_icmp_eq C 62 dX9_look_40 (by decide) (fun c40 => ?_) (fun c40 => ?_)
    · have h := h.1 c40
      exact k_X9_look_62 C v1 v2 v3 v4 x29 K13 hK13 σ h
    · have h := h.2 c40
      refine g_aload_n C dX9_look_43 rfl ?_
      refine fget_10_20_X9_42 C rfl dX9_look_44 ?_
      refine g_aload_n C dX9_look_47 rfl ?_
      refine fget_10_6_X9_17 C rfl dX9_look_48 ?_
      refine g_iload C dX9_look_51 rfl ?_
      refine g_iald C (by decide) h.1 dX9_look_53 ?_
      have h := h.2
      refine g_zald C (by decide) h.1 dX9_look_54 ?_
      have h := h.2
      refine g_if_eq C 62 dX9_look_55 (by decide) (fun c55 => ?_) (fun c55 => ?_)
      · have h := h.1 c55
        exact k_X9_look_62 C v1 v2 v3 v4 x29 K13 hK13 σ h
      · have h := h.2 c55
        refine g_iconst C dX9_look_58 kc_1 ?_
        refine g_goto C 63 dX9_look_59 (by decide) ?_
        exact k_X9_look_63 C v1 v2 v3 v4 x29 (nI 1) K13 hK13 σ h
def wl_X9_look_13 (v1 : Int32) (v2 : Int32) (v3 : Int32) (Q : Sg → Prop) : Nat → Int32 → Sg → Prop
  | 0, _, _ => False
  | n + 1, v4, σ => wb_X9_look_13 v1 v2 v3 v4 (wl_X9_look_13 v1 v2 v3 Q n) Q σ
set_option maxHeartbeats 4000000 in
set_option maxRecDepth 100000 in
theorem kl_X9_look_13 {Q : Sg → Prop} (C : Cx p s m args meth c D cy ad b0 yX9_look cX9_look 13 none) (v1 : Int32) (v2 : Int32) (v3 : Int32) : ∀ (n : Nat) (v4 : Int32) (σ : Sg), wl_X9_look_13 v1 v2 v3 Q n v4 σ → gV p l e rm_X9_look s m args below meth c D cy ad b0 Q 13 13 σ [some (.ref (ad 10)), some (.int v1), some (.int v2), some (.int v3), some (.int v4), none, none, none, none, none, none, none, none] [] := by
  intro n
  induction n with
  | zero => intro v4 σ h; exact False.elim h
  | succ n ih =>
    intro v4 σ h
    exact kb_X9_look_13 C v1 v2 v3 v4 (wl_X9_look_13 v1 v2 v3 Q n) (fun z4 σ h => ih z4 σ h) σ h
def wp_X9_look (a0 : Int32) (a1 : Int32) (a2 : Int32) (σ : Sg) (Q : Sg → Prop) : Prop :=
  ∀ σ1 : Sg, σ1 = stF σ 10 21 (nI 0) → (∀ σ2 : Sg, σ2 = stF σ1 10 22 (nI 0) → (∃ n, wl_X9_look_13 a0 a1 a2 Q n (nI 0) σ2))
set_option maxHeartbeats 4000000 in
set_option maxRecDepth 100000 in
theorem c_X9_look (l : Launch) (D : va_G) (cy : Nat → ClassId) (ad : Nat → Nat) (b0 : Nat) (hA : AdOk ad b0) (a0 : Int32) (a1 : Int32) (a2 : Int32) : Ctv l D cy ad b0 yX9_look cX9_look 13 none rm_X9_look [.ref (ad 10), .int a0, .int a1, .int a2] (fun σ Q => wp_X9_look a0 a1 a2 σ Q) := by
  intro σ Q h
  refine g_enter hA rfl (Nat.le_of_ble_eq_true rfl) [some (.ref (ad 10)), some (.int a0), some (.int a1), some (.int a2), none, none, none, none, none, none, none, none, none] rfl ?_
  intro p e s m args below meth c C
  refine g_aload_n C dX9_look_0 rfl ?_
  refine g_iconst C dX9_look_1 kc_0 ?_
  refine fput_10_21_X9_197 C rfl dX9_look_2 (fun σ1 e_σ1 => ?_)
  have h := h σ1 e_σ1
  refine g_aload_n C dX9_look_5 rfl ?_
  refine g_iconst C dX9_look_6 kc_0 ?_
  refine fput_10_22_X9_200 C rfl dX9_look_7 (fun σ2 e_σ2 => ?_)
  have h := h σ2 e_σ2
  refine g_iconst C dX9_look_10 kc_0 ?_
  refine g_istore C [some (.ref (ad 10)), some (.int a0), some (.int a1), some (.int a2), some (.int (nI 0)), none, none, none, none, none, none, none, none] dX9_look_11 (by decide) rfl ?_
  obtain ⟨n, h⟩ := h
  exact kl_X9_look_13 C a0 a1 a2 n (nI 0) σ2 h
def rm_X9_wide : Room := { frames := 0, cells := 0, slots := 0, locals := 0 }
def wp_X9_wide (σ : Sg) (Q : Int32 → Sg → Prop) : Prop :=
  Q ((nI 1) <<< ((gF σ 10 15) &&& 31)) σ
set_option maxHeartbeats 4000000 in
set_option maxRecDepth 100000 in
theorem c_X9_wide (l : Launch) (D : va_G) (cy : Nat → ClassId) (ad : Nat → Nat) (b0 : Nat) (hA : AdOk ad b0) : Cti l D cy ad b0 yX9_wide cX9_wide 1 (some .int) rm_X9_wide [.ref (ad 10)] (fun σ Q => wp_X9_wide σ Q) := by
  intro σ Q h
  refine g_enter hA rfl (Nat.le_of_ble_eq_true rfl) [some (.ref (ad 10))] rfl ?_
  intro p e s m args below meth c C
  refine g_iconst C dX9_wide_0 kc_1 ?_
  refine g_aload_n C dX9_wide_1 rfl ?_
  refine fget_10_15_X9_185 C rfl dX9_wide_2 ?_
  refine g_ishl C dX9_wide_5 ?_
  exact g_iret C dX9_wide_6 h
def rm_X9_spot : Room := { frames := 1, cells := 0, slots := 0, locals := 20 }
def wp_X9_spot (a0 : Int32) (a1 : Int32) (a2 : Int32) (σ : Sg) (Q : Int32 → Sg → Prop) : Prop :=
  wp_X9_wide σ (fun r1 σ2 => Q (((((nI 4) * a0) + a1) * r1) + a2) σ2)
set_option maxHeartbeats 4000000 in
set_option maxRecDepth 100000 in
theorem c_X9_spot (l : Launch) (D : va_G) (cy : Nat → ClassId) (ad : Nat → Nat) (b0 : Nat) (hA : AdOk ad b0) (a0 : Int32) (a1 : Int32) (a2 : Int32) : Cti l D cy ad b0 yX9_spot cX9_spot 4 (some .int) rm_X9_spot [.ref (ad 10), .int a0, .int a1, .int a2] (fun σ Q => wp_X9_spot a0 a1 a2 σ Q) := by
  intro σ Q h
  refine g_enter hA rfl (Nat.le_of_ble_eq_true rfl) [some (.ref (ad 10)), some (.int a0), some (.int a1), some (.int a2)] rfl ?_
  intro p e s m args below meth c C
  refine g_iconst C dX9_spot_0 kc_4 ?_
  refine g_iload_n C dX9_spot_1 rfl ?_
  refine g_imul C dX9_spot_2 ?_
  refine g_iload_n C dX9_spot_3 rfl ?_
  refine g_iadd C dX9_spot_4 ?_
  refine g_aload_n C dX9_spot_5 rfl ?_
  refine g_callVi C 10 [] (c_X9_wide l D cy ad b0 C.A) cal_X9_wide mw_588 (by decide) rfl rfl ⟨Nat.le_of_ble_eq_true rfl, Nat.le_of_ble_eq_true rfl⟩ ⟨rfl, rfl⟩ ⟨Nat.zero_le _, Nat.zero_le _⟩ (Nat.le_of_ble_eq_true rfl) rfl dX9_spot_6 h (fun r1 σ2 h => ?_)
  refine g_imul C dX9_spot_9 ?_
  refine g_iload_n C dX9_spot_10 rfl ?_
  refine g_iadd C dX9_spot_11 ?_
  exact g_iret C dX9_spot_12 h
def rm_X9_prepare : Room := { frames := 2, cells := 0, slots := 0, locals := 43 }
def wp_X9_prepare_281 (v1 : Int32) (v2 : Int32) (K175 : Int32 → Sg → Prop) (Q : Sg → Prop) (σ : Sg) : Prop :=
  K175 v2 σ
set_option maxHeartbeats 4000000 in
set_option maxRecDepth 100000 in
theorem k_X9_prepare_281 {Q : Sg → Prop} (C : Cx p s m args meth c D cy ad b0 yX9_prepare cX9_prepare 6 none) (v1 : Int32) (v2 : Int32) (K175 : Int32 → Sg → Prop) (hK175 : ∀ (z2 : Int32) (σ : Sg), K175 z2 σ → gV p l e rm_X9_prepare s m args below meth c D cy ad b0 Q 6 175 σ [some (.ref (ad 10)), some (.int v1), some (.int z2), none, none, none] []) (σ : Sg) (h : wp_X9_prepare_281 v1 v2 K175 Q σ) : gV p l e rm_X9_prepare s m args below meth c D cy ad b0 Q 6 281 σ [some (.ref (ad 10)), some (.int v1), some (.int v2), none, none, none] [] := by
  refine g_goto C 175 dX9_prepare_281 (by decide) ?_
  exact hK175 v2 σ h
def wp_X9_prepare_275 (v1 : Int32) (v2 : Int32) (v3 : Int32) (K183 : Int32 → Int32 → Sg → Prop) (Q : Sg → Prop) (σ : Sg) : Prop :=
  ∀ x275 : Int32, x275 = v3 + (nI 1) → (K183 v2 x275 σ)
set_option maxHeartbeats 4000000 in
set_option maxRecDepth 100000 in
theorem k_X9_prepare_275 {Q : Sg → Prop} (C : Cx p s m args meth c D cy ad b0 yX9_prepare cX9_prepare 6 none) (v1 : Int32) (v2 : Int32) (v3 : Int32) (K183 : Int32 → Int32 → Sg → Prop) (hK183 : ∀ (z2 : Int32) (z3 : Int32) (σ : Sg), K183 z2 z3 σ → gV p l e rm_X9_prepare s m args below meth c D cy ad b0 Q 6 183 σ [some (.ref (ad 10)), some (.int v1), some (.int z2), some (.int z3), none, none] []) (σ : Sg) (h : wp_X9_prepare_275 v1 v2 v3 K183 Q σ) : gV p l e rm_X9_prepare s m args below meth c D cy ad b0 Q 6 275 σ [some (.ref (ad 10)), some (.int v1), some (.int v2), some (.int v3), none, none] [] := by
  obtain ⟨x275, e_x275⟩ : ∃ v : Int32, v = v3 + (nI 1) := ⟨_, rfl⟩
  have h := h x275 e_x275
  refine g_iinc C [some (.ref (ad 10)), some (.int v1), some (.int v2), some (.int x275), none, none] dX9_prepare_275 rfl e_x275.symm (by decide) rfl ?_
  refine g_goto C 183 dX9_prepare_278 (by decide) ?_
  exact hK183 v2 x275 σ h
def wp_X9_prepare_269 (v1 : Int32) (v2 : Int32) (v3 : Int32) (v4 : Int32) (K193 : Int32 → Int32 → Sg → Prop) (Q : Sg → Prop) (σ : Sg) : Prop :=
  ∀ x269 : Int32, x269 = v4 + (nI 1) → (K193 v2 x269 σ)
set_option maxHeartbeats 4000000 in
set_option maxRecDepth 100000 in
theorem k_X9_prepare_269 {Q : Sg → Prop} (C : Cx p s m args meth c D cy ad b0 yX9_prepare cX9_prepare 6 none) (v1 : Int32) (v2 : Int32) (v3 : Int32) (v4 : Int32) (K193 : Int32 → Int32 → Sg → Prop) (hK193 : ∀ (z2 : Int32) (z4 : Int32) (σ : Sg), K193 z2 z4 σ → gV p l e rm_X9_prepare s m args below meth c D cy ad b0 Q 6 193 σ [some (.ref (ad 10)), some (.int v1), some (.int z2), some (.int v3), some (.int z4), none] []) (σ : Sg) (h : wp_X9_prepare_269 v1 v2 v3 v4 K193 Q σ) : gV p l e rm_X9_prepare s m args below meth c D cy ad b0 Q 6 269 σ [some (.ref (ad 10)), some (.int v1), some (.int v2), some (.int v3), some (.int v4), none] [] := by
  obtain ⟨x269, e_x269⟩ : ∃ v : Int32, v = v4 + (nI 1) := ⟨_, rfl⟩
  have h := h x269 e_x269
  refine g_iinc C [some (.ref (ad 10)), some (.int v1), some (.int v2), some (.int v3), some (.int x269), none] dX9_prepare_269 rfl e_x269.symm (by decide) rfl ?_
  refine g_goto C 193 dX9_prepare_272 (by decide) ?_
  exact hK193 v2 x269 σ h
def wb_X9_prepare_193 (v1 : Int32) (v2 : Int32) (v3 : Int32) (v4 : Int32) (K193 : Int32 → Int32 → Sg → Prop) (K275 : Int32 → Sg → Prop) (Q : Sg → Prop) (σ : Sg) : Prop :=
  wp_X9_wide σ (fun r1 σ2 => ((r1 ≤ v4 → K275 v2 σ2) ∧ (¬ r1 ≤ v4 → wp_X9_wide σ2 (fun r3 σ4 => wp_X9_wide σ4 (fun r5 σ6 => vp_in ((v3 * r5) + v4) (aN 59) ∧ (∀ x225 : Int32, x225 = (((v3 / (nI 4)) * r3) + (gA σ6 59 (Int32.toNatClampNeg ((v3 * r5) + v4)))) → (vp_in v3 (aN 58) ∧ (wp_X9_wide σ6 (fun r7 σ8 => vp_in (((gA σ6 58 (Int32.toNatClampNeg v3)) * r7) + v4) (aN 61) ∧ ((((gA σ8 61 (Int32.toNatClampNeg (((gA σ6 58 (Int32.toNatClampNeg v3)) * r7) + v4))) = (nI 0) → wp_X9_prepare_269 v1 v2 v3 v4 K193 Q σ8) ∧ (¬ (gA σ8 61 (Int32.toNatClampNeg (((gA σ6 58 (Int32.toNatClampNeg v3)) * r7) + v4))) = (nI 0) → vp_in x225 (aN 61) ∧ (((¬ (gA σ8 61 (Int32.toNatClampNeg x225)) = (nI 0) → wp_X9_prepare_269 v1 v2 v3 v4 K193 Q σ8) ∧ ((gA σ8 61 (Int32.toNatClampNeg x225)) = (nI 0) → vp_in x225 (aN 61) ∧ (∀ σ9 : Sg, σ9 = stA σ8 61 (Int32.toNatClampNeg x225) (vp_nar .boolean (nI 1)) → (wp_X9_prepare_269 v1 (nI 1) v3 v4 K193 Q σ9)))))))))))))))))
set_option maxHeartbeats 4000000 in
set_option maxRecDepth 100000 in
theorem kb_X9_prepare_193 {Q : Sg → Prop} (C : Cx p s m args meth c D cy ad b0 yX9_prepare cX9_prepare 6 none) (v1 : Int32) (v2 : Int32) (v3 : Int32) (v4 : Int32) (K193 : Int32 → Int32 → Sg → Prop) (K275 : Int32 → Sg → Prop) (hK193 : ∀ (z2 : Int32) (z4 : Int32) (σ : Sg), K193 z2 z4 σ → gV p l e rm_X9_prepare s m args below meth c D cy ad b0 Q 6 193 σ [some (.ref (ad 10)), some (.int v1), some (.int z2), some (.int v3), some (.int z4), none] []) (hK275 : ∀ (z2 : Int32) (σ : Sg), K275 z2 σ → gV p l e rm_X9_prepare s m args below meth c D cy ad b0 Q 6 275 σ [some (.ref (ad 10)), some (.int v1), some (.int z2), some (.int v3), none, none] []) (σ : Sg) (h : wb_X9_prepare_193 v1 v2 v3 v4 K193 K275 Q σ) : gV p l e rm_X9_prepare s m args below meth c D cy ad b0 Q 6 193 σ [some (.ref (ad 10)), some (.int v1), some (.int v2), some (.int v3), some (.int v4), none] [] := by
  refine g_iload C dX9_prepare_193 rfl ?_
  refine g_aload_n C dX9_prepare_195 rfl ?_
  refine g_callVi C 10 [] (c_X9_wide l D cy ad b0 C.A) cal_X9_wide mw_588 (by decide) rfl rfl ⟨Nat.le_of_ble_eq_true rfl, Nat.le_of_ble_eq_true rfl⟩ ⟨rfl, rfl⟩ ⟨Nat.zero_le _, Nat.zero_le _⟩ (Nat.le_of_ble_eq_true rfl) rfl dX9_prepare_196 h (fun r1 σ2 h => ?_)
  refine g_icmp_ge C 275 dX9_prepare_199 (by decide) (fun c199 => ?_) (fun c199 => ?_)
  · have h := h.1 c199
    refine g_mask [true, true, true, true, false, false] rfl ?_
    exact hK275 v2 σ2 h
  · have h := h.2 c199
    refine g_iload_n C dX9_prepare_202 rfl ?_
    refine g_iconst C dX9_prepare_203 kc_4 ?_
    refine g_idiv C dX9_prepare_204 (by decide) ?_
    refine g_aload_n C dX9_prepare_205 rfl ?_
    refine g_callVi C 10 [] (c_X9_wide l D cy ad b0 C.A) cal_X9_wide mw_588 (by decide) rfl rfl ⟨Nat.le_of_ble_eq_true rfl, Nat.le_of_ble_eq_true rfl⟩ ⟨rfl, rfl⟩ ⟨Nat.zero_le _, Nat.zero_le _⟩ (Nat.le_of_ble_eq_true rfl) rfl dX9_prepare_206 h (fun r3 σ4 h => ?_)
    refine g_imul C dX9_prepare_209 ?_
    refine g_aload_n C dX9_prepare_210 rfl ?_
    refine fget_10_24_X9_48 C rfl dX9_prepare_211 ?_
    refine g_iload_n C dX9_prepare_214 rfl ?_
    refine g_aload_n C dX9_prepare_215 rfl ?_
    refine g_callVi C 10 [] (c_X9_wide l D cy ad b0 C.A) cal_X9_wide mw_588 (by decide) rfl rfl ⟨Nat.le_of_ble_eq_true rfl, Nat.le_of_ble_eq_true rfl⟩ ⟨rfl, rfl⟩ ⟨Nat.zero_le _, Nat.zero_le _⟩ (Nat.le_of_ble_eq_true rfl) rfl dX9_prepare_216 h (fun r5 σ6 h => ?_)
    refine g_imul C dX9_prepare_219 ?_
    refine g_iload C dX9_prepare_220 rfl ?_
    refine g_iadd C dX9_prepare_222 ?_
    refine g_iald C (by decide) h.1 dX9_prepare_223 ?_
    have h := h.2
    refine g_iadd C dX9_prepare_224 ?_
    refine g_topi (fun x225 e_x225 => ?_)
    have h := h x225 e_x225
    refine g_istore C [some (.ref (ad 10)), some (.int v1), some (.int v2), some (.int v3), some (.int v4), some (.int x225)] dX9_prepare_225 (by decide) rfl ?_
    refine g_aload_n C dX9_prepare_227 rfl ?_
    refine fget_10_26_X9_54 C rfl dX9_prepare_228 ?_
    refine g_aload_n C dX9_prepare_231 rfl ?_
    refine fget_10_23_X9_45 C rfl dX9_prepare_232 ?_
    refine g_iload_n C dX9_prepare_235 rfl ?_
    refine g_iald C (by decide) h.1 dX9_prepare_236 ?_
    have h := h.2
    refine g_aload_n C dX9_prepare_237 rfl ?_
    refine g_callVi C 10 [] (c_X9_wide l D cy ad b0 C.A) cal_X9_wide mw_588 (by decide) rfl rfl ⟨Nat.le_of_ble_eq_true rfl, Nat.le_of_ble_eq_true rfl⟩ ⟨rfl, rfl⟩ ⟨Nat.zero_le _, Nat.zero_le _⟩ (Nat.le_of_ble_eq_true rfl) rfl dX9_prepare_238 h (fun r7 σ8 h => ?_)
    refine g_imul C dX9_prepare_241 ?_
    refine g_iload C dX9_prepare_242 rfl ?_
    refine g_iadd C dX9_prepare_244 ?_
    refine g_zald C (by decide) h.1 dX9_prepare_245 ?_
    have h := h.2
    refine g_if_eq C 269 dX9_prepare_246 (by decide) (fun c246 => ?_) (fun c246 => ?_)
    · have h := h.1 c246
      refine g_mask [true, true, true, true, true, false] rfl ?_
      exact k_X9_prepare_269 C v1 v2 v3 v4 K193 hK193 σ8 h
    · have h := h.2 c246
      refine g_aload_n C dX9_prepare_249 rfl ?_
      refine fget_10_26_X9_54 C rfl dX9_prepare_250 ?_
      refine g_iload C dX9_prepare_253 rfl ?_
      refine g_zald C (by decide) h.1 dX9_prepare_255 ?_
      have h := h.2
      refine g_if_ne C 269 dX9_prepare_256 (by decide) (fun c256 => ?_) (fun c256 => ?_)
      · have h := h.1 c256
        refine g_mask [true, true, true, true, true, false] rfl ?_
        exact k_X9_prepare_269 C v1 v2 v3 v4 K193 hK193 σ8 h
      · have h := h.2 c256
        refine g_aload_n C dX9_prepare_259 rfl ?_
        refine fget_10_26_X9_54 C rfl dX9_prepare_260 ?_
        refine g_iload C dX9_prepare_263 rfl ?_
        refine g_iconst C dX9_prepare_265 kc_1 ?_
        refine g_zast C (by decide) h.1 dX9_prepare_266 (fun σ9 e_σ9 => ?_)
        have h := h.2 σ9 e_σ9
        refine g_iconst C dX9_prepare_267 kc_1 ?_
        refine g_istore_n C [some (.ref (ad 10)), some (.int v1), some (.int (nI 1)), some (.int v3), some (.int v4), some (.int x225)] dX9_prepare_268 (by decide) rfl ?_
        refine g_mask [true, true, true, true, true, false] rfl ?_
        exact k_X9_prepare_269 C v1 (nI 1) v3 v4 K193 hK193 σ9 h
def wl_X9_prepare_193 (v1 : Int32) (v3 : Int32) (K275 : Int32 → Sg → Prop) (Q : Sg → Prop) : Nat → Int32 → Int32 → Sg → Prop
  | 0, _, _, _ => False
  | n + 1, v2, v4, σ => wb_X9_prepare_193 v1 v2 v3 v4 (wl_X9_prepare_193 v1 v3 K275 Q n) K275 Q σ
set_option maxHeartbeats 4000000 in
set_option maxRecDepth 100000 in
theorem kl_X9_prepare_193 {Q : Sg → Prop} (C : Cx p s m args meth c D cy ad b0 yX9_prepare cX9_prepare 6 none) (v1 : Int32) (v3 : Int32) (K275 : Int32 → Sg → Prop) (hK275 : ∀ (z2 : Int32) (σ : Sg), K275 z2 σ → gV p l e rm_X9_prepare s m args below meth c D cy ad b0 Q 6 275 σ [some (.ref (ad 10)), some (.int v1), some (.int z2), some (.int v3), none, none] []) : ∀ (n : Nat) (v2 : Int32) (v4 : Int32) (σ : Sg), wl_X9_prepare_193 v1 v3 K275 Q n v2 v4 σ → gV p l e rm_X9_prepare s m args below meth c D cy ad b0 Q 6 193 σ [some (.ref (ad 10)), some (.int v1), some (.int v2), some (.int v3), some (.int v4), none] [] := by
  intro n
  induction n with
  | zero => intro v2 v4 σ h; exact False.elim h
  | succ n ih =>
    intro v2 v4 σ h
    exact kb_X9_prepare_193 C v1 v2 v3 v4 (wl_X9_prepare_193 v1 v3 K275 Q n) K275 (fun z2 z4 σ h => ih z2 z4 σ h) hK275 σ h
def wb_X9_prepare_183 (v1 : Int32) (v2 : Int32) (v3 : Int32) (K183 : Int32 → Int32 → Sg → Prop) (K281 : Int32 → Sg → Prop) (Q : Sg → Prop) (σ : Sg) : Prop :=
  ((((nI 4) * v1) ≤ v3 → K281 v2 σ) ∧ (¬ ((nI 4) * v1) ≤ v3 → ∃ n, wl_X9_prepare_193 v1 v3 (fun z2 σ9 => wp_X9_prepare_275 v1 z2 v3 K183 Q σ9) Q n v2 (nI 0) σ))
set_option maxHeartbeats 4000000 in
set_option maxRecDepth 100000 in
theorem kb_X9_prepare_183 {Q : Sg → Prop} (C : Cx p s m args meth c D cy ad b0 yX9_prepare cX9_prepare 6 none) (v1 : Int32) (v2 : Int32) (v3 : Int32) (K183 : Int32 → Int32 → Sg → Prop) (K281 : Int32 → Sg → Prop) (hK183 : ∀ (z2 : Int32) (z3 : Int32) (σ : Sg), K183 z2 z3 σ → gV p l e rm_X9_prepare s m args below meth c D cy ad b0 Q 6 183 σ [some (.ref (ad 10)), some (.int v1), some (.int z2), some (.int z3), none, none] []) (hK281 : ∀ (z2 : Int32) (σ : Sg), K281 z2 σ → gV p l e rm_X9_prepare s m args below meth c D cy ad b0 Q 6 281 σ [some (.ref (ad 10)), some (.int v1), some (.int z2), none, none, none] []) (σ : Sg) (h : wb_X9_prepare_183 v1 v2 v3 K183 K281 Q σ) : gV p l e rm_X9_prepare s m args below meth c D cy ad b0 Q 6 183 σ [some (.ref (ad 10)), some (.int v1), some (.int v2), some (.int v3), none, none] [] := by
  refine g_iload_n C dX9_prepare_183 rfl ?_
  refine g_iconst C dX9_prepare_184 kc_4 ?_
  refine g_iload_n C dX9_prepare_185 rfl ?_
  refine g_imul C dX9_prepare_186 ?_
  refine g_icmp_ge C 281 dX9_prepare_187 (by decide) (fun c187 => ?_) (fun c187 => ?_)
  · have h := h.1 c187
    refine g_mask [true, true, true, false, false, false] rfl ?_
    exact hK281 v2 σ h
  · have h := h.2 c187
    refine g_iconst C dX9_prepare_190 kc_0 ?_
    refine g_istore C [some (.ref (ad 10)), some (.int v1), some (.int v2), some (.int v3), some (.int (nI 0)), none] dX9_prepare_191 (by decide) rfl ?_
    obtain ⟨n, h⟩ := h
    exact kl_X9_prepare_193 C v1 v3 _ (fun z2 σ9 h => by exact k_X9_prepare_275 C v1 z2 v3 K183 hK183 σ9 h) n v2 (nI 0) σ h
def wl_X9_prepare_183 (v1 : Int32) (K281 : Int32 → Sg → Prop) (Q : Sg → Prop) : Nat → Int32 → Int32 → Sg → Prop
  | 0, _, _, _ => False
  | n + 1, v2, v3, σ => wb_X9_prepare_183 v1 v2 v3 (wl_X9_prepare_183 v1 K281 Q n) K281 Q σ
set_option maxHeartbeats 4000000 in
set_option maxRecDepth 100000 in
theorem kl_X9_prepare_183 {Q : Sg → Prop} (C : Cx p s m args meth c D cy ad b0 yX9_prepare cX9_prepare 6 none) (v1 : Int32) (K281 : Int32 → Sg → Prop) (hK281 : ∀ (z2 : Int32) (σ : Sg), K281 z2 σ → gV p l e rm_X9_prepare s m args below meth c D cy ad b0 Q 6 281 σ [some (.ref (ad 10)), some (.int v1), some (.int z2), none, none, none] []) : ∀ (n : Nat) (v2 : Int32) (v3 : Int32) (σ : Sg), wl_X9_prepare_183 v1 K281 Q n v2 v3 σ → gV p l e rm_X9_prepare s m args below meth c D cy ad b0 Q 6 183 σ [some (.ref (ad 10)), some (.int v1), some (.int v2), some (.int v3), none, none] [] := by
  intro n
  induction n with
  | zero => intro v2 v3 σ h; exact False.elim h
  | succ n ih =>
    intro v2 v3 σ h
    exact kb_X9_prepare_183 C v1 v2 v3 (wl_X9_prepare_183 v1 K281 Q n) K281 (fun z2 z3 σ h => ih z2 z3 σ h) hK281 σ h
def wb_X9_prepare_175 (v1 : Int32) (v2 : Int32) (K175 : Int32 → Sg → Prop) (Q : Sg → Prop) (σ : Sg) : Prop :=
  ((v2 = (nI 0) → Q σ) ∧ (¬ v2 = (nI 0) → ∃ n, wl_X9_prepare_183 v1 (fun z2 σ9 => wp_X9_prepare_281 v1 z2 K175 Q σ9) Q n (nI 0) (nI 0) σ))
set_option maxHeartbeats 4000000 in
set_option maxRecDepth 100000 in
theorem kb_X9_prepare_175 {Q : Sg → Prop} (C : Cx p s m args meth c D cy ad b0 yX9_prepare cX9_prepare 6 none) (v1 : Int32) (v2 : Int32) (K175 : Int32 → Sg → Prop) (hK175 : ∀ (z2 : Int32) (σ : Sg), K175 z2 σ → gV p l e rm_X9_prepare s m args below meth c D cy ad b0 Q 6 175 σ [some (.ref (ad 10)), some (.int v1), some (.int z2), none, none, none] []) (σ : Sg) (h : wb_X9_prepare_175 v1 v2 K175 Q σ) : gV p l e rm_X9_prepare s m args below meth c D cy ad b0 Q 6 175 σ [some (.ref (ad 10)), some (.int v1), some (.int v2), none, none, none] [] := by
  refine g_iload_n C dX9_prepare_175 rfl ?_
  refine g_if_eq C 284 dX9_prepare_176 (by decide) (fun c176 => ?_) (fun c176 => ?_)
  · have h := h.1 c176
    exact g_vret C dX9_prepare_284 h
  · have h := h.2 c176
    refine g_iconst C dX9_prepare_179 kc_0 ?_
    refine g_istore_n C [some (.ref (ad 10)), some (.int v1), some (.int (nI 0)), none, none, none] dX9_prepare_180 (by decide) rfl ?_
    refine g_iconst C dX9_prepare_181 kc_0 ?_
    refine g_istore_n C [some (.ref (ad 10)), some (.int v1), some (.int (nI 0)), some (.int (nI 0)), none, none] dX9_prepare_182 (by decide) rfl ?_
    obtain ⟨n, h⟩ := h
    exact kl_X9_prepare_183 C v1 _ (fun z2 σ9 h => by exact k_X9_prepare_281 C v1 z2 K175 hK175 σ9 h) n (nI 0) (nI 0) σ h
def wl_X9_prepare_175 (v1 : Int32) (Q : Sg → Prop) : Nat → Int32 → Sg → Prop
  | 0, _, _ => False
  | n + 1, v2, σ => wb_X9_prepare_175 v1 v2 (wl_X9_prepare_175 v1 Q n) Q σ
set_option maxHeartbeats 4000000 in
set_option maxRecDepth 100000 in
theorem kl_X9_prepare_175 {Q : Sg → Prop} (C : Cx p s m args meth c D cy ad b0 yX9_prepare cX9_prepare 6 none) (v1 : Int32) : ∀ (n : Nat) (v2 : Int32) (σ : Sg), wl_X9_prepare_175 v1 Q n v2 σ → gV p l e rm_X9_prepare s m args below meth c D cy ad b0 Q 6 175 σ [some (.ref (ad 10)), some (.int v1), some (.int v2), none, none, none] [] := by
  intro n
  induction n with
  | zero => intro v2 σ h; exact False.elim h
  | succ n ih =>
    intro v2 σ h
    exact kb_X9_prepare_175 C v1 v2 (wl_X9_prepare_175 v1 Q n) (fun z2 σ h => ih z2 σ h) σ h
def wp_X9_prepare_173 (v1 : Int32) (Q : Sg → Prop) (σ : Sg) : Prop :=
  ∃ n, wl_X9_prepare_175 v1 Q n (nI 1) σ
set_option maxHeartbeats 4000000 in
set_option maxRecDepth 100000 in
theorem k_X9_prepare_173 {Q : Sg → Prop} (C : Cx p s m args meth c D cy ad b0 yX9_prepare cX9_prepare 6 none) (v1 : Int32) (σ : Sg) (h : wp_X9_prepare_173 v1 Q σ) : gV p l e rm_X9_prepare s m args below meth c D cy ad b0 Q 6 173 σ [some (.ref (ad 10)), some (.int v1), none, none, none, none] [] := by
  refine g_iconst C dX9_prepare_173 kc_1 ?_
  refine g_istore_n C [some (.ref (ad 10)), some (.int v1), some (.int (nI 1)), none, none, none] dX9_prepare_174 (by decide) rfl ?_
  obtain ⟨n, h⟩ := h
  exact kl_X9_prepare_175 C v1 n (nI 1) σ h
def wp_X9_prepare_167 (v1 : Int32) (v2 : Int32) (K120 : Int32 → Sg → Prop) (Q : Sg → Prop) (σ : Sg) : Prop :=
  ∀ x167 : Int32, x167 = v2 + (nI 1) → (K120 x167 σ)
set_option maxHeartbeats 4000000 in
set_option maxRecDepth 100000 in
theorem k_X9_prepare_167 {Q : Sg → Prop} (C : Cx p s m args meth c D cy ad b0 yX9_prepare cX9_prepare 6 none) (v1 : Int32) (v2 : Int32) (K120 : Int32 → Sg → Prop) (hK120 : ∀ (z2 : Int32) (σ : Sg), K120 z2 σ → gV p l e rm_X9_prepare s m args below meth c D cy ad b0 Q 6 120 σ [some (.ref (ad 10)), some (.int v1), some (.int z2), none, none, none] []) (σ : Sg) (h : wp_X9_prepare_167 v1 v2 K120 Q σ) : gV p l e rm_X9_prepare s m args below meth c D cy ad b0 Q 6 167 σ [some (.ref (ad 10)), some (.int v1), some (.int v2), none, none, none] [] := by
  obtain ⟨x167, e_x167⟩ : ∃ v : Int32, v = v2 + (nI 1) := ⟨_, rfl⟩
  have h := h x167 e_x167
  refine g_iinc C [some (.ref (ad 10)), some (.int v1), some (.int x167), none, none, none] dX9_prepare_167 rfl e_x167.symm (by decide) rfl ?_
  refine g_goto C 120 dX9_prepare_170 (by decide) ?_
  exact hK120 x167 σ h
def wp_X9_prepare_160 (v1 : Int32) (v2 : Int32) (v3 : Int32) (s0 : Int32) (s1 : Int32) (K127 : Int32 → Sg → Prop) (Q : Sg → Prop) (σ : Sg) : Prop :=
  vp_in s1 (aN 61) ∧ (∀ σ1 : Sg, σ1 = stA σ 61 (Int32.toNatClampNeg s1) (vp_nar .boolean s0) → (∀ x161 : Int32, x161 = v3 + (nI 1) → (K127 x161 σ1)))
set_option maxHeartbeats 4000000 in
set_option maxRecDepth 100000 in
theorem k_X9_prepare_160 {Q : Sg → Prop} (C : Cx p s m args meth c D cy ad b0 yX9_prepare cX9_prepare 6 none) (v1 : Int32) (v2 : Int32) (v3 : Int32) (s0 : Int32) (s1 : Int32) (K127 : Int32 → Sg → Prop) (hK127 : ∀ (z3 : Int32) (σ : Sg), K127 z3 σ → gV p l e rm_X9_prepare s m args below meth c D cy ad b0 Q 6 127 σ [some (.ref (ad 10)), some (.int v1), some (.int v2), some (.int z3), none, none] []) (σ : Sg) (h : wp_X9_prepare_160 v1 v2 v3 s0 s1 K127 Q σ) : gV p l e rm_X9_prepare s m args below meth c D cy ad b0 Q 6 160 σ [some (.ref (ad 10)), some (.int v1), some (.int v2), some (.int v3), none, none] [.int s0, .int s1, .ref (ad 61)] := by
  refine g_zast C (by decide) h.1 dX9_prepare_160 (fun σ1 e_σ1 => ?_)
  have h := h.2 σ1 e_σ1
  obtain ⟨x161, e_x161⟩ : ∃ v : Int32, v = v3 + (nI 1) := ⟨_, rfl⟩
  have h := h x161 e_x161
  refine g_iinc C [some (.ref (ad 10)), some (.int v1), some (.int v2), some (.int x161), none, none] dX9_prepare_161 rfl e_x161.symm (by decide) rfl ?_
  refine g_goto C 127 dX9_prepare_164 (by decide) ?_
  exact hK127 x161 σ1 h
def wb_X9_prepare_127 (v1 : Int32) (v2 : Int32) (v3 : Int32) (K127 : Int32 → Sg → Prop) (K167 : Sg → Prop) (Q : Sg → Prop) (σ : Sg) : Prop :=
  wp_X9_wide σ (fun r1 σ2 => ((r1 ≤ v3 → K167 σ2) ∧ (¬ r1 ≤ v3 → wp_X9_wide σ2 (fun r3 σ4 => ((¬ v3 = (gF σ4 10 18) → wp_X9_prepare_160 v1 v2 v3 (nI 0) ((v2 * r3) + v3) K127 Q σ4) ∧ (v3 = (gF σ4 10 18) → wp_X9_prepare_160 v1 v2 v3 (nI 1) ((v2 * r3) + v3) K127 Q σ4))))))
set_option maxHeartbeats 4000000 in
set_option maxRecDepth 100000 in
theorem kb_X9_prepare_127 {Q : Sg → Prop} (C : Cx p s m args meth c D cy ad b0 yX9_prepare cX9_prepare 6 none) (v1 : Int32) (v2 : Int32) (v3 : Int32) (K127 : Int32 → Sg → Prop) (K167 : Sg → Prop) (hK127 : ∀ (z3 : Int32) (σ : Sg), K127 z3 σ → gV p l e rm_X9_prepare s m args below meth c D cy ad b0 Q 6 127 σ [some (.ref (ad 10)), some (.int v1), some (.int v2), some (.int z3), none, none] []) (hK167 : ∀  (σ : Sg), K167 σ → gV p l e rm_X9_prepare s m args below meth c D cy ad b0 Q 6 167 σ [some (.ref (ad 10)), some (.int v1), some (.int v2), none, none, none] []) (σ : Sg) (h : wb_X9_prepare_127 v1 v2 v3 K127 K167 Q σ) : gV p l e rm_X9_prepare s m args below meth c D cy ad b0 Q 6 127 σ [some (.ref (ad 10)), some (.int v1), some (.int v2), some (.int v3), none, none] [] := by
  refine g_iload_n C dX9_prepare_127 rfl ?_
  refine g_aload_n C dX9_prepare_128 rfl ?_
  refine g_callVi C 10 [] (c_X9_wide l D cy ad b0 C.A) cal_X9_wide mw_588 (by decide) rfl rfl ⟨Nat.le_of_ble_eq_true rfl, Nat.le_of_ble_eq_true rfl⟩ ⟨rfl, rfl⟩ ⟨Nat.zero_le _, Nat.zero_le _⟩ (Nat.le_of_ble_eq_true rfl) rfl dX9_prepare_129 h (fun r1 σ2 h => ?_)
  refine g_icmp_ge C 167 dX9_prepare_132 (by decide) (fun c132 => ?_) (fun c132 => ?_)
  · have h := h.1 c132
    refine g_mask [true, true, true, false, false, false] rfl ?_
    exact hK167 σ2 h
  · have h := h.2 c132
    refine g_aload_n C dX9_prepare_135 rfl ?_
    refine fget_10_26_X9_54 C rfl dX9_prepare_136 ?_
    refine g_iload_n C dX9_prepare_139 rfl ?_
    refine g_aload_n C dX9_prepare_140 rfl ?_
    refine g_callVi C 10 [] (c_X9_wide l D cy ad b0 C.A) cal_X9_wide mw_588 (by decide) rfl rfl ⟨Nat.le_of_ble_eq_true rfl, Nat.le_of_ble_eq_true rfl⟩ ⟨rfl, rfl⟩ ⟨Nat.zero_le _, Nat.zero_le _⟩ (Nat.le_of_ble_eq_true rfl) rfl dX9_prepare_141 h (fun r3 σ4 h => ?_)
    refine g_imul C dX9_prepare_144 ?_
    refine g_iload_n C dX9_prepare_145 rfl ?_
    refine g_iadd C dX9_prepare_146 ?_
    refine g_iload_n C dX9_prepare_147 rfl ?_
    refine g_aload_n C dX9_prepare_148 rfl ?_
    refine fget_10_18_X9_191 C rfl dX9_prepare_149 ?_
    refine g_icmp_ne C 159 dX9_prepare_152 (by decide) (fun c152 => ?_) (fun c152 => ?_)
    · have h := h.1 c152
      refine g_iconst C dX9_prepare_159 kc_0 ?_
      exact k_X9_prepare_160 C v1 v2 v3 (nI 0) ((v2 * r3) + v3) K127 hK127 σ4 h
    · have h := h.2 c152
      refine g_iconst C dX9_prepare_155 kc_1 ?_
      refine g_goto C 160 dX9_prepare_156 (by decide) ?_
      exact k_X9_prepare_160 C v1 v2 v3 (nI 1) ((v2 * r3) + v3) K127 hK127 σ4 h
def wl_X9_prepare_127 (v1 : Int32) (v2 : Int32) (K167 : Sg → Prop) (Q : Sg → Prop) : Nat → Int32 → Sg → Prop
  | 0, _, _ => False
  | n + 1, v3, σ => wb_X9_prepare_127 v1 v2 v3 (wl_X9_prepare_127 v1 v2 K167 Q n) K167 Q σ
set_option maxHeartbeats 4000000 in
set_option maxRecDepth 100000 in
theorem kl_X9_prepare_127 {Q : Sg → Prop} (C : Cx p s m args meth c D cy ad b0 yX9_prepare cX9_prepare 6 none) (v1 : Int32) (v2 : Int32) (K167 : Sg → Prop) (hK167 : ∀  (σ : Sg), K167 σ → gV p l e rm_X9_prepare s m args below meth c D cy ad b0 Q 6 167 σ [some (.ref (ad 10)), some (.int v1), some (.int v2), none, none, none] []) : ∀ (n : Nat) (v3 : Int32) (σ : Sg), wl_X9_prepare_127 v1 v2 K167 Q n v3 σ → gV p l e rm_X9_prepare s m args below meth c D cy ad b0 Q 6 127 σ [some (.ref (ad 10)), some (.int v1), some (.int v2), some (.int v3), none, none] [] := by
  intro n
  induction n with
  | zero => intro v3 σ h; exact False.elim h
  | succ n ih =>
    intro v3 σ h
    exact kb_X9_prepare_127 C v1 v2 v3 (wl_X9_prepare_127 v1 v2 K167 Q n) K167 (fun z3 σ h => ih z3 σ h) hK167 σ h
def wb_X9_prepare_120 (v1 : Int32) (v2 : Int32) (K120 : Int32 → Sg → Prop) (K173 : Sg → Prop) (Q : Sg → Prop) (σ : Sg) : Prop :=
  ((v1 ≤ v2 → K173 σ) ∧ (¬ v1 ≤ v2 → ∃ n, wl_X9_prepare_127 v1 v2 (fun σ9 => wp_X9_prepare_167 v1 v2 K120 Q σ9) Q n (nI 0) σ))
set_option maxHeartbeats 4000000 in
set_option maxRecDepth 100000 in
theorem kb_X9_prepare_120 {Q : Sg → Prop} (C : Cx p s m args meth c D cy ad b0 yX9_prepare cX9_prepare 6 none) (v1 : Int32) (v2 : Int32) (K120 : Int32 → Sg → Prop) (K173 : Sg → Prop) (hK120 : ∀ (z2 : Int32) (σ : Sg), K120 z2 σ → gV p l e rm_X9_prepare s m args below meth c D cy ad b0 Q 6 120 σ [some (.ref (ad 10)), some (.int v1), some (.int z2), none, none, none] []) (hK173 : ∀  (σ : Sg), K173 σ → gV p l e rm_X9_prepare s m args below meth c D cy ad b0 Q 6 173 σ [some (.ref (ad 10)), some (.int v1), none, none, none, none] []) (σ : Sg) (h : wb_X9_prepare_120 v1 v2 K120 K173 Q σ) : gV p l e rm_X9_prepare s m args below meth c D cy ad b0 Q 6 120 σ [some (.ref (ad 10)), some (.int v1), some (.int v2), none, none, none] [] := by
  refine g_iload_n C dX9_prepare_120 rfl ?_
  refine g_iload_n C dX9_prepare_121 rfl ?_
  refine g_icmp_ge C 173 dX9_prepare_122 (by decide) (fun c122 => ?_) (fun c122 => ?_)
  · have h := h.1 c122
    refine g_mask [true, true, false, false, false, false] rfl ?_
    exact hK173 σ h
  · have h := h.2 c122
    refine g_iconst C dX9_prepare_125 kc_0 ?_
    refine g_istore_n C [some (.ref (ad 10)), some (.int v1), some (.int v2), some (.int (nI 0)), none, none] dX9_prepare_126 (by decide) rfl ?_
    obtain ⟨n, h⟩ := h
    exact kl_X9_prepare_127 C v1 v2 _ (fun σ9 h => by exact k_X9_prepare_167 C v1 v2 K120 hK120 σ9 h) n (nI 0) σ h
def wl_X9_prepare_120 (v1 : Int32) (K173 : Sg → Prop) (Q : Sg → Prop) : Nat → Int32 → Sg → Prop
  | 0, _, _ => False
  | n + 1, v2, σ => wb_X9_prepare_120 v1 v2 (wl_X9_prepare_120 v1 K173 Q n) K173 Q σ
set_option maxHeartbeats 4000000 in
set_option maxRecDepth 100000 in
theorem kl_X9_prepare_120 {Q : Sg → Prop} (C : Cx p s m args meth c D cy ad b0 yX9_prepare cX9_prepare 6 none) (v1 : Int32) (K173 : Sg → Prop) (hK173 : ∀  (σ : Sg), K173 σ → gV p l e rm_X9_prepare s m args below meth c D cy ad b0 Q 6 173 σ [some (.ref (ad 10)), some (.int v1), none, none, none, none] []) : ∀ (n : Nat) (v2 : Int32) (σ : Sg), wl_X9_prepare_120 v1 K173 Q n v2 σ → gV p l e rm_X9_prepare s m args below meth c D cy ad b0 Q 6 120 σ [some (.ref (ad 10)), some (.int v1), some (.int v2), none, none, none] [] := by
  intro n
  induction n with
  | zero => intro v2 σ h; exact False.elim h
  | succ n ih =>
    intro v2 σ h
    exact kb_X9_prepare_120 C v1 v2 (wl_X9_prepare_120 v1 K173 Q n) K173 (fun z2 σ h => ih z2 σ h) hK173 σ h
def wp_X9_prepare_118 (v1 : Int32) (Q : Sg → Prop) (σ : Sg) : Prop :=
  ∃ n, wl_X9_prepare_120 v1 (fun σ9 => wp_X9_prepare_173 v1 Q σ9) Q n (nI 0) σ
set_option maxHeartbeats 4000000 in
set_option maxRecDepth 100000 in
theorem k_X9_prepare_118 {Q : Sg → Prop} (C : Cx p s m args meth c D cy ad b0 yX9_prepare cX9_prepare 6 none) (v1 : Int32) (σ : Sg) (h : wp_X9_prepare_118 v1 Q σ) : gV p l e rm_X9_prepare s m args below meth c D cy ad b0 Q 6 118 σ [some (.ref (ad 10)), some (.int v1), none, none, none, none] [] := by
  refine g_iconst C dX9_prepare_118 kc_0 ?_
  refine g_istore_n C [some (.ref (ad 10)), some (.int v1), some (.int (nI 0)), none, none, none] dX9_prepare_119 (by decide) rfl ?_
  obtain ⟨n, h⟩ := h
  exact kl_X9_prepare_120 C v1 _ (fun σ9 h => by exact k_X9_prepare_173 C v1 σ9 h) n (nI 0) σ h
def wp_X9_prepare_112 (v1 : Int32) (v2 : Int32) (K13 : Int32 → Sg → Prop) (Q : Sg → Prop) (σ : Sg) : Prop :=
  ∀ x112 : Int32, x112 = v2 + (nI 1) → (K13 x112 σ)
set_option maxHeartbeats 4000000 in
set_option maxRecDepth 100000 in
theorem k_X9_prepare_112 {Q : Sg → Prop} (C : Cx p s m args meth c D cy ad b0 yX9_prepare cX9_prepare 6 none) (v1 : Int32) (v2 : Int32) (K13 : Int32 → Sg → Prop) (hK13 : ∀ (z2 : Int32) (σ : Sg), K13 z2 σ → gV p l e rm_X9_prepare s m args below meth c D cy ad b0 Q 6 13 σ [some (.ref (ad 10)), some (.int v1), some (.int z2), none, none, none] []) (σ : Sg) (h : wp_X9_prepare_112 v1 v2 K13 Q σ) : gV p l e rm_X9_prepare s m args below meth c D cy ad b0 Q 6 112 σ [some (.ref (ad 10)), some (.int v1), some (.int v2), none, none, none] [] := by
  obtain ⟨x112, e_x112⟩ : ∃ v : Int32, v = v2 + (nI 1) := ⟨_, rfl⟩
  have h := h x112 e_x112
  refine g_iinc C [some (.ref (ad 10)), some (.int v1), some (.int x112), none, none, none] dX9_prepare_112 rfl e_x112.symm (by decide) rfl ?_
  refine g_goto C 13 dX9_prepare_115 (by decide) ?_
  exact hK13 x112 σ h
def wp_X9_prepare_106 (v1 : Int32) (v2 : Int32) (v3 : Int32) (K20 : Int32 → Sg → Prop) (Q : Sg → Prop) (σ : Sg) : Prop :=
  ∀ x106 : Int32, x106 = v3 + (nI 1) → (K20 x106 σ)
set_option maxHeartbeats 4000000 in
set_option maxRecDepth 100000 in
theorem k_X9_prepare_106 {Q : Sg → Prop} (C : Cx p s m args meth c D cy ad b0 yX9_prepare cX9_prepare 6 none) (v1 : Int32) (v2 : Int32) (v3 : Int32) (K20 : Int32 → Sg → Prop) (hK20 : ∀ (z3 : Int32) (σ : Sg), K20 z3 σ → gV p l e rm_X9_prepare s m args below meth c D cy ad b0 Q 6 20 σ [some (.ref (ad 10)), some (.int v1), some (.int v2), some (.int z3), none, none] []) (σ : Sg) (h : wp_X9_prepare_106 v1 v2 v3 K20 Q σ) : gV p l e rm_X9_prepare s m args below meth c D cy ad b0 Q 6 106 σ [some (.ref (ad 10)), some (.int v1), some (.int v2), some (.int v3), none, none] [] := by
  obtain ⟨x106, e_x106⟩ : ∃ v : Int32, v = v3 + (nI 1) := ⟨_, rfl⟩
  have h := h x106 e_x106
  refine g_iinc C [some (.ref (ad 10)), some (.int v1), some (.int v2), some (.int x106), none, none] dX9_prepare_106 rfl e_x106.symm (by decide) rfl ?_
  refine g_goto C 20 dX9_prepare_109 (by decide) ?_
  exact hK20 x106 σ h
def wb_X9_prepare_28 (v1 : Int32) (v2 : Int32) (v3 : Int32) (v4 : Int32) (K28 : Int32 → Sg → Prop) (K106 : Sg → Prop) (Q : Sg → Prop) (σ : Sg) : Prop :=
  wp_X9_wide σ (fun r1 σ2 => ((r1 ≤ v4 → K106 σ2) ∧ (¬ r1 ≤ v4 → wp_X9_look v3 v2 v4 σ2 (fun σ3 => wp_X9_spot v2 v3 v4 σ3 (fun r4 σ5 => vp_in r4 (aN 59) ∧ (∀ σ6 : Sg, σ6 = stA σ5 59 (Int32.toNatClampNeg r4) (gF σ5 10 22) → (wp_X9_spot v2 v3 v4 σ6 (fun r7 σ8 => vp_in ((gF σ8 10 4) - (nI 1)) (aN 57) ∧ (vp_in r7 (aN 60) ∧ (∀ σ9 : Sg, σ9 = stA σ8 60 (Int32.toNatClampNeg r7) (vp_nar .boolean (gA σ8 57 (Int32.toNatClampNeg ((gF σ8 10 4) - (nI 1))))) → (vp_in (((nI 4) * v2) + v3) (aN 58) ∧ (∀ σ10 : Sg, σ10 = stA σ9 58 (Int32.toNatClampNeg (((nI 4) * v2) + v3)) (gF σ9 10 21) → (∀ x100 : Int32, x100 = v4 + (nI 1) → (K28 x100 σ10))))))))))))))
set_option maxHeartbeats 4000000 in
set_option maxRecDepth 100000 in
theorem kb_X9_prepare_28 {Q : Sg → Prop} (C : Cx p s m args meth c D cy ad b0 yX9_prepare cX9_prepare 6 none) (v1 : Int32) (v2 : Int32) (v3 : Int32) (v4 : Int32) (K28 : Int32 → Sg → Prop) (K106 : Sg → Prop) (hK28 : ∀ (z4 : Int32) (σ : Sg), K28 z4 σ → gV p l e rm_X9_prepare s m args below meth c D cy ad b0 Q 6 28 σ [some (.ref (ad 10)), some (.int v1), some (.int v2), some (.int v3), some (.int z4), none] []) (hK106 : ∀  (σ : Sg), K106 σ → gV p l e rm_X9_prepare s m args below meth c D cy ad b0 Q 6 106 σ [some (.ref (ad 10)), some (.int v1), some (.int v2), some (.int v3), none, none] []) (σ : Sg) (h : wb_X9_prepare_28 v1 v2 v3 v4 K28 K106 Q σ) : gV p l e rm_X9_prepare s m args below meth c D cy ad b0 Q 6 28 σ [some (.ref (ad 10)), some (.int v1), some (.int v2), some (.int v3), some (.int v4), none] [] := by
  refine g_iload C dX9_prepare_28 rfl ?_
  refine g_aload_n C dX9_prepare_30 rfl ?_
  refine g_callVi C 10 [] (c_X9_wide l D cy ad b0 C.A) cal_X9_wide mw_588 (by decide) rfl rfl ⟨Nat.le_of_ble_eq_true rfl, Nat.le_of_ble_eq_true rfl⟩ ⟨rfl, rfl⟩ ⟨Nat.zero_le _, Nat.zero_le _⟩ (Nat.le_of_ble_eq_true rfl) rfl dX9_prepare_31 h (fun r1 σ2 h => ?_)
  refine g_icmp_ge C 106 dX9_prepare_34 (by decide) (fun c34 => ?_) (fun c34 => ?_)
  · have h := h.1 c34
    refine g_mask [true, true, true, true, false, false] rfl ?_
    exact hK106 σ2 h
  · have h := h.2 c34
    refine g_aload_n C dX9_prepare_37 rfl ?_
    refine g_iload_n C dX9_prepare_38 rfl ?_
    refine g_iload_n C dX9_prepare_39 rfl ?_
    refine g_iload C dX9_prepare_40 rfl ?_
    refine g_callVv C 10 [.int v3, .int v2, .int v4] (c_X9_look l D cy ad b0 C.A v3 v2 v4) cal_X9_look mw_592 (by decide) rfl rfl ⟨Nat.le_of_ble_eq_true rfl, Nat.le_of_ble_eq_true rfl⟩ ⟨rfl, rfl⟩ ⟨Nat.zero_le _, Nat.zero_le _⟩ (Nat.le_of_ble_eq_true rfl) rfl dX9_prepare_42 h (fun σ3 h => ?_)
    refine g_aload_n C dX9_prepare_45 rfl ?_
    refine fget_10_24_X9_48 C rfl dX9_prepare_46 ?_
    refine g_aload_n C dX9_prepare_49 rfl ?_
    refine g_iload_n C dX9_prepare_50 rfl ?_
    refine g_iload_n C dX9_prepare_51 rfl ?_
    refine g_iload C dX9_prepare_52 rfl ?_
    refine g_callVi C 10 [.int v2, .int v3, .int v4] (c_X9_spot l D cy ad b0 C.A v2 v3 v4) cal_X9_spot mw_596 (by decide) rfl rfl ⟨Nat.le_of_ble_eq_true rfl, Nat.le_of_ble_eq_true rfl⟩ ⟨rfl, rfl⟩ ⟨Nat.zero_le _, Nat.zero_le _⟩ (Nat.le_of_ble_eq_true rfl) rfl dX9_prepare_54 h (fun r4 σ5 h => ?_)
    refine g_aload_n C dX9_prepare_57 rfl ?_
    refine fget_10_22_X9_200 C rfl dX9_prepare_58 ?_
    refine g_iast C (by decide) h.1 dX9_prepare_61 (fun σ6 e_σ6 => ?_)
    have h := h.2 σ6 e_σ6
    refine g_aload_n C dX9_prepare_62 rfl ?_
    refine fget_10_25_X9_51 C rfl dX9_prepare_63 ?_
    refine g_aload_n C dX9_prepare_66 rfl ?_
    refine g_iload_n C dX9_prepare_67 rfl ?_
    refine g_iload_n C dX9_prepare_68 rfl ?_
    refine g_iload C dX9_prepare_69 rfl ?_
    refine g_callVi C 10 [.int v2, .int v3, .int v4] (c_X9_spot l D cy ad b0 C.A v2 v3 v4) cal_X9_spot mw_596 (by decide) rfl rfl ⟨Nat.le_of_ble_eq_true rfl, Nat.le_of_ble_eq_true rfl⟩ ⟨rfl, rfl⟩ ⟨Nat.zero_le _, Nat.zero_le _⟩ (Nat.le_of_ble_eq_true rfl) rfl dX9_prepare_71 h (fun r7 σ8 h => ?_)
    refine g_aload_n C dX9_prepare_74 rfl ?_
    refine fget_10_20_X9_42 C rfl dX9_prepare_75 ?_
    refine g_aload_n C dX9_prepare_78 rfl ?_
    refine fget_10_4_X9_143 C rfl dX9_prepare_79 ?_
    refine g_iconst C dX9_prepare_82 kc_1 ?_
    refine g_isub C dX9_prepare_83 ?_
    refine g_zald C (by decide) h.1 dX9_prepare_84 ?_
    have h := h.2
    refine g_zast C (by decide) h.1 dX9_prepare_85 (fun σ9 e_σ9 => ?_)
    have h := h.2 σ9 e_σ9
    refine g_aload_n C dX9_prepare_86 rfl ?_
    refine fget_10_23_X9_45 C rfl dX9_prepare_87 ?_
    refine g_iconst C dX9_prepare_90 kc_4 ?_
    refine g_iload_n C dX9_prepare_91 rfl ?_
    refine g_imul C dX9_prepare_92 ?_
    refine g_iload_n C dX9_prepare_93 rfl ?_
    refine g_iadd C dX9_prepare_94 ?_
    refine g_aload_n C dX9_prepare_95 rfl ?_
    refine fget_10_21_X9_197 C rfl dX9_prepare_96 ?_
    refine g_iast C (by decide) h.1 dX9_prepare_99 (fun σ10 e_σ10 => ?_)
    have h := h.2 σ10 e_σ10
    obtain ⟨x100, e_x100⟩ : ∃ v : Int32, v = v4 + (nI 1) := ⟨_, rfl⟩
    have h := h x100 e_x100
    refine g_iinc C [some (.ref (ad 10)), some (.int v1), some (.int v2), some (.int v3), some (.int x100), none] dX9_prepare_100 rfl e_x100.symm (by decide) rfl ?_
    refine g_goto C 28 dX9_prepare_103 (by decide) ?_
    exact hK28 x100 σ10 h
def wl_X9_prepare_28 (v1 : Int32) (v2 : Int32) (v3 : Int32) (K106 : Sg → Prop) (Q : Sg → Prop) : Nat → Int32 → Sg → Prop
  | 0, _, _ => False
  | n + 1, v4, σ => wb_X9_prepare_28 v1 v2 v3 v4 (wl_X9_prepare_28 v1 v2 v3 K106 Q n) K106 Q σ
set_option maxHeartbeats 4000000 in
set_option maxRecDepth 100000 in
theorem kl_X9_prepare_28 {Q : Sg → Prop} (C : Cx p s m args meth c D cy ad b0 yX9_prepare cX9_prepare 6 none) (v1 : Int32) (v2 : Int32) (v3 : Int32) (K106 : Sg → Prop) (hK106 : ∀  (σ : Sg), K106 σ → gV p l e rm_X9_prepare s m args below meth c D cy ad b0 Q 6 106 σ [some (.ref (ad 10)), some (.int v1), some (.int v2), some (.int v3), none, none] []) : ∀ (n : Nat) (v4 : Int32) (σ : Sg), wl_X9_prepare_28 v1 v2 v3 K106 Q n v4 σ → gV p l e rm_X9_prepare s m args below meth c D cy ad b0 Q 6 28 σ [some (.ref (ad 10)), some (.int v1), some (.int v2), some (.int v3), some (.int v4), none] [] := by
  intro n
  induction n with
  | zero => intro v4 σ h; exact False.elim h
  | succ n ih =>
    intro v4 σ h
    exact kb_X9_prepare_28 C v1 v2 v3 v4 (wl_X9_prepare_28 v1 v2 v3 K106 Q n) K106 (fun z4 σ h => ih z4 σ h) hK106 σ h
def wb_X9_prepare_20 (v1 : Int32) (v2 : Int32) (v3 : Int32) (K20 : Int32 → Sg → Prop) (K112 : Sg → Prop) (Q : Sg → Prop) (σ : Sg) : Prop :=
  (((nI 4) ≤ v3 → K112 σ) ∧ (¬ (nI 4) ≤ v3 → ∃ n, wl_X9_prepare_28 v1 v2 v3 (fun σ9 => wp_X9_prepare_106 v1 v2 v3 K20 Q σ9) Q n (nI 0) σ))
set_option maxHeartbeats 4000000 in
set_option maxRecDepth 100000 in
theorem kb_X9_prepare_20 {Q : Sg → Prop} (C : Cx p s m args meth c D cy ad b0 yX9_prepare cX9_prepare 6 none) (v1 : Int32) (v2 : Int32) (v3 : Int32) (K20 : Int32 → Sg → Prop) (K112 : Sg → Prop) (hK20 : ∀ (z3 : Int32) (σ : Sg), K20 z3 σ → gV p l e rm_X9_prepare s m args below meth c D cy ad b0 Q 6 20 σ [some (.ref (ad 10)), some (.int v1), some (.int v2), some (.int z3), none, none] []) (hK112 : ∀  (σ : Sg), K112 σ → gV p l e rm_X9_prepare s m args below meth c D cy ad b0 Q 6 112 σ [some (.ref (ad 10)), some (.int v1), some (.int v2), none, none, none] []) (σ : Sg) (h : wb_X9_prepare_20 v1 v2 v3 K20 K112 Q σ) : gV p l e rm_X9_prepare s m args below meth c D cy ad b0 Q 6 20 σ [some (.ref (ad 10)), some (.int v1), some (.int v2), some (.int v3), none, none] [] := by
  refine g_iload_n C dX9_prepare_20 rfl ?_
  refine g_iconst C dX9_prepare_21 kc_4 ?_
  refine g_icmp_ge C 112 dX9_prepare_22 (by decide) (fun c22 => ?_) (fun c22 => ?_)
  · have h := h.1 c22
    refine g_mask [true, true, true, false, false, false] rfl ?_
    exact hK112 σ h
  · have h := h.2 c22
    refine g_iconst C dX9_prepare_25 kc_0 ?_
    refine g_istore C [some (.ref (ad 10)), some (.int v1), some (.int v2), some (.int v3), some (.int (nI 0)), none] dX9_prepare_26 (by decide) rfl ?_
    obtain ⟨n, h⟩ := h
    exact kl_X9_prepare_28 C v1 v2 v3 _ (fun σ9 h => by exact k_X9_prepare_106 C v1 v2 v3 K20 hK20 σ9 h) n (nI 0) σ h
def wl_X9_prepare_20 (v1 : Int32) (v2 : Int32) (K112 : Sg → Prop) (Q : Sg → Prop) : Nat → Int32 → Sg → Prop
  | 0, _, _ => False
  | n + 1, v3, σ => wb_X9_prepare_20 v1 v2 v3 (wl_X9_prepare_20 v1 v2 K112 Q n) K112 Q σ
set_option maxHeartbeats 4000000 in
set_option maxRecDepth 100000 in
theorem kl_X9_prepare_20 {Q : Sg → Prop} (C : Cx p s m args meth c D cy ad b0 yX9_prepare cX9_prepare 6 none) (v1 : Int32) (v2 : Int32) (K112 : Sg → Prop) (hK112 : ∀  (σ : Sg), K112 σ → gV p l e rm_X9_prepare s m args below meth c D cy ad b0 Q 6 112 σ [some (.ref (ad 10)), some (.int v1), some (.int v2), none, none, none] []) : ∀ (n : Nat) (v3 : Int32) (σ : Sg), wl_X9_prepare_20 v1 v2 K112 Q n v3 σ → gV p l e rm_X9_prepare s m args below meth c D cy ad b0 Q 6 20 σ [some (.ref (ad 10)), some (.int v1), some (.int v2), some (.int v3), none, none] [] := by
  intro n
  induction n with
  | zero => intro v3 σ h; exact False.elim h
  | succ n ih =>
    intro v3 σ h
    exact kb_X9_prepare_20 C v1 v2 v3 (wl_X9_prepare_20 v1 v2 K112 Q n) K112 (fun z3 σ h => ih z3 σ h) hK112 σ h
def wb_X9_prepare_13 (v1 : Int32) (v2 : Int32) (K13 : Int32 → Sg → Prop) (K118 : Sg → Prop) (Q : Sg → Prop) (σ : Sg) : Prop :=
  ((v1 ≤ v2 → K118 σ) ∧ (¬ v1 ≤ v2 → ∃ n, wl_X9_prepare_20 v1 v2 (fun σ9 => wp_X9_prepare_112 v1 v2 K13 Q σ9) Q n (nI 0) σ))
set_option maxHeartbeats 4000000 in
set_option maxRecDepth 100000 in
theorem kb_X9_prepare_13 {Q : Sg → Prop} (C : Cx p s m args meth c D cy ad b0 yX9_prepare cX9_prepare 6 none) (v1 : Int32) (v2 : Int32) (K13 : Int32 → Sg → Prop) (K118 : Sg → Prop) (hK13 : ∀ (z2 : Int32) (σ : Sg), K13 z2 σ → gV p l e rm_X9_prepare s m args below meth c D cy ad b0 Q 6 13 σ [some (.ref (ad 10)), some (.int v1), some (.int z2), none, none, none] []) (hK118 : ∀  (σ : Sg), K118 σ → gV p l e rm_X9_prepare s m args below meth c D cy ad b0 Q 6 118 σ [some (.ref (ad 10)), some (.int v1), none, none, none, none] []) (σ : Sg) (h : wb_X9_prepare_13 v1 v2 K13 K118 Q σ) : gV p l e rm_X9_prepare s m args below meth c D cy ad b0 Q 6 13 σ [some (.ref (ad 10)), some (.int v1), some (.int v2), none, none, none] [] := by
  refine g_iload_n C dX9_prepare_13 rfl ?_
  refine g_iload_n C dX9_prepare_14 rfl ?_
  refine g_icmp_ge C 118 dX9_prepare_15 (by decide) (fun c15 => ?_) (fun c15 => ?_)
  · have h := h.1 c15
    refine g_mask [true, true, false, false, false, false] rfl ?_
    exact hK118 σ h
  · have h := h.2 c15
    refine g_iconst C dX9_prepare_18 kc_0 ?_
    refine g_istore_n C [some (.ref (ad 10)), some (.int v1), some (.int v2), some (.int (nI 0)), none, none] dX9_prepare_19 (by decide) rfl ?_
    obtain ⟨n, h⟩ := h
    exact kl_X9_prepare_20 C v1 v2 _ (fun σ9 h => by exact k_X9_prepare_112 C v1 v2 K13 hK13 σ9 h) n (nI 0) σ h
def wl_X9_prepare_13 (v1 : Int32) (K118 : Sg → Prop) (Q : Sg → Prop) : Nat → Int32 → Sg → Prop
  | 0, _, _ => False
  | n + 1, v2, σ => wb_X9_prepare_13 v1 v2 (wl_X9_prepare_13 v1 K118 Q n) K118 Q σ
set_option maxHeartbeats 4000000 in
set_option maxRecDepth 100000 in
theorem kl_X9_prepare_13 {Q : Sg → Prop} (C : Cx p s m args meth c D cy ad b0 yX9_prepare cX9_prepare 6 none) (v1 : Int32) (K118 : Sg → Prop) (hK118 : ∀  (σ : Sg), K118 σ → gV p l e rm_X9_prepare s m args below meth c D cy ad b0 Q 6 118 σ [some (.ref (ad 10)), some (.int v1), none, none, none, none] []) : ∀ (n : Nat) (v2 : Int32) (σ : Sg), wl_X9_prepare_13 v1 K118 Q n v2 σ → gV p l e rm_X9_prepare s m args below meth c D cy ad b0 Q 6 13 σ [some (.ref (ad 10)), some (.int v1), some (.int v2), none, none, none] [] := by
  intro n
  induction n with
  | zero => intro v2 σ h; exact False.elim h
  | succ n ih =>
    intro v2 σ h
    exact kb_X9_prepare_13 C v1 v2 (wl_X9_prepare_13 v1 K118 Q n) K118 (fun z2 σ h => ih z2 σ h) hK118 σ h
def wp_X9_prepare (σ : Sg) (Q : Sg → Prop) : Prop :=
  wp_X9_layBits σ (fun σ1 => ∀ x10 : Int32, x10 = ((nI 1) <<< ((gF σ1 10 16) &&& 31)) → (∃ n, wl_X9_prepare_13 x10 (fun σ9 => wp_X9_prepare_118 x10 Q σ9) Q n (nI 0) σ1))
set_option maxHeartbeats 4000000 in
set_option maxRecDepth 100000 in
theorem c_X9_prepare (l : Launch) (D : va_G) (cy : Nat → ClassId) (ad : Nat → Nat) (b0 : Nat) (hA : AdOk ad b0) : Ctv l D cy ad b0 yX9_prepare cX9_prepare 6 none rm_X9_prepare [.ref (ad 10)] (fun σ Q => wp_X9_prepare σ Q) := by
  intro σ Q h
  refine g_enter hA rfl (Nat.le_of_ble_eq_true rfl) [some (.ref (ad 10)), none, none, none, none, none] rfl ?_
  intro p e s m args below meth c C
  refine g_aload_n C dX9_prepare_0 rfl ?_
  refine g_callVv C 10 [] (c_X9_layBits l D cy ad b0 C.A) cal_X9_layBits mw_582 (by decide) rfl rfl ⟨Nat.le_of_ble_eq_true rfl, Nat.le_of_ble_eq_true rfl⟩ ⟨rfl, rfl⟩ ⟨Nat.zero_le _, Nat.zero_le _⟩ (Nat.le_of_ble_eq_true rfl) rfl dX9_prepare_1 h (fun σ1 h => ?_)
  refine g_iconst C dX9_prepare_4 kc_1 ?_
  refine g_aload_n C dX9_prepare_5 rfl ?_
  refine fget_10_16_X9_188 C rfl dX9_prepare_6 ?_
  refine g_ishl C dX9_prepare_9 ?_
  refine g_topi (fun x10 e_x10 => ?_)
  have h := h x10 e_x10
  refine g_istore_n C [some (.ref (ad 10)), some (.int x10), none, none, none, none] dX9_prepare_10 (by decide) rfl ?_
  refine g_iconst C dX9_prepare_11 kc_0 ?_
  refine g_istore_n C [some (.ref (ad 10)), some (.int x10), some (.int (nI 0)), none, none, none] dX9_prepare_12 (by decide) rfl ?_
  obtain ⟨n, h⟩ := h
  exact kl_X9_prepare_13 C x10 _ (fun σ9 h => by exact k_X9_prepare_118 C x10 σ9 h) n (nI 0) σ1 h
def rm_X9_state : Room := { frames := 1, cells := 0, slots := 0, locals := 20 }
def wb_X9_state_159 (v2 : Int32) (v3 : Int32) (K159 : Int32 → Sg → Prop) (Q : Int32 → Sg → Prop) (σ : Sg) : Prop :=
  wp_X9_wide σ (fun r1 σ2 => ((r1 ≤ v3 → Q v2 σ2) ∧ (¬ r1 ≤ v3 → wp_X9_wide σ2 (fun r3 σ4 => vp_in v3 (aN 67) ∧ (vp_in ((v2 * r3) + v3) (aN 63) ∧ (∀ σ5 : Sg, σ5 = stA σ4 63 (Int32.toNatClampNeg ((v2 * r3) + v3)) (vp_nar .boolean (gA σ4 67 (Int32.toNatClampNeg v3))) → (∀ x186 : Int32, x186 = v3 + (nI 1) → (K159 x186 σ5))))))))
set_option maxHeartbeats 4000000 in
set_option maxRecDepth 100000 in
theorem kb_X9_state_159 {Q : Int32 → Sg → Prop} (C : Cx p s m args meth c D cy ad b0 yX9_state cX9_state 6 (some .int)) (v2 : Int32) (v3 : Int32) (K159 : Int32 → Sg → Prop) (hK159 : ∀ (z3 : Int32) (σ : Sg), K159 z3 σ → gI p l e rm_X9_state s m args below meth c D cy ad b0 Q 6 159 σ [some (.ref (ad 10)), none, some (.int v2), some (.int z3), none, none] []) (σ : Sg) (h : wb_X9_state_159 v2 v3 K159 Q σ) : gI p l e rm_X9_state s m args below meth c D cy ad b0 Q 6 159 σ [some (.ref (ad 10)), none, some (.int v2), some (.int v3), none, none] [] := by
  refine g_iload_n C dX9_state_159 rfl ?_
  refine g_aload_n C dX9_state_160 rfl ?_
  refine g_callVi C 10 [] (c_X9_wide l D cy ad b0 C.A) cal_X9_wide mw_588 (by decide) rfl rfl ⟨Nat.le_of_ble_eq_true rfl, Nat.le_of_ble_eq_true rfl⟩ ⟨rfl, rfl⟩ ⟨Nat.zero_le _, Nat.zero_le _⟩ (Nat.le_of_ble_eq_true rfl) rfl dX9_state_161 h (fun r1 σ2 h => ?_)
  refine g_icmp_ge C 192 dX9_state_164 (by decide) (fun c164 => ?_) (fun c164 => ?_)
  · have h := h.1 c164
    refine g_iload_n C dX9_state_192 rfl ?_
    exact g_iret C dX9_state_193 h
  · have h := h.2 c164
    refine g_aload_n C dX9_state_167 rfl ?_
    refine fget_10_29_X9_61 C rfl dX9_state_168 ?_
    refine g_iload_n C dX9_state_171 rfl ?_
    refine g_aload_n C dX9_state_172 rfl ?_
    refine g_callVi C 10 [] (c_X9_wide l D cy ad b0 C.A) cal_X9_wide mw_588 (by decide) rfl rfl ⟨Nat.le_of_ble_eq_true rfl, Nat.le_of_ble_eq_true rfl⟩ ⟨rfl, rfl⟩ ⟨Nat.zero_le _, Nat.zero_le _⟩ (Nat.le_of_ble_eq_true rfl) rfl dX9_state_173 h (fun r3 σ4 h => ?_)
    refine g_imul C dX9_state_176 ?_
    refine g_iload_n C dX9_state_177 rfl ?_
    refine g_iadd C dX9_state_178 ?_
    refine g_aload_n C dX9_state_179 rfl ?_
    refine fget_10_33_X9_73 C rfl dX9_state_180 ?_
    refine g_iload_n C dX9_state_183 rfl ?_
    refine g_zald C (by decide) h.1 dX9_state_184 ?_
    have h := h.2
    refine g_zast C (by decide) h.1 dX9_state_185 (fun σ5 e_σ5 => ?_)
    have h := h.2 σ5 e_σ5
    obtain ⟨x186, e_x186⟩ : ∃ v : Int32, v = v3 + (nI 1) := ⟨_, rfl⟩
    have h := h x186 e_x186
    refine g_iinc C [some (.ref (ad 10)), none, some (.int v2), some (.int x186), none, none] dX9_state_186 rfl e_x186.symm (by decide) rfl ?_
    refine g_goto C 159 dX9_state_189 (by decide) ?_
    exact hK159 x186 σ5 h
def wl_X9_state_159 (v2 : Int32) (Q : Int32 → Sg → Prop) : Nat → Int32 → Sg → Prop
  | 0, _, _ => False
  | n + 1, v3, σ => wb_X9_state_159 v2 v3 (wl_X9_state_159 v2 Q n) Q σ
set_option maxHeartbeats 4000000 in
set_option maxRecDepth 100000 in
theorem kl_X9_state_159 {Q : Int32 → Sg → Prop} (C : Cx p s m args meth c D cy ad b0 yX9_state cX9_state 6 (some .int)) (v2 : Int32) : ∀ (n : Nat) (v3 : Int32) (σ : Sg), wl_X9_state_159 v2 Q n v3 σ → gI p l e rm_X9_state s m args below meth c D cy ad b0 Q 6 159 σ [some (.ref (ad 10)), none, some (.int v2), some (.int v3), none, none] [] := by
  intro n
  induction n with
  | zero => intro v3 σ h; exact False.elim h
  | succ n ih =>
    intro v3 σ h
    exact kb_X9_state_159 C v2 v3 (wl_X9_state_159 v2 Q n) (fun z3 σ h => ih z3 σ h) σ h
def wp_X9_state_94 (v1 : Int32) (Q : Int32 → Sg → Prop) (σ : Sg) : Prop :=
  vp_in v1 (aN 65) ∧ (((¬ (gA σ 65 (Int32.toNatClampNeg v1)) = (nI 60) → ∀ x112 : Int32, x112 = (gF σ 10 27) → (∀ σ1 : Sg, σ1 = stF σ 10 27 ((gF σ 10 27) + (nI 1)) → (vp_in v1 (aN 65) ∧ (vp_in (((nI 61) * v1) + (gA σ1 65 (Int32.toNatClampNeg v1))) (aN 66) ∧ (∀ σ2 : Sg, σ2 = stA σ1 66 (Int32.toNatClampNeg (((nI 61) * v1) + (gA σ1 65 (Int32.toNatClampNeg v1)))) x112 → (vp_in v1 (aN 65) ∧ (vp_in v1 (aN 65) ∧ (∀ σ3 : Sg, σ3 = stA σ2 65 (Int32.toNatClampNeg v1) ((gA σ2 65 (Int32.toNatClampNeg v1)) + (nI 1)) → (vp_in x112 (aN 62) ∧ (∀ σ4 : Sg, σ4 = stA σ3 62 (Int32.toNatClampNeg x112) v1 → (∃ n, wl_X9_state_159 x112 Q n (nI 0) σ4))))))))))) ∧ ((gA σ 65 (Int32.toNatClampNeg v1)) = (nI 60) → Q (-9 : Int32) σ)))
set_option maxHeartbeats 4000000 in
set_option maxRecDepth 100000 in
theorem k_X9_state_94 {Q : Int32 → Sg → Prop} (C : Cx p s m args meth c D cy ad b0 yX9_state cX9_state 6 (some .int)) (v1 : Int32) (σ : Sg) (h : wp_X9_state_94 v1 Q σ) : gI p l e rm_X9_state s m args below meth c D cy ad b0 Q 6 94 σ [some (.ref (ad 10)), some (.int v1), none, none, none, none] [] := by
  refine g_aload_n C dX9_state_94 rfl ?_
  refine fget_10_31_X9_67 C rfl dX9_state_95 ?_
  refine g_iload_n C dX9_state_98 rfl ?_
  refine g_iald C (by decide) h.1 dX9_state_99 ?_
  have h := h.2
  refine g_bipush C dX9_state_100 kb_60 ?_
  refine g_icmp_ne C 108 dX9_state_102 (by decide) (fun c102 => ?_) (fun c102 => ?_)
  · have h := h.1 c102
    refine g_aload_n C dX9_state_108 rfl ?_
    refine fget_10_27_X9_218 C rfl dX9_state_109 ?_
    refine g_topi (fun x112 e_x112 => ?_)
    have h := h x112 e_x112
    refine g_istore_n C [some (.ref (ad 10)), some (.int v1), some (.int x112), none, none, none] dX9_state_112 (by decide) rfl ?_
    refine g_aload_n C dX9_state_113 rfl ?_
    refine g_dup C dX9_state_114 rfl ?_
    refine fget_10_27_X9_218 C rfl dX9_state_115 ?_
    refine g_iconst C dX9_state_118 kc_1 ?_
    refine g_iadd C dX9_state_119 ?_
    refine fput_10_27_X9_218 C rfl dX9_state_120 (fun σ1 e_σ1 => ?_)
    have h := h σ1 e_σ1
    refine g_aload_n C dX9_state_123 rfl ?_
    refine fget_10_32_X9_70 C rfl dX9_state_124 ?_
    refine g_bipush C dX9_state_127 kb_61 ?_
    refine g_iload_n C dX9_state_129 rfl ?_
    refine g_imul C dX9_state_130 ?_
    refine g_aload_n C dX9_state_131 rfl ?_
    refine fget_10_31_X9_67 C rfl dX9_state_132 ?_
    refine g_iload_n C dX9_state_135 rfl ?_
    refine g_iald C (by decide) h.1 dX9_state_136 ?_
    have h := h.2
    refine g_iadd C dX9_state_137 ?_
    refine g_iload_n C dX9_state_138 rfl ?_
    refine g_iast C (by decide) h.1 dX9_state_139 (fun σ2 e_σ2 => ?_)
    have h := h.2 σ2 e_σ2
    refine g_aload_n C dX9_state_140 rfl ?_
    refine fget_10_31_X9_67 C rfl dX9_state_141 ?_
    refine g_iload_n C dX9_state_144 rfl ?_
    refine g_dup2 C dX9_state_145 rfl rfl ?_
    refine g_iald C (by decide) h.1 dX9_state_146 ?_
    have h := h.2
    refine g_iconst C dX9_state_147 kc_1 ?_
    refine g_iadd C dX9_state_148 ?_
    refine g_iast C (by decide) h.1 dX9_state_149 (fun σ3 e_σ3 => ?_)
    have h := h.2 σ3 e_σ3
    refine g_aload_n C dX9_state_150 rfl ?_
    refine fget_10_28_X9_57 C rfl dX9_state_151 ?_
    refine g_iload_n C dX9_state_154 rfl ?_
    refine g_iload_n C dX9_state_155 rfl ?_
    refine g_iast C (by decide) h.1 dX9_state_156 (fun σ4 e_σ4 => ?_)
    have h := h.2 σ4 e_σ4
    refine g_iconst C dX9_state_157 kc_0 ?_
    refine g_istore_n C [some (.ref (ad 10)), some (.int v1), some (.int x112), some (.int (nI 0)), none, none] dX9_state_158 (by decide) rfl ?_
    refine g_mask [true, false, true, true, false, false] rfl ?_
    obtain ⟨n, h⟩ := h
    exact kl_X9_state_159 C x112 n (nI 0) σ4 h
  · have h := h.2 c102
    refine g_bipush C dX9_state_105 kb_m9 ?_
    exact g_iret C dX9_state_107 h
def wp_X9_state_81 (v1 : Int32) (v2 : Int32) (v3 : Int32) (v4 : Int32) (K2 : Int32 → Sg → Prop) (Q : Int32 → Sg → Prop) (σ : Sg) : Prop :=
  ((v4 = (nI 0) → ∀ x88 : Int32, x88 = v2 + (nI 1) → (K2 x88 σ)) ∧ (¬ v4 = (nI 0) → Q v3 σ))
set_option maxHeartbeats 4000000 in
set_option maxRecDepth 100000 in
theorem k_X9_state_81 {Q : Int32 → Sg → Prop} (C : Cx p s m args meth c D cy ad b0 yX9_state cX9_state 6 (some .int)) (v1 : Int32) (v2 : Int32) (v3 : Int32) (v4 : Int32) (K2 : Int32 → Sg → Prop) (hK2 : ∀ (z2 : Int32) (σ : Sg), K2 z2 σ → gI p l e rm_X9_state s m args below meth c D cy ad b0 Q 6 2 σ [some (.ref (ad 10)), some (.int v1), some (.int z2), none, none, none] []) (σ : Sg) (h : wp_X9_state_81 v1 v2 v3 v4 K2 Q σ) : gI p l e rm_X9_state s m args below meth c D cy ad b0 Q 6 81 σ [some (.ref (ad 10)), some (.int v1), some (.int v2), some (.int v3), some (.int v4), none] [] := by
  refine g_iload C dX9_state_81 rfl ?_
  refine g_if_eq C 88 dX9_state_83 (by decide) (fun c83 => ?_) (fun c83 => ?_)
  · have h := h.1 c83
    obtain ⟨x88, e_x88⟩ : ∃ v : Int32, v = v2 + (nI 1) := ⟨_, rfl⟩
    have h := h x88 e_x88
    refine g_iinc C [some (.ref (ad 10)), some (.int v1), some (.int x88), some (.int v3), some (.int v4), none] dX9_state_88 rfl e_x88.symm (by decide) rfl ?_
    refine g_goto C 2 dX9_state_91 (by decide) ?_
    refine g_mask [true, true, true, false, false, false] rfl ?_
    exact hK2 x88 σ h
  · have h := h.2 c83
    refine g_iload_n C dX9_state_86 rfl ?_
    exact g_iret C dX9_state_87 h
def wp_X9_state_73 (v1 : Int32) (v2 : Int32) (v3 : Int32) (v5 : Int32) (s0 : Int32) (K30 : Int32 → Int32 → Sg → Prop) (Q : Int32 → Sg → Prop) (σ : Sg) : Prop :=
  ∀ x75 : Int32, x75 = v5 + (nI 1) → (K30 s0 x75 σ)
set_option maxHeartbeats 4000000 in
set_option maxRecDepth 100000 in
theorem k_X9_state_73 {Q : Int32 → Sg → Prop} (C : Cx p s m args meth c D cy ad b0 yX9_state cX9_state 6 (some .int)) (v1 : Int32) (v2 : Int32) (v3 : Int32) (v5 : Int32) (s0 : Int32) (K30 : Int32 → Int32 → Sg → Prop) (hK30 : ∀ (z4 : Int32) (z5 : Int32) (σ : Sg), K30 z4 z5 σ → gI p l e rm_X9_state s m args below meth c D cy ad b0 Q 6 30 σ [some (.ref (ad 10)), some (.int v1), some (.int v2), some (.int v3), some (.int z4), some (.int z5)] []) (σ : Sg) (h : wp_X9_state_73 v1 v2 v3 v5 s0 K30 Q σ) : gI p l e rm_X9_state s m args below meth c D cy ad b0 Q 6 73 σ [some (.ref (ad 10)), some (.int v1), some (.int v2), some (.int v3), none, some (.int v5)] [.int s0] := by
  refine g_istore C [some (.ref (ad 10)), some (.int v1), some (.int v2), some (.int v3), some (.int s0), some (.int v5)] dX9_state_73 (by decide) rfl ?_
  obtain ⟨x75, e_x75⟩ : ∃ v : Int32, v = v5 + (nI 1) := ⟨_, rfl⟩
  have h := h x75 e_x75
  refine g_iinc C [some (.ref (ad 10)), some (.int v1), some (.int v2), some (.int v3), some (.int s0), some (.int x75)] dX9_state_75 rfl e_x75.symm (by decide) rfl ?_
  refine g_goto C 30 dX9_state_78 (by decide) ?_
  exact hK30 s0 x75 σ h
def wb_X9_state_30 (v1 : Int32) (v2 : Int32) (v3 : Int32) (v4 : Int32) (v5 : Int32) (K30 : Int32 → Int32 → Sg → Prop) (K81 : Int32 → Sg → Prop) (Q : Int32 → Sg → Prop) (σ : Sg) : Prop :=
  wp_X9_wide σ (fun r1 σ2 => ((r1 ≤ v5 → K81 v4 σ2) ∧ (¬ r1 ≤ v5 → ((v4 = (nI 0) → K81 v4 σ2) ∧ (¬ v4 = (nI 0) → wp_X9_wide σ2 (fun r3 σ4 => vp_in ((v3 * r3) + v5) (aN 63) ∧ (vp_in v5 (aN 67) ∧ (((¬ (gA σ4 63 (Int32.toNatClampNeg ((v3 * r3) + v5))) = (gA σ4 67 (Int32.toNatClampNeg v5)) → wp_X9_state_73 v1 v2 v3 v5 (nI 0) K30 Q σ4) ∧ ((gA σ4 63 (Int32.toNatClampNeg ((v3 * r3) + v5))) = (gA σ4 67 (Int32.toNatClampNeg v5)) → wp_X9_state_73 v1 v2 v3 v5 (nI 1) K30 Q σ4))))))))))
set_option maxHeartbeats 4000000 in
set_option maxRecDepth 100000 in
theorem kb_X9_state_30 {Q : Int32 → Sg → Prop} (C : Cx p s m args meth c D cy ad b0 yX9_state cX9_state 6 (some .int)) (v1 : Int32) (v2 : Int32) (v3 : Int32) (v4 : Int32) (v5 : Int32) (K30 : Int32 → Int32 → Sg → Prop) (K81 : Int32 → Sg → Prop) (hK30 : ∀ (z4 : Int32) (z5 : Int32) (σ : Sg), K30 z4 z5 σ → gI p l e rm_X9_state s m args below meth c D cy ad b0 Q 6 30 σ [some (.ref (ad 10)), some (.int v1), some (.int v2), some (.int v3), some (.int z4), some (.int z5)] []) (hK81 : ∀ (z4 : Int32) (σ : Sg), K81 z4 σ → gI p l e rm_X9_state s m args below meth c D cy ad b0 Q 6 81 σ [some (.ref (ad 10)), some (.int v1), some (.int v2), some (.int v3), some (.int z4), none] []) (σ : Sg) (h : wb_X9_state_30 v1 v2 v3 v4 v5 K30 K81 Q σ) : gI p l e rm_X9_state s m args below meth c D cy ad b0 Q 6 30 σ [some (.ref (ad 10)), some (.int v1), some (.int v2), some (.int v3), some (.int v4), some (.int v5)] [] := by
  refine g_iload C dX9_state_30 rfl ?_
  refine g_aload_n C dX9_state_32 rfl ?_
  refine g_callVi C 10 [] (c_X9_wide l D cy ad b0 C.A) cal_X9_wide mw_588 (by decide) rfl rfl ⟨Nat.le_of_ble_eq_true rfl, Nat.le_of_ble_eq_true rfl⟩ ⟨rfl, rfl⟩ ⟨Nat.zero_le _, Nat.zero_le _⟩ (Nat.le_of_ble_eq_true rfl) rfl dX9_state_33 h (fun r1 σ2 h => ?_)
  refine g_icmp_ge C 81 dX9_state_36 (by decide) (fun c36 => ?_) (fun c36 => ?_)
  · have h := h.1 c36
    refine g_mask [true, true, true, true, true, false] rfl ?_
    exact hK81 v4 σ2 h
  · have h := h.2 c36
    refine g_iload C dX9_state_39 rfl ?_
    refine g_if_eq C 81 dX9_state_41 (by decide) (fun c41 => ?_) (fun c41 => ?_)
    · have h := h.1 c41
      refine g_mask [true, true, true, true, true, false] rfl ?_
      exact hK81 v4 σ2 h
    · have h := h.2 c41
      refine g_aload_n C dX9_state_44 rfl ?_
      refine fget_10_29_X9_61 C rfl dX9_state_45 ?_
      refine g_iload_n C dX9_state_48 rfl ?_
      refine g_aload_n C dX9_state_49 rfl ?_
      refine g_callVi C 10 [] (c_X9_wide l D cy ad b0 C.A) cal_X9_wide mw_588 (by decide) rfl rfl ⟨Nat.le_of_ble_eq_true rfl, Nat.le_of_ble_eq_true rfl⟩ ⟨rfl, rfl⟩ ⟨Nat.zero_le _, Nat.zero_le _⟩ (Nat.le_of_ble_eq_true rfl) rfl dX9_state_50 h (fun r3 σ4 h => ?_)
      refine g_imul C dX9_state_53 ?_
      refine g_iload C dX9_state_54 rfl ?_
      refine g_iadd C dX9_state_56 ?_
      refine g_zald C (by decide) h.1 dX9_state_57 ?_
      have h := h.2
      refine g_aload_n C dX9_state_58 rfl ?_
      refine fget_10_33_X9_73 C rfl dX9_state_59 ?_
      refine g_iload C dX9_state_62 rfl ?_
      refine g_zald C (by decide) h.1 dX9_state_64 ?_
      have h := h.2
      refine g_icmp_ne C 72 dX9_state_65 (by decide) (fun c65 => ?_) (fun c65 => ?_)
      · have h := h.1 c65
        refine g_iconst C dX9_state_72 kc_0 ?_
        refine g_mask [true, true, true, true, false, true] rfl ?_
        exact k_X9_state_73 C v1 v2 v3 v5 (nI 0) K30 hK30 σ4 h
      · have h := h.2 c65
        refine g_iconst C dX9_state_68 kc_1 ?_
        refine g_goto C 73 dX9_state_69 (by decide) ?_
        refine g_mask [true, true, true, true, false, true] rfl ?_
        exact k_X9_state_73 C v1 v2 v3 v5 (nI 1) K30 hK30 σ4 h
def wl_X9_state_30 (v1 : Int32) (v2 : Int32) (v3 : Int32) (K81 : Int32 → Sg → Prop) (Q : Int32 → Sg → Prop) : Nat → Int32 → Int32 → Sg → Prop
  | 0, _, _, _ => False
  | n + 1, v4, v5, σ => wb_X9_state_30 v1 v2 v3 v4 v5 (wl_X9_state_30 v1 v2 v3 K81 Q n) K81 Q σ
set_option maxHeartbeats 4000000 in
set_option maxRecDepth 100000 in
theorem kl_X9_state_30 {Q : Int32 → Sg → Prop} (C : Cx p s m args meth c D cy ad b0 yX9_state cX9_state 6 (some .int)) (v1 : Int32) (v2 : Int32) (v3 : Int32) (K81 : Int32 → Sg → Prop) (hK81 : ∀ (z4 : Int32) (σ : Sg), K81 z4 σ → gI p l e rm_X9_state s m args below meth c D cy ad b0 Q 6 81 σ [some (.ref (ad 10)), some (.int v1), some (.int v2), some (.int v3), some (.int z4), none] []) : ∀ (n : Nat) (v4 : Int32) (v5 : Int32) (σ : Sg), wl_X9_state_30 v1 v2 v3 K81 Q n v4 v5 σ → gI p l e rm_X9_state s m args below meth c D cy ad b0 Q 6 30 σ [some (.ref (ad 10)), some (.int v1), some (.int v2), some (.int v3), some (.int v4), some (.int v5)] [] := by
  intro n
  induction n with
  | zero => intro v4 v5 σ h; exact False.elim h
  | succ n ih =>
    intro v4 v5 σ h
    exact kb_X9_state_30 C v1 v2 v3 v4 v5 (wl_X9_state_30 v1 v2 v3 K81 Q n) K81 (fun z4 z5 σ h => ih z4 z5 σ h) hK81 σ h
def wb_X9_state_2 (v1 : Int32) (v2 : Int32) (K2 : Int32 → Sg → Prop) (K94 : Sg → Prop) (Q : Int32 → Sg → Prop) (σ : Sg) : Prop :=
  vp_in v1 (aN 65) ∧ ((((gA σ 65 (Int32.toNatClampNeg v1)) ≤ v2 → K94 σ) ∧ (¬ (gA σ 65 (Int32.toNatClampNeg v1)) ≤ v2 → vp_in (((nI 61) * v1) + v2) (aN 66) ∧ (∀ x23 : Int32, x23 = (gA σ 66 (Int32.toNatClampNeg (((nI 61) * v1) + v2))) → (∃ n, wl_X9_state_30 v1 v2 x23 (fun z4 σ9 => wp_X9_state_81 v1 v2 x23 z4 K2 Q σ9) Q n (nI 1) (nI 0) σ)))))
set_option maxHeartbeats 4000000 in
set_option maxRecDepth 100000 in
theorem kb_X9_state_2 {Q : Int32 → Sg → Prop} (C : Cx p s m args meth c D cy ad b0 yX9_state cX9_state 6 (some .int)) (v1 : Int32) (v2 : Int32) (K2 : Int32 → Sg → Prop) (K94 : Sg → Prop) (hK2 : ∀ (z2 : Int32) (σ : Sg), K2 z2 σ → gI p l e rm_X9_state s m args below meth c D cy ad b0 Q 6 2 σ [some (.ref (ad 10)), some (.int v1), some (.int z2), none, none, none] []) (hK94 : ∀  (σ : Sg), K94 σ → gI p l e rm_X9_state s m args below meth c D cy ad b0 Q 6 94 σ [some (.ref (ad 10)), some (.int v1), none, none, none, none] []) (σ : Sg) (h : wb_X9_state_2 v1 v2 K2 K94 Q σ) : gI p l e rm_X9_state s m args below meth c D cy ad b0 Q 6 2 σ [some (.ref (ad 10)), some (.int v1), some (.int v2), none, none, none] [] := by
  refine g_iload_n C dX9_state_2 rfl ?_
  refine g_aload_n C dX9_state_3 rfl ?_
  refine fget_10_31_X9_67 C rfl dX9_state_4 ?_
  refine g_iload_n C dX9_state_7 rfl ?_
  refine g_iald C (by decide) h.1 dX9_state_8 ?_
  have h := h.2
  refine g_icmp_ge C 94 dX9_state_9 (by decide) (fun c9 => ?_) (fun c9 => ?_)
  · have h := h.1 c9
    refine g_mask [true, true, false, false, false, false] rfl ?_
    exact hK94 σ h
  · have h := h.2 c9
    refine g_aload_n C dX9_state_12 rfl ?_
    refine fget_10_32_X9_70 C rfl dX9_state_13 ?_
    refine g_bipush C dX9_state_16 kb_61 ?_
    refine g_iload_n C dX9_state_18 rfl ?_
    refine g_imul C dX9_state_19 ?_
    refine g_iload_n C dX9_state_20 rfl ?_
    refine g_iadd C dX9_state_21 ?_
    refine g_iald C (by decide) h.1 dX9_state_22 ?_
    have h := h.2
    refine g_topi (fun x23 e_x23 => ?_)
    have h := h x23 e_x23
    refine g_istore_n C [some (.ref (ad 10)), some (.int v1), some (.int v2), some (.int x23), none, none] dX9_state_23 (by decide) rfl ?_
    refine g_iconst C dX9_state_24 kc_1 ?_
    refine g_istore C [some (.ref (ad 10)), some (.int v1), some (.int v2), some (.int x23), some (.int (nI 1)), none] dX9_state_25 (by decide) rfl ?_
    refine g_iconst C dX9_state_27 kc_0 ?_
    refine g_istore C [some (.ref (ad 10)), some (.int v1), some (.int v2), some (.int x23), some (.int (nI 1)), some (.int (nI 0))] dX9_state_28 (by decide) rfl ?_
    obtain ⟨n, h⟩ := h
    exact kl_X9_state_30 C v1 v2 x23 _ (fun z4 σ9 h => by exact k_X9_state_81 C v1 v2 x23 z4 K2 hK2 σ9 h) n (nI 1) (nI 0) σ h
def wl_X9_state_2 (v1 : Int32) (K94 : Sg → Prop) (Q : Int32 → Sg → Prop) : Nat → Int32 → Sg → Prop
  | 0, _, _ => False
  | n + 1, v2, σ => wb_X9_state_2 v1 v2 (wl_X9_state_2 v1 K94 Q n) K94 Q σ
set_option maxHeartbeats 4000000 in
set_option maxRecDepth 100000 in
theorem kl_X9_state_2 {Q : Int32 → Sg → Prop} (C : Cx p s m args meth c D cy ad b0 yX9_state cX9_state 6 (some .int)) (v1 : Int32) (K94 : Sg → Prop) (hK94 : ∀  (σ : Sg), K94 σ → gI p l e rm_X9_state s m args below meth c D cy ad b0 Q 6 94 σ [some (.ref (ad 10)), some (.int v1), none, none, none, none] []) : ∀ (n : Nat) (v2 : Int32) (σ : Sg), wl_X9_state_2 v1 K94 Q n v2 σ → gI p l e rm_X9_state s m args below meth c D cy ad b0 Q 6 2 σ [some (.ref (ad 10)), some (.int v1), some (.int v2), none, none, none] [] := by
  intro n
  induction n with
  | zero => intro v2 σ h; exact False.elim h
  | succ n ih =>
    intro v2 σ h
    exact kb_X9_state_2 C v1 v2 (wl_X9_state_2 v1 K94 Q n) K94 (fun z2 σ h => ih z2 σ h) hK94 σ h
def wp_X9_state (a0 : Int32) (σ : Sg) (Q : Int32 → Sg → Prop) : Prop :=
  ∃ n, wl_X9_state_2 a0 (fun σ9 => wp_X9_state_94 a0 Q σ9) Q n (nI 0) σ
set_option maxHeartbeats 4000000 in
set_option maxRecDepth 100000 in
theorem c_X9_state (l : Launch) (D : va_G) (cy : Nat → ClassId) (ad : Nat → Nat) (b0 : Nat) (hA : AdOk ad b0) (a0 : Int32) : Cti l D cy ad b0 yX9_state cX9_state 6 (some .int) rm_X9_state [.ref (ad 10), .int a0] (fun σ Q => wp_X9_state a0 σ Q) := by
  intro σ Q h
  refine g_enter hA rfl (Nat.le_of_ble_eq_true rfl) [some (.ref (ad 10)), some (.int a0), none, none, none, none] rfl ?_
  intro p e s m args below meth c C
  refine g_iconst C dX9_state_0 kc_0 ?_
  refine g_istore_n C [some (.ref (ad 10)), some (.int a0), some (.int (nI 0)), none, none, none] dX9_state_1 (by decide) rfl ?_
  obtain ⟨n, h⟩ := h
  exact kl_X9_state_2 C a0 _ (fun σ9 h => by exact k_X9_state_94 C a0 σ9 h) n (nI 0) σ h
def rm_X9_meet : Room := { frames := 2, cells := 0, slots := 0, locals := 45 }
def wp_X9_meet_209 (v1 : Int32) (K29 : Int32 → Sg → Prop) (Q : Int32 → Sg → Prop) (σ : Sg) : Prop :=
  ∀ x209 : Int32, x209 = v1 + (nI 1) → (K29 x209 σ)
set_option maxHeartbeats 4000000 in
set_option maxRecDepth 100000 in
theorem k_X9_meet_209 {Q : Int32 → Sg → Prop} (C : Cx p s m args meth c D cy ad b0 yX9_meet cX9_meet 7 (some .boolean)) (v1 : Int32) (K29 : Int32 → Sg → Prop) (hK29 : ∀ (z1 : Int32) (σ : Sg), K29 z1 σ → gI p l e rm_X9_meet s m args below meth c D cy ad b0 Q 7 29 σ [some (.ref (ad 10)), some (.int z1), none, none, none, none, none] []) (σ : Sg) (h : wp_X9_meet_209 v1 K29 Q σ) : gI p l e rm_X9_meet s m args below meth c D cy ad b0 Q 7 209 σ [some (.ref (ad 10)), some (.int v1), none, none, none, none, none] [] := by
  obtain ⟨x209, e_x209⟩ : ∃ v : Int32, v = v1 + (nI 1) := ⟨_, rfl⟩
  have h := h x209 e_x209
  refine g_iinc C [some (.ref (ad 10)), some (.int x209), none, none, none, none, none] dX9_meet_209 rfl e_x209.symm (by decide) rfl ?_
  refine g_goto C 29 dX9_meet_212 (by decide) ?_
  exact hK29 x209 σ h
def wp_X9_meet_174 (v1 : Int32) (v2 : Int32) (v4 : Int32) (K39 : Int32 → Sg → Prop) (Q : Int32 → Sg → Prop) (σ : Sg) : Prop :=
  wp_X9_state v4 σ (fun r1 σ2 => ((¬ r1 = (-9 : Int32) → vp_in (((nI 4) * v1) + v2) (aN 64) ∧ (∀ σ3 : Sg, σ3 = stA σ2 64 (Int32.toNatClampNeg (((nI 4) * v1) + v2)) r1 → (∀ x203 : Int32, x203 = v2 + (nI 1) → (K39 x203 σ3)))) ∧ (r1 = (-9 : Int32) → Q (nI 0) σ2)))
set_option maxHeartbeats 4000000 in
set_option maxRecDepth 100000 in
theorem k_X9_meet_174 {Q : Int32 → Sg → Prop} (C : Cx p s m args meth c D cy ad b0 yX9_meet cX9_meet 7 (some .boolean)) (v1 : Int32) (v2 : Int32) (v4 : Int32) (K39 : Int32 → Sg → Prop) (hK39 : ∀ (z2 : Int32) (σ : Sg), K39 z2 σ → gI p l e rm_X9_meet s m args below meth c D cy ad b0 Q 7 39 σ [some (.ref (ad 10)), some (.int v1), some (.int z2), none, none, none, none] []) (σ : Sg) (h : wp_X9_meet_174 v1 v2 v4 K39 Q σ) : gI p l e rm_X9_meet s m args below meth c D cy ad b0 Q 7 174 σ [some (.ref (ad 10)), some (.int v1), some (.int v2), none, some (.int v4), none, none] [] := by
  refine g_aload_n C dX9_meet_174 rfl ?_
  refine g_iload C dX9_meet_175 rfl ?_
  refine g_callVi C 10 [.int v4] (c_X9_state l D cy ad b0 C.A v4) cal_X9_state mw_605 (by decide) rfl rfl ⟨Nat.le_of_ble_eq_true rfl, Nat.le_of_ble_eq_true rfl⟩ ⟨rfl, rfl⟩ ⟨Nat.zero_le _, Nat.zero_le _⟩ (Nat.le_of_ble_eq_true rfl) rfl dX9_meet_177 h (fun r1 σ2 h => ?_)
  refine g_istore C [some (.ref (ad 10)), some (.int v1), some (.int v2), none, some (.int v4), some (.int r1), none] dX9_meet_180 (by decide) rfl ?_
  refine g_iload C dX9_meet_182 rfl ?_
  refine g_bipush C dX9_meet_184 kb_m9 ?_
  refine g_icmp_ne C 191 dX9_meet_186 (by decide) (fun c186 => ?_) (fun c186 => ?_)
  · have h := h.1 c186
    refine g_aload_n C dX9_meet_191 rfl ?_
    refine fget_10_30_X9_64 C rfl dX9_meet_192 ?_
    refine g_iconst C dX9_meet_195 kc_4 ?_
    refine g_iload_n C dX9_meet_196 rfl ?_
    refine g_imul C dX9_meet_197 ?_
    refine g_iload_n C dX9_meet_198 rfl ?_
    refine g_iadd C dX9_meet_199 ?_
    refine g_iload C dX9_meet_200 rfl ?_
    refine g_iast C (by decide) h.1 dX9_meet_202 (fun σ3 e_σ3 => ?_)
    have h := h.2 σ3 e_σ3
    obtain ⟨x203, e_x203⟩ : ∃ v : Int32, v = v2 + (nI 1) := ⟨_, rfl⟩
    have h := h x203 e_x203
    refine g_iinc C [some (.ref (ad 10)), some (.int v1), some (.int x203), none, some (.int v4), some (.int r1), none] dX9_meet_203 rfl e_x203.symm (by decide) rfl ?_
    refine g_goto C 39 dX9_meet_206 (by decide) ?_
    refine g_mask [true, true, true, false, false, false, false] rfl ?_
    exact hK39 x203 σ3 h
  · have h := h.2 c186
    refine g_iconst C dX9_meet_189 kc_0 ?_
    exact g_zret C (narrow_bl bl_0) dX9_meet_190 h
def wp_X9_meet_167 (v1 : Int32) (v2 : Int32) (v3 : Int32) (v4 : Int32) (v5 : Int32) (s0 : Int32) (s1 : Int32) (K77 : Int32 → Sg → Prop) (Q : Int32 → Sg → Prop) (σ : Sg) : Prop :=
  vp_in s1 (aN 67) ∧ (∀ σ1 : Sg, σ1 = stA σ 67 (Int32.toNatClampNeg s1) (vp_nar .boolean s0) → (∀ x168 : Int32, x168 = v5 + (nI 1) → (K77 x168 σ1)))
set_option maxHeartbeats 4000000 in
set_option maxRecDepth 100000 in
theorem k_X9_meet_167 {Q : Int32 → Sg → Prop} (C : Cx p s m args meth c D cy ad b0 yX9_meet cX9_meet 7 (some .boolean)) (v1 : Int32) (v2 : Int32) (v3 : Int32) (v4 : Int32) (v5 : Int32) (s0 : Int32) (s1 : Int32) (K77 : Int32 → Sg → Prop) (hK77 : ∀ (z5 : Int32) (σ : Sg), K77 z5 σ → gI p l e rm_X9_meet s m args below meth c D cy ad b0 Q 7 77 σ [some (.ref (ad 10)), some (.int v1), some (.int v2), some (.int v3), some (.int v4), some (.int z5), none] []) (σ : Sg) (h : wp_X9_meet_167 v1 v2 v3 v4 v5 s0 s1 K77 Q σ) : gI p l e rm_X9_meet s m args below meth c D cy ad b0 Q 7 167 σ [some (.ref (ad 10)), some (.int v1), some (.int v2), some (.int v3), some (.int v4), some (.int v5), none] [.int s0, .int s1, .ref (ad 67)] := by
  refine g_zast C (by decide) h.1 dX9_meet_167 (fun σ1 e_σ1 => ?_)
  have h := h.2 σ1 e_σ1
  obtain ⟨x168, e_x168⟩ : ∃ v : Int32, v = v5 + (nI 1) := ⟨_, rfl⟩
  have h := h x168 e_x168
  refine g_iinc C [some (.ref (ad 10)), some (.int v1), some (.int v2), some (.int v3), some (.int v4), some (.int x168), none] dX9_meet_168 rfl e_x168.symm (by decide) rfl ?_
  refine g_goto C 77 dX9_meet_171 (by decide) ?_
  exact hK77 x168 σ1 h
def wp_X9_meet_166 (v1 : Int32) (v2 : Int32) (v3 : Int32) (v4 : Int32) (v5 : Int32) (s0 : Int32) (K77 : Int32 → Sg → Prop) (Q : Int32 → Sg → Prop) (σ : Sg) : Prop :=
  wp_X9_meet_167 v1 v2 v3 v4 v5 (nI 0) s0 K77 Q σ
set_option maxHeartbeats 4000000 in
set_option maxRecDepth 100000 in
theorem k_X9_meet_166 {Q : Int32 → Sg → Prop} (C : Cx p s m args meth c D cy ad b0 yX9_meet cX9_meet 7 (some .boolean)) (v1 : Int32) (v2 : Int32) (v3 : Int32) (v4 : Int32) (v5 : Int32) (s0 : Int32) (K77 : Int32 → Sg → Prop) (hK77 : ∀ (z5 : Int32) (σ : Sg), K77 z5 σ → gI p l e rm_X9_meet s m args below meth c D cy ad b0 Q 7 77 σ [some (.ref (ad 10)), some (.int v1), some (.int v2), some (.int v3), some (.int v4), some (.int z5), none] []) (σ : Sg) (h : wp_X9_meet_166 v1 v2 v3 v4 v5 s0 K77 Q σ) : gI p l e rm_X9_meet s m args below meth c D cy ad b0 Q 7 166 σ [some (.ref (ad 10)), some (.int v1), some (.int v2), some (.int v3), some (.int v4), some (.int v5), none] [.int s0, .ref (ad 67)] := by
  refine g_iconst C dX9_meet_166 kc_0 ?_
  exact k_X9_meet_167 C v1 v2 v3 v4 v5 (nI 0) s0 K77 hK77 σ h
def wp_X9_meet_131 (v1 : Int32) (v2 : Int32) (v3 : Int32) (v4 : Int32) (v5 : Int32) (s0 : Int32) (K77 : Int32 → Sg → Prop) (Q : Int32 → Sg → Prop) (σ : Sg) : Prop :=
  wp_X9_wide σ (fun r1 σ2 => vp_in ((v4 * r1) + v5) (aN 61) ∧ ((((gA σ2 61 (Int32.toNatClampNeg ((v4 * r1) + v5))) = (nI 0) → wp_X9_meet_166 v1 v2 v3 v4 v5 v5 K77 Q σ2) ∧ (¬ (gA σ2 61 (Int32.toNatClampNeg ((v4 * r1) + v5))) = (nI 0) → ((s0 = (nI 0) → wp_X9_meet_166 v1 v2 v3 v4 v5 v5 K77 Q σ2) ∧ (¬ s0 = (nI 0) → wp_X9_meet_167 v1 v2 v3 v4 v5 (nI 1) v5 K77 Q σ2))))))
set_option maxHeartbeats 4000000 in
set_option maxRecDepth 100000 in
theorem k_X9_meet_131 {Q : Int32 → Sg → Prop} (C : Cx p s m args meth c D cy ad b0 yX9_meet cX9_meet 7 (some .boolean)) (v1 : Int32) (v2 : Int32) (v3 : Int32) (v4 : Int32) (v5 : Int32) (s0 : Int32) (K77 : Int32 → Sg → Prop) (hK77 : ∀ (z5 : Int32) (σ : Sg), K77 z5 σ → gI p l e rm_X9_meet s m args below meth c D cy ad b0 Q 7 77 σ [some (.ref (ad 10)), some (.int v1), some (.int v2), some (.int v3), some (.int v4), some (.int z5), none] []) (σ : Sg) (h : wp_X9_meet_131 v1 v2 v3 v4 v5 s0 K77 Q σ) : gI p l e rm_X9_meet s m args below meth c D cy ad b0 Q 7 131 σ [some (.ref (ad 10)), some (.int v1), some (.int v2), some (.int v3), some (.int v4), some (.int v5), none] [.int s0] := by
  refine g_istore C [some (.ref (ad 10)), some (.int v1), some (.int v2), some (.int v3), some (.int v4), some (.int v5), some (.int s0)] dX9_meet_131 (by decide) rfl ?_
  refine g_aload_n C dX9_meet_133 rfl ?_
  refine fget_10_33_X9_73 C rfl dX9_meet_134 ?_
  refine g_iload C dX9_meet_137 rfl ?_
  refine g_aload_n C dX9_meet_139 rfl ?_
  refine fget_10_26_X9_54 C rfl dX9_meet_140 ?_
  refine g_iload C dX9_meet_143 rfl ?_
  refine g_aload_n C dX9_meet_145 rfl ?_
  refine g_callVi C 10 [] (c_X9_wide l D cy ad b0 C.A) cal_X9_wide mw_588 (by decide) rfl rfl ⟨Nat.le_of_ble_eq_true rfl, Nat.le_of_ble_eq_true rfl⟩ ⟨rfl, rfl⟩ ⟨Nat.zero_le _, Nat.zero_le _⟩ (Nat.le_of_ble_eq_true rfl) rfl dX9_meet_146 h (fun r1 σ2 h => ?_)
  refine g_imul C dX9_meet_149 ?_
  refine g_iload C dX9_meet_150 rfl ?_
  refine g_iadd C dX9_meet_152 ?_
  refine g_zald C (by decide) h.1 dX9_meet_153 ?_
  have h := h.2
  refine g_if_eq C 166 dX9_meet_154 (by decide) (fun c154 => ?_) (fun c154 => ?_)
  · have h := h.1 c154
    refine g_mask [true, true, true, true, true, true, false] rfl ?_
    exact k_X9_meet_166 C v1 v2 v3 v4 v5 v5 K77 hK77 σ2 h
  · have h := h.2 c154
    refine g_iload C dX9_meet_157 rfl ?_
    refine g_if_eq C 166 dX9_meet_159 (by decide) (fun c159 => ?_) (fun c159 => ?_)
    · have h := h.1 c159
      refine g_mask [true, true, true, true, true, true, false] rfl ?_
      exact k_X9_meet_166 C v1 v2 v3 v4 v5 v5 K77 hK77 σ2 h
    · have h := h.2 c159
      refine g_iconst C dX9_meet_162 kc_1 ?_
      refine g_goto C 167 dX9_meet_163 (by decide) ?_
      refine g_mask [true, true, true, true, true, true, false] rfl ?_
      exact k_X9_meet_167 C v1 v2 v3 v4 v5 (nI 1) v5 K77 hK77 σ2 h
def wb_X9_meet_77 (v1 : Int32) (v2 : Int32) (v3 : Int32) (v4 : Int32) (v5 : Int32) (K77 : Int32 → Sg → Prop) (K174 : Sg → Prop) (Q : Int32 → Sg → Prop) (σ : Sg) : Prop :=
  wp_X9_wide σ (fun r1 σ2 => ((r1 ≤ v5 → K174 σ2) ∧ (¬ r1 ≤ v5 → ((¬ v1 = (nI 0) → wp_X9_wide σ2 (fun r3 σ4 => wp_X9_spot v3 v2 v5 σ4 (fun r5 σ6 => vp_in r5 (aN 59) ∧ (vp_in ((v1 * r3) + (gA σ6 59 (Int32.toNatClampNeg r5))) (aN 63) ∧ (wp_X9_meet_131 v1 v2 v3 v4 v5 (gA σ6 63 (Int32.toNatClampNeg ((v1 * r3) + (gA σ6 59 (Int32.toNatClampNeg r5))))) K77 Q σ6))))) ∧ (v1 = (nI 0) → wp_X9_spot v3 v2 v5 σ2 (fun r7 σ8 => vp_in r7 (aN 60) ∧ (wp_X9_meet_131 v1 v2 v3 v4 v5 (gA σ8 60 (Int32.toNatClampNeg r7)) K77 Q σ8)))))))
set_option maxHeartbeats 4000000 in
set_option maxRecDepth 100000 in
theorem kb_X9_meet_77 {Q : Int32 → Sg → Prop} (C : Cx p s m args meth c D cy ad b0 yX9_meet cX9_meet 7 (some .boolean)) (v1 : Int32) (v2 : Int32) (v3 : Int32) (v4 : Int32) (v5 : Int32) (K77 : Int32 → Sg → Prop) (K174 : Sg → Prop) (hK77 : ∀ (z5 : Int32) (σ : Sg), K77 z5 σ → gI p l e rm_X9_meet s m args below meth c D cy ad b0 Q 7 77 σ [some (.ref (ad 10)), some (.int v1), some (.int v2), some (.int v3), some (.int v4), some (.int z5), none] []) (hK174 : ∀  (σ : Sg), K174 σ → gI p l e rm_X9_meet s m args below meth c D cy ad b0 Q 7 174 σ [some (.ref (ad 10)), some (.int v1), some (.int v2), none, some (.int v4), none, none] []) (σ : Sg) (h : wb_X9_meet_77 v1 v2 v3 v4 v5 K77 K174 Q σ) : gI p l e rm_X9_meet s m args below meth c D cy ad b0 Q 7 77 σ [some (.ref (ad 10)), some (.int v1), some (.int v2), some (.int v3), some (.int v4), some (.int v5), none] [] := by
  refine g_iload C dX9_meet_77 rfl ?_
  refine g_aload_n C dX9_meet_79 rfl ?_
  refine g_callVi C 10 [] (c_X9_wide l D cy ad b0 C.A) cal_X9_wide mw_588 (by decide) rfl rfl ⟨Nat.le_of_ble_eq_true rfl, Nat.le_of_ble_eq_true rfl⟩ ⟨rfl, rfl⟩ ⟨Nat.zero_le _, Nat.zero_le _⟩ (Nat.le_of_ble_eq_true rfl) rfl dX9_meet_80 h (fun r1 σ2 h => ?_)
  refine g_icmp_ge C 174 dX9_meet_83 (by decide) (fun c83 => ?_) (fun c83 => ?_)
  · have h := h.1 c83
    refine g_mask [true, true, true, false, true, false, false] rfl ?_
    exact hK174 σ2 h
  · have h := h.2 c83
    refine g_iload_n C dX9_meet_86 rfl ?_
    refine g_if_ne C 106 dX9_meet_87 (by decide) (fun c87 => ?_) (fun c87 => ?_)
    · have h := h.1 c87
      refine g_aload_n C dX9_meet_106 rfl ?_
      refine fget_10_29_X9_61 C rfl dX9_meet_107 ?_
      refine g_iload_n C dX9_meet_110 rfl ?_
      refine g_aload_n C dX9_meet_111 rfl ?_
      refine g_callVi C 10 [] (c_X9_wide l D cy ad b0 C.A) cal_X9_wide mw_588 (by decide) rfl rfl ⟨Nat.le_of_ble_eq_true rfl, Nat.le_of_ble_eq_true rfl⟩ ⟨rfl, rfl⟩ ⟨Nat.zero_le _, Nat.zero_le _⟩ (Nat.le_of_ble_eq_true rfl) rfl dX9_meet_112 h (fun r3 σ4 h => ?_)
      refine g_imul C dX9_meet_115 ?_
      refine g_aload_n C dX9_meet_116 rfl ?_
      refine fget_10_24_X9_48 C rfl dX9_meet_117 ?_
      refine g_aload_n C dX9_meet_120 rfl ?_
      refine g_iload_n C dX9_meet_121 rfl ?_
      refine g_iload_n C dX9_meet_122 rfl ?_
      refine g_iload C dX9_meet_123 rfl ?_
      refine g_callVi C 10 [.int v3, .int v2, .int v5] (c_X9_spot l D cy ad b0 C.A v3 v2 v5) cal_X9_spot mw_596 (by decide) rfl rfl ⟨Nat.le_of_ble_eq_true rfl, Nat.le_of_ble_eq_true rfl⟩ ⟨rfl, rfl⟩ ⟨Nat.zero_le _, Nat.zero_le _⟩ (Nat.le_of_ble_eq_true rfl) rfl dX9_meet_125 h (fun r5 σ6 h => ?_)
      refine g_iald C (by decide) h.1 dX9_meet_128 ?_
      have h := h.2
      refine g_iadd C dX9_meet_129 ?_
      refine g_zald C (by decide) h.1 dX9_meet_130 ?_
      have h := h.2
      exact k_X9_meet_131 C v1 v2 v3 v4 v5 (gA σ6 63 (Int32.toNatClampNeg ((v1 * r3) + (gA σ6 59 (Int32.toNatClampNeg r5))))) K77 hK77 σ6 h
    · have h := h.2 c87
      refine g_aload_n C dX9_meet_90 rfl ?_
      refine fget_10_25_X9_51 C rfl dX9_meet_91 ?_
      refine g_aload_n C dX9_meet_94 rfl ?_
      refine g_iload_n C dX9_meet_95 rfl ?_
      refine g_iload_n C dX9_meet_96 rfl ?_
      refine g_iload C dX9_meet_97 rfl ?_
      refine g_callVi C 10 [.int v3, .int v2, .int v5] (c_X9_spot l D cy ad b0 C.A v3 v2 v5) cal_X9_spot mw_596 (by decide) rfl rfl ⟨Nat.le_of_ble_eq_true rfl, Nat.le_of_ble_eq_true rfl⟩ ⟨rfl, rfl⟩ ⟨Nat.zero_le _, Nat.zero_le _⟩ (Nat.le_of_ble_eq_true rfl) rfl dX9_meet_99 h (fun r7 σ8 h => ?_)
      refine g_zald C (by decide) h.1 dX9_meet_102 ?_
      have h := h.2
      refine g_goto C 131 dX9_meet_103 (by decide) ?_
      exact k_X9_meet_131 C v1 v2 v3 v4 v5 (gA σ8 60 (Int32.toNatClampNeg r7)) K77 hK77 σ8 h
def wl_X9_meet_77 (v1 : Int32) (v2 : Int32) (v3 : Int32) (v4 : Int32) (K174 : Sg → Prop) (Q : Int32 → Sg → Prop) : Nat → Int32 → Sg → Prop
  | 0, _, _ => False
  | n + 1, v5, σ => wb_X9_meet_77 v1 v2 v3 v4 v5 (wl_X9_meet_77 v1 v2 v3 v4 K174 Q n) K174 Q σ
set_option maxHeartbeats 4000000 in
set_option maxRecDepth 100000 in
theorem kl_X9_meet_77 {Q : Int32 → Sg → Prop} (C : Cx p s m args meth c D cy ad b0 yX9_meet cX9_meet 7 (some .boolean)) (v1 : Int32) (v2 : Int32) (v3 : Int32) (v4 : Int32) (K174 : Sg → Prop) (hK174 : ∀  (σ : Sg), K174 σ → gI p l e rm_X9_meet s m args below meth c D cy ad b0 Q 7 174 σ [some (.ref (ad 10)), some (.int v1), some (.int v2), none, some (.int v4), none, none] []) : ∀ (n : Nat) (v5 : Int32) (σ : Sg), wl_X9_meet_77 v1 v2 v3 v4 K174 Q n v5 σ → gI p l e rm_X9_meet s m args below meth c D cy ad b0 Q 7 77 σ [some (.ref (ad 10)), some (.int v1), some (.int v2), some (.int v3), some (.int v4), some (.int v5), none] [] := by
  intro n
  induction n with
  | zero => intro v5 σ h; exact False.elim h
  | succ n ih =>
    intro v5 σ h
    exact kb_X9_meet_77 C v1 v2 v3 v4 v5 (wl_X9_meet_77 v1 v2 v3 v4 K174 Q n) K174 (fun z5 σ h => ih z5 σ h) hK174 σ h
def wp_X9_meet_61 (v1 : Int32) (v2 : Int32) (s0 : Int32) (K39 : Int32 → Sg → Prop) (Q : Int32 → Sg → Prop) (σ : Sg) : Prop :=
  vp_in (((nI 4) * s0) + v2) (aN 58) ∧ (∀ x72 : Int32, x72 = (gA σ 58 (Int32.toNatClampNeg (((nI 4) * s0) + v2))) → (∃ n, wl_X9_meet_77 v1 v2 s0 x72 (fun σ9 => wp_X9_meet_174 v1 v2 x72 K39 Q σ9) Q n (nI 0) σ))
set_option maxHeartbeats 4000000 in
set_option maxRecDepth 100000 in
theorem k_X9_meet_61 {Q : Int32 → Sg → Prop} (C : Cx p s m args meth c D cy ad b0 yX9_meet cX9_meet 7 (some .boolean)) (v1 : Int32) (v2 : Int32) (s0 : Int32) (K39 : Int32 → Sg → Prop) (hK39 : ∀ (z2 : Int32) (σ : Sg), K39 z2 σ → gI p l e rm_X9_meet s m args below meth c D cy ad b0 Q 7 39 σ [some (.ref (ad 10)), some (.int v1), some (.int z2), none, none, none, none] []) (σ : Sg) (h : wp_X9_meet_61 v1 v2 s0 K39 Q σ) : gI p l e rm_X9_meet s m args below meth c D cy ad b0 Q 7 61 σ [some (.ref (ad 10)), some (.int v1), some (.int v2), none, none, none, none] [.int s0] := by
  refine g_istore_n C [some (.ref (ad 10)), some (.int v1), some (.int v2), some (.int s0), none, none, none] dX9_meet_61 (by decide) rfl ?_
  refine g_aload_n C dX9_meet_62 rfl ?_
  refine fget_10_23_X9_45 C rfl dX9_meet_63 ?_
  refine g_iconst C dX9_meet_66 kc_4 ?_
  refine g_iload_n C dX9_meet_67 rfl ?_
  refine g_imul C dX9_meet_68 ?_
  refine g_iload_n C dX9_meet_69 rfl ?_
  refine g_iadd C dX9_meet_70 ?_
  refine g_iald C (by decide) h.1 dX9_meet_71 ?_
  have h := h.2
  refine g_topi (fun x72 e_x72 => ?_)
  have h := h x72 e_x72
  refine g_istore C [some (.ref (ad 10)), some (.int v1), some (.int v2), some (.int s0), some (.int x72), none, none] dX9_meet_72 (by decide) rfl ?_
  refine g_iconst C dX9_meet_74 kc_0 ?_
  refine g_istore C [some (.ref (ad 10)), some (.int v1), some (.int v2), some (.int s0), some (.int x72), some (.int (nI 0)), none] dX9_meet_75 (by decide) rfl ?_
  obtain ⟨n, h⟩ := h
  exact kl_X9_meet_77 C v1 v2 s0 x72 _ (fun σ9 h => by exact k_X9_meet_174 C v1 v2 x72 K39 hK39 σ9 h) n (nI 0) σ h
def wb_X9_meet_39 (v1 : Int32) (v2 : Int32) (K39 : Int32 → Sg → Prop) (K209 : Sg → Prop) (Q : Int32 → Sg → Prop) (σ : Sg) : Prop :=
  (((nI 4) ≤ v2 → K209 σ) ∧ (¬ (nI 4) ≤ v2 → ((¬ v1 = (nI 0) → vp_in v1 (aN 62) ∧ (wp_X9_meet_61 v1 v2 (gA σ 62 (Int32.toNatClampNeg v1)) K39 Q σ)) ∧ (v1 = (nI 0) → wp_X9_meet_61 v1 v2 (gF σ 10 19) K39 Q σ))))
set_option maxHeartbeats 4000000 in
set_option maxRecDepth 100000 in
theorem kb_X9_meet_39 {Q : Int32 → Sg → Prop} (C : Cx p s m args meth c D cy ad b0 yX9_meet cX9_meet 7 (some .boolean)) (v1 : Int32) (v2 : Int32) (K39 : Int32 → Sg → Prop) (K209 : Sg → Prop) (hK39 : ∀ (z2 : Int32) (σ : Sg), K39 z2 σ → gI p l e rm_X9_meet s m args below meth c D cy ad b0 Q 7 39 σ [some (.ref (ad 10)), some (.int v1), some (.int z2), none, none, none, none] []) (hK209 : ∀  (σ : Sg), K209 σ → gI p l e rm_X9_meet s m args below meth c D cy ad b0 Q 7 209 σ [some (.ref (ad 10)), some (.int v1), none, none, none, none, none] []) (σ : Sg) (h : wb_X9_meet_39 v1 v2 K39 K209 Q σ) : gI p l e rm_X9_meet s m args below meth c D cy ad b0 Q 7 39 σ [some (.ref (ad 10)), some (.int v1), some (.int v2), none, none, none, none] [] := by
  refine g_iload_n C dX9_meet_39 rfl ?_
  refine g_iconst C dX9_meet_40 kc_4 ?_
  refine g_icmp_ge C 209 dX9_meet_41 (by decide) (fun c41 => ?_) (fun c41 => ?_)
  · have h := h.1 c41
    refine g_mask [true, true, false, false, false, false, false] rfl ?_
    exact hK209 σ h
  · have h := h.2 c41
    refine g_iload_n C dX9_meet_44 rfl ?_
    refine g_if_ne C 55 dX9_meet_45 (by decide) (fun c45 => ?_) (fun c45 => ?_)
    · have h := h.1 c45
      refine g_aload_n C dX9_meet_55 rfl ?_
      refine fget_10_28_X9_57 C rfl dX9_meet_56 ?_
      refine g_iload_n C dX9_meet_59 rfl ?_
      refine g_iald C (by decide) h.1 dX9_meet_60 ?_
      have h := h.2
      exact k_X9_meet_61 C v1 v2 (gA σ 62 (Int32.toNatClampNeg v1)) K39 hK39 σ h
    · have h := h.2 c45
      refine g_aload_n C dX9_meet_48 rfl ?_
      refine fget_10_19_X9_194 C rfl dX9_meet_49 ?_
      refine g_goto C 61 dX9_meet_52 (by decide) ?_
      exact k_X9_meet_61 C v1 v2 (gF σ 10 19) K39 hK39 σ h
def wl_X9_meet_39 (v1 : Int32) (K209 : Sg → Prop) (Q : Int32 → Sg → Prop) : Nat → Int32 → Sg → Prop
  | 0, _, _ => False
  | n + 1, v2, σ => wb_X9_meet_39 v1 v2 (wl_X9_meet_39 v1 K209 Q n) K209 Q σ
set_option maxHeartbeats 4000000 in
set_option maxRecDepth 100000 in
theorem kl_X9_meet_39 {Q : Int32 → Sg → Prop} (C : Cx p s m args meth c D cy ad b0 yX9_meet cX9_meet 7 (some .boolean)) (v1 : Int32) (K209 : Sg → Prop) (hK209 : ∀  (σ : Sg), K209 σ → gI p l e rm_X9_meet s m args below meth c D cy ad b0 Q 7 209 σ [some (.ref (ad 10)), some (.int v1), none, none, none, none, none] []) : ∀ (n : Nat) (v2 : Int32) (σ : Sg), wl_X9_meet_39 v1 K209 Q n v2 σ → gI p l e rm_X9_meet s m args below meth c D cy ad b0 Q 7 39 σ [some (.ref (ad 10)), some (.int v1), some (.int v2), none, none, none, none] [] := by
  intro n
  induction n with
  | zero => intro v2 σ h; exact False.elim h
  | succ n ih =>
    intro v2 σ h
    exact kb_X9_meet_39 C v1 v2 (wl_X9_meet_39 v1 K209 Q n) K209 (fun z2 σ h => ih z2 σ h) hK209 σ h
def wb_X9_meet_29 (v1 : Int32) (K29 : Int32 → Sg → Prop) (Q : Int32 → Sg → Prop) (σ : Sg) : Prop :=
  (((gF σ 10 27) ≤ v1 → Q (nI 1) σ) ∧ (¬ (gF σ 10 27) ≤ v1 → ∃ n, wl_X9_meet_39 v1 (fun σ9 => wp_X9_meet_209 v1 K29 Q σ9) Q n (nI 0) σ))
set_option maxHeartbeats 4000000 in
set_option maxRecDepth 100000 in
theorem kb_X9_meet_29 {Q : Int32 → Sg → Prop} (C : Cx p s m args meth c D cy ad b0 yX9_meet cX9_meet 7 (some .boolean)) (v1 : Int32) (K29 : Int32 → Sg → Prop) (hK29 : ∀ (z1 : Int32) (σ : Sg), K29 z1 σ → gI p l e rm_X9_meet s m args below meth c D cy ad b0 Q 7 29 σ [some (.ref (ad 10)), some (.int z1), none, none, none, none, none] []) (σ : Sg) (h : wb_X9_meet_29 v1 K29 Q σ) : gI p l e rm_X9_meet s m args below meth c D cy ad b0 Q 7 29 σ [some (.ref (ad 10)), some (.int v1), none, none, none, none, none] [] := by
  refine g_iload_n C dX9_meet_29 rfl ?_
  refine g_aload_n C dX9_meet_30 rfl ?_
  refine fget_10_27_X9_218 C rfl dX9_meet_31 ?_
  refine g_icmp_ge C 215 dX9_meet_34 (by decide) (fun c34 => ?_) (fun c34 => ?_)
  · have h := h.1 c34
    refine g_iconst C dX9_meet_215 kc_1 ?_
    exact g_zret C (narrow_bl bl_1) dX9_meet_216 h
  · have h := h.2 c34
    refine g_iconst C dX9_meet_37 kc_0 ?_
    refine g_istore_n C [some (.ref (ad 10)), some (.int v1), some (.int (nI 0)), none, none, none, none] dX9_meet_38 (by decide) rfl ?_
    obtain ⟨n, h⟩ := h
    exact kl_X9_meet_39 C v1 _ (fun σ9 h => by exact k_X9_meet_209 C v1 K29 hK29 σ9 h) n (nI 0) σ h
def wl_X9_meet_29 (Q : Int32 → Sg → Prop) : Nat → Int32 → Sg → Prop
  | 0, _, _ => False
  | n + 1, v1, σ => wb_X9_meet_29 v1 (wl_X9_meet_29 Q n) Q σ
set_option maxHeartbeats 4000000 in
set_option maxRecDepth 100000 in
theorem kl_X9_meet_29 {Q : Int32 → Sg → Prop} (C : Cx p s m args meth c D cy ad b0 yX9_meet cX9_meet 7 (some .boolean)) : ∀ (n : Nat) (v1 : Int32) (σ : Sg), wl_X9_meet_29 Q n v1 σ → gI p l e rm_X9_meet s m args below meth c D cy ad b0 Q 7 29 σ [some (.ref (ad 10)), some (.int v1), none, none, none, none, none] [] := by
  intro n
  induction n with
  | zero => intro v1 σ h; exact False.elim h
  | succ n ih =>
    intro v1 σ h
    exact kb_X9_meet_29 C v1 (wl_X9_meet_29 Q n) (fun z1 σ h => ih z1 σ h) σ h
def wp_X9_meet_22 (Q : Int32 → Sg → Prop) (σ : Sg) : Prop :=
  ∀ σ1 : Sg, σ1 = stF σ 10 27 (nI 1) → (∃ n, wl_X9_meet_29 Q n (nI 0) σ1)
set_option maxHeartbeats 4000000 in
set_option maxRecDepth 100000 in
theorem k_X9_meet_22 {Q : Int32 → Sg → Prop} (C : Cx p s m args meth c D cy ad b0 yX9_meet cX9_meet 7 (some .boolean)) (σ : Sg) (h : wp_X9_meet_22 Q σ) : gI p l e rm_X9_meet s m args below meth c D cy ad b0 Q 7 22 σ [some (.ref (ad 10)), none, none, none, none, none, none] [] := by
  refine g_aload_n C dX9_meet_22 rfl ?_
  refine g_iconst C dX9_meet_23 kc_1 ?_
  refine fput_10_27_X9_218 C rfl dX9_meet_24 (fun σ1 e_σ1 => ?_)
  have h := h σ1 e_σ1
  refine g_iconst C dX9_meet_27 kc_0 ?_
  refine g_istore_n C [some (.ref (ad 10)), some (.int (nI 0)), none, none, none, none, none] dX9_meet_28 (by decide) rfl ?_
  obtain ⟨n, h⟩ := h
  exact kl_X9_meet_29 C n (nI 0) σ1 h
def wb_X9_meet_2 (v1 : Int32) (K2 : Int32 → Sg → Prop) (K22 : Sg → Prop) (Q : Int32 → Sg → Prop) (σ : Sg) : Prop :=
  (((nI 256) ≤ v1 → K22 σ) ∧ (¬ (nI 256) ≤ v1 → vp_in v1 (aN 65) ∧ (∀ σ1 : Sg, σ1 = stA σ 65 (Int32.toNatClampNeg v1) (nI 0) → (∀ x16 : Int32, x16 = v1 + (nI 1) → (K2 x16 σ1)))))
set_option maxHeartbeats 4000000 in
set_option maxRecDepth 100000 in
theorem kb_X9_meet_2 {Q : Int32 → Sg → Prop} (C : Cx p s m args meth c D cy ad b0 yX9_meet cX9_meet 7 (some .boolean)) (v1 : Int32) (K2 : Int32 → Sg → Prop) (K22 : Sg → Prop) (hK2 : ∀ (z1 : Int32) (σ : Sg), K2 z1 σ → gI p l e rm_X9_meet s m args below meth c D cy ad b0 Q 7 2 σ [some (.ref (ad 10)), some (.int z1), none, none, none, none, none] []) (hK22 : ∀  (σ : Sg), K22 σ → gI p l e rm_X9_meet s m args below meth c D cy ad b0 Q 7 22 σ [some (.ref (ad 10)), none, none, none, none, none, none] []) (σ : Sg) (h : wb_X9_meet_2 v1 K2 K22 Q σ) : gI p l e rm_X9_meet s m args below meth c D cy ad b0 Q 7 2 σ [some (.ref (ad 10)), some (.int v1), none, none, none, none, none] [] := by
  refine g_iload_n C dX9_meet_2 rfl ?_
  refine g_sipush C dX9_meet_3 ks_256 ?_
  refine g_icmp_ge C 22 dX9_meet_6 (by decide) (fun c6 => ?_) (fun c6 => ?_)
  · have h := h.1 c6
    refine g_mask [true, false, false, false, false, false, false] rfl ?_
    exact hK22 σ h
  · have h := h.2 c6
    refine g_aload_n C dX9_meet_9 rfl ?_
    refine fget_10_31_X9_67 C rfl dX9_meet_10 ?_
    refine g_iload_n C dX9_meet_13 rfl ?_
    refine g_iconst C dX9_meet_14 kc_0 ?_
    refine g_iast C (by decide) h.1 dX9_meet_15 (fun σ1 e_σ1 => ?_)
    have h := h.2 σ1 e_σ1
    obtain ⟨x16, e_x16⟩ : ∃ v : Int32, v = v1 + (nI 1) := ⟨_, rfl⟩
    have h := h x16 e_x16
    refine g_iinc C [some (.ref (ad 10)), some (.int x16), none, none, none, none, none] dX9_meet_16 rfl e_x16.symm (by decide) rfl ?_
    refine g_goto C 2 dX9_meet_19 (by decide) ?_
    exact hK2 x16 σ1 h
def wl_X9_meet_2 (K22 : Sg → Prop) (Q : Int32 → Sg → Prop) : Nat → Int32 → Sg → Prop
  | 0, _, _ => False
  | n + 1, v1, σ => wb_X9_meet_2 v1 (wl_X9_meet_2 K22 Q n) K22 Q σ
set_option maxHeartbeats 4000000 in
set_option maxRecDepth 100000 in
theorem kl_X9_meet_2 {Q : Int32 → Sg → Prop} (C : Cx p s m args meth c D cy ad b0 yX9_meet cX9_meet 7 (some .boolean)) (K22 : Sg → Prop) (hK22 : ∀  (σ : Sg), K22 σ → gI p l e rm_X9_meet s m args below meth c D cy ad b0 Q 7 22 σ [some (.ref (ad 10)), none, none, none, none, none, none] []) : ∀ (n : Nat) (v1 : Int32) (σ : Sg), wl_X9_meet_2 K22 Q n v1 σ → gI p l e rm_X9_meet s m args below meth c D cy ad b0 Q 7 2 σ [some (.ref (ad 10)), some (.int v1), none, none, none, none, none] [] := by
  intro n
  induction n with
  | zero => intro v1 σ h; exact False.elim h
  | succ n ih =>
    intro v1 σ h
    exact kb_X9_meet_2 C v1 (wl_X9_meet_2 K22 Q n) K22 (fun z1 σ h => ih z1 σ h) hK22 σ h
def wp_X9_meet (σ : Sg) (Q : Int32 → Sg → Prop) : Prop :=
  ∃ n, wl_X9_meet_2 (fun σ9 => wp_X9_meet_22 Q σ9) Q n (nI 0) σ
set_option maxHeartbeats 4000000 in
set_option maxRecDepth 100000 in
theorem c_X9_meet (l : Launch) (D : va_G) (cy : Nat → ClassId) (ad : Nat → Nat) (b0 : Nat) (hA : AdOk ad b0) : Cti l D cy ad b0 yX9_meet cX9_meet 7 (some .boolean) rm_X9_meet [.ref (ad 10)] (fun σ Q => wp_X9_meet σ Q) := by
  intro σ Q h
  refine g_enter hA rfl (Nat.le_of_ble_eq_true rfl) [some (.ref (ad 10)), none, none, none, none, none, none] rfl ?_
  intro p e s m args below meth c C
  refine g_iconst C dX9_meet_0 kc_0 ?_
  refine g_istore_n C [some (.ref (ad 10)), some (.int (nI 0)), none, none, none, none, none] dX9_meet_1 (by decide) rfl ?_
  obtain ⟨n, h⟩ := h
  exact kl_X9_meet_2 C _ (fun σ9 h => by exact k_X9_meet_22 C σ9 h) n (nI 0) σ h
def rm_X9_isKept : Room := { frames := 1, cells := 0, slots := 0, locals := 20 }
def wp_X9_isKept_23 (Q : Int32 → Sg → Prop) (σ : Sg) : Prop :=
  Q (nI 1) σ
set_option maxHeartbeats 4000000 in
set_option maxRecDepth 100000 in
theorem k_X9_isKept_23 {Q : Int32 → Sg → Prop} (C : Cx p s m args meth c D cy ad b0 yX9_isKept cX9_isKept 2 (some .boolean)) (σ : Sg) (h : wp_X9_isKept_23 Q σ) : gI p l e rm_X9_isKept s m args below meth c D cy ad b0 Q 2 23 σ [none, none] [] := by
  refine g_iconst C dX9_isKept_23 kc_1 ?_
  refine g_goto C 28 dX9_isKept_24 (by decide) ?_
  exact g_zret C (narrow_bl bl_1) dX9_isKept_28 h
def wp_X9_isKept (a0 : Int32) (σ : Sg) (Q : Int32 → Sg → Prop) : Prop :=
  ((a0 = (nI 0) → wp_X9_isKept_23 Q σ) ∧ (¬ a0 = (nI 0) → wp_X9_wide σ (fun r1 σ2 => vp_in ((a0 * r1) + (gF σ2 10 18)) (aN 63) ∧ ((((gA σ2 63 (Int32.toNatClampNeg ((a0 * r1) + (gF σ2 10 18)))) = (nI 0) → Q (nI 0) σ2) ∧ (¬ (gA σ2 63 (Int32.toNatClampNeg ((a0 * r1) + (gF σ2 10 18)))) = (nI 0) → wp_X9_isKept_23 Q σ2))))))
set_option maxHeartbeats 4000000 in
set_option maxRecDepth 100000 in
theorem c_X9_isKept (l : Launch) (D : va_G) (cy : Nat → ClassId) (ad : Nat → Nat) (b0 : Nat) (hA : AdOk ad b0) (a0 : Int32) : Cti l D cy ad b0 yX9_isKept cX9_isKept 2 (some .boolean) rm_X9_isKept [.ref (ad 10), .int a0] (fun σ Q => wp_X9_isKept a0 σ Q) := by
  intro σ Q h
  refine g_enter hA rfl (Nat.le_of_ble_eq_true rfl) [some (.ref (ad 10)), some (.int a0)] rfl ?_
  intro p e s m args below meth c C
  refine g_iload_n C dX9_isKept_0 rfl ?_
  refine g_if_eq C 23 dX9_isKept_1 (by decide) (fun c1 => ?_) (fun c1 => ?_)
  · have h := h.1 c1
    refine g_mask [false, false] rfl ?_
    exact k_X9_isKept_23 C σ h
  · have h := h.2 c1
    refine g_aload_n C dX9_isKept_4 rfl ?_
    refine fget_10_29_X9_61 C rfl dX9_isKept_5 ?_
    refine g_iload_n C dX9_isKept_8 rfl ?_
    refine g_aload_n C dX9_isKept_9 rfl ?_
    refine g_callVi C 10 [] (c_X9_wide l D cy ad b0 C.A) cal_X9_wide mw_588 (by decide) rfl rfl ⟨Nat.le_of_ble_eq_true rfl, Nat.le_of_ble_eq_true rfl⟩ ⟨rfl, rfl⟩ ⟨Nat.zero_le _, Nat.zero_le _⟩ (Nat.le_of_ble_eq_true rfl) rfl dX9_isKept_10 h (fun r1 σ2 h => ?_)
    refine g_imul C dX9_isKept_13 ?_
    refine g_aload_n C dX9_isKept_14 rfl ?_
    refine fget_10_18_X9_191 C rfl dX9_isKept_15 ?_
    refine g_iadd C dX9_isKept_18 ?_
    refine g_zald C (by decide) h.1 dX9_isKept_19 ?_
    have h := h.2
    refine g_if_eq C 27 dX9_isKept_20 (by decide) (fun c20 => ?_) (fun c20 => ?_)
    · have h := h.1 c20
      refine g_iconst C dX9_isKept_27 kc_0 ?_
      exact g_zret C (narrow_bl bl_0) dX9_isKept_28 h
    · have h := h.2 c20
      refine g_mask [false, false] rfl ?_
      exact k_X9_isKept_23 C σ2 h
def rm_X9_isLike : Room := { frames := 0, cells := 0, slots := 0, locals := 0 }
def wp_X9_isLike_74 (v1 : Int32) (v2 : Int32) (v4 : Int32) (s0 : Int32) (K24 : Int32 → Int32 → Sg → Prop) (Q : Int32 → Sg → Prop) (σ : Sg) : Prop :=
  ∀ x75 : Int32, x75 = v4 + (nI 1) → (K24 s0 x75 σ)
set_option maxHeartbeats 4000000 in
set_option maxRecDepth 100000 in
theorem k_X9_isLike_74 {Q : Int32 → Sg → Prop} (C : Cx p s m args meth c D cy ad b0 yX9_isLike cX9_isLike 5 (some .boolean)) (v1 : Int32) (v2 : Int32) (v4 : Int32) (s0 : Int32) (K24 : Int32 → Int32 → Sg → Prop) (hK24 : ∀ (z3 : Int32) (z4 : Int32) (σ : Sg), K24 z3 z4 σ → gI p l e rm_X9_isLike s m args below meth c D cy ad b0 Q 5 24 σ [some (.ref (ad 10)), some (.int v1), some (.int v2), some (.int z3), some (.int z4)] []) (σ : Sg) (h : wp_X9_isLike_74 v1 v2 v4 s0 K24 Q σ) : gI p l e rm_X9_isLike s m args below meth c D cy ad b0 Q 5 74 σ [some (.ref (ad 10)), some (.int v1), some (.int v2), none, some (.int v4)] [.int s0] := by
  refine g_istore_n C [some (.ref (ad 10)), some (.int v1), some (.int v2), some (.int s0), some (.int v4)] dX9_isLike_74 (by decide) rfl ?_
  obtain ⟨x75, e_x75⟩ : ∃ v : Int32, v = v4 + (nI 1) := ⟨_, rfl⟩
  have h := h x75 e_x75
  refine g_iinc C [some (.ref (ad 10)), some (.int v1), some (.int v2), some (.int s0), some (.int x75)] dX9_isLike_75 rfl e_x75.symm (by decide) rfl ?_
  refine g_goto C 24 dX9_isLike_78 (by decide) ?_
  exact hK24 s0 x75 σ h
def wb_X9_isLike_24 (v1 : Int32) (v2 : Int32) (v3 : Int32) (v4 : Int32) (K24 : Int32 → Int32 → Sg → Prop) (Q : Int32 → Sg → Prop) (σ : Sg) : Prop :=
  (((nI 4) ≤ v4 → (bl v3 ∧ Q v3 σ)) ∧ (¬ (nI 4) ≤ v4 → ((v3 = (nI 0) → (bl v3 ∧ Q v3 σ)) ∧ (¬ v3 = (nI 0) → vp_in (((nI 4) * v1) + v4) (aN 64) ∧ (vp_in (gA σ 64 (Int32.toNatClampNeg (((nI 4) * v1) + v4))) (aN 68) ∧ (vp_in (((nI 4) * v2) + v4) (aN 64) ∧ (vp_in (gA σ 64 (Int32.toNatClampNeg (((nI 4) * v2) + v4))) (aN 68) ∧ (((¬ (gA σ 68 (Int32.toNatClampNeg (gA σ 64 (Int32.toNatClampNeg (((nI 4) * v1) + v4))))) = (gA σ 68 (Int32.toNatClampNeg (gA σ 64 (Int32.toNatClampNeg (((nI 4) * v2) + v4))))) → wp_X9_isLike_74 v1 v2 v4 (nI 0) K24 Q σ) ∧ ((gA σ 68 (Int32.toNatClampNeg (gA σ 64 (Int32.toNatClampNeg (((nI 4) * v1) + v4))))) = (gA σ 68 (Int32.toNatClampNeg (gA σ 64 (Int32.toNatClampNeg (((nI 4) * v2) + v4))))) → wp_X9_isLike_74 v1 v2 v4 (nI 1) K24 Q σ))))))))))
set_option maxHeartbeats 4000000 in
set_option maxRecDepth 100000 in
theorem kb_X9_isLike_24 {Q : Int32 → Sg → Prop} (C : Cx p s m args meth c D cy ad b0 yX9_isLike cX9_isLike 5 (some .boolean)) (v1 : Int32) (v2 : Int32) (v3 : Int32) (v4 : Int32) (K24 : Int32 → Int32 → Sg → Prop) (hK24 : ∀ (z3 : Int32) (z4 : Int32) (σ : Sg), K24 z3 z4 σ → gI p l e rm_X9_isLike s m args below meth c D cy ad b0 Q 5 24 σ [some (.ref (ad 10)), some (.int v1), some (.int v2), some (.int z3), some (.int z4)] []) (σ : Sg) (h : wb_X9_isLike_24 v1 v2 v3 v4 K24 Q σ) : gI p l e rm_X9_isLike s m args below meth c D cy ad b0 Q 5 24 σ [some (.ref (ad 10)), some (.int v1), some (.int v2), some (.int v3), some (.int v4)] [] := by
  refine g_iload C dX9_isLike_24 rfl ?_
  refine g_iconst C dX9_isLike_26 kc_4 ?_
  refine g_icmp_ge C 81 dX9_isLike_27 (by decide) (fun c27 => ?_) (fun c27 => ?_)
  · have h := h.1 c27
    refine g_iload_n C dX9_isLike_81 rfl ?_
    exact g_zret C (narrow_bl h.1) dX9_isLike_82 h.2
  · have h := h.2 c27
    refine g_iload_n C dX9_isLike_30 rfl ?_
    refine g_if_eq C 81 dX9_isLike_31 (by decide) (fun c31 => ?_) (fun c31 => ?_)
    · have h := h.1 c31
      refine g_iload_n C dX9_isLike_81 rfl ?_
      exact g_zret C (narrow_bl h.1) dX9_isLike_82 h.2
    · have h := h.2 c31
      refine g_aload_n C dX9_isLike_34 rfl ?_
      refine fget_10_34_X9_76 C rfl dX9_isLike_35 ?_
      refine g_aload_n C dX9_isLike_38 rfl ?_
      refine fget_10_30_X9_64 C rfl dX9_isLike_39 ?_
      refine g_iconst C dX9_isLike_42 kc_4 ?_
      refine g_iload_n C dX9_isLike_43 rfl ?_
      refine g_imul C dX9_isLike_44 ?_
      refine g_iload C dX9_isLike_45 rfl ?_
      refine g_iadd C dX9_isLike_47 ?_
      refine g_iald C (by decide) h.1 dX9_isLike_48 ?_
      have h := h.2
      refine g_iald C (by decide) h.1 dX9_isLike_49 ?_
      have h := h.2
      refine g_aload_n C dX9_isLike_50 rfl ?_
      refine fget_10_34_X9_76 C rfl dX9_isLike_51 ?_
      refine g_aload_n C dX9_isLike_54 rfl ?_
      refine fget_10_30_X9_64 C rfl dX9_isLike_55 ?_
      refine g_iconst C dX9_isLike_58 kc_4 ?_
      refine g_iload_n C dX9_isLike_59 rfl ?_
      refine g_imul C dX9_isLike_60 ?_
      refine g_iload C dX9_isLike_61 rfl ?_
      refine g_iadd C dX9_isLike_63 ?_
      refine g_iald C (by decide) h.1 dX9_isLike_64 ?_
      have h := h.2
      refine g_iald C (by decide) h.1 dX9_isLike_65 ?_
      have h := h.2
      refine g_icmp_ne C 73 dX9_isLike_66 (by decide) (fun c66 => ?_) (fun c66 => ?_)
      · have h := h.1 c66
        refine g_iconst C dX9_isLike_73 kc_0 ?_
        refine g_mask [true, true, true, false, true] rfl ?_
        exact k_X9_isLike_74 C v1 v2 v4 (nI 0) K24 hK24 σ h
      · have h := h.2 c66
        refine g_iconst C dX9_isLike_69 kc_1 ?_
        refine g_goto C 74 dX9_isLike_70 (by decide) ?_
        refine g_mask [true, true, true, false, true] rfl ?_
        exact k_X9_isLike_74 C v1 v2 v4 (nI 1) K24 hK24 σ h
def wl_X9_isLike_24 (v1 : Int32) (v2 : Int32) (Q : Int32 → Sg → Prop) : Nat → Int32 → Int32 → Sg → Prop
  | 0, _, _, _ => False
  | n + 1, v3, v4, σ => wb_X9_isLike_24 v1 v2 v3 v4 (wl_X9_isLike_24 v1 v2 Q n) Q σ
set_option maxHeartbeats 4000000 in
set_option maxRecDepth 100000 in
theorem kl_X9_isLike_24 {Q : Int32 → Sg → Prop} (C : Cx p s m args meth c D cy ad b0 yX9_isLike cX9_isLike 5 (some .boolean)) (v1 : Int32) (v2 : Int32) : ∀ (n : Nat) (v3 : Int32) (v4 : Int32) (σ : Sg), wl_X9_isLike_24 v1 v2 Q n v3 v4 σ → gI p l e rm_X9_isLike s m args below meth c D cy ad b0 Q 5 24 σ [some (.ref (ad 10)), some (.int v1), some (.int v2), some (.int v3), some (.int v4)] [] := by
  intro n
  induction n with
  | zero => intro v3 v4 σ h; exact False.elim h
  | succ n ih =>
    intro v3 v4 σ h
    exact kb_X9_isLike_24 C v1 v2 v3 v4 (wl_X9_isLike_24 v1 v2 Q n) (fun z3 z4 σ h => ih z3 z4 σ h) σ h
def wp_X9_isLike_20 (v1 : Int32) (v2 : Int32) (s0 : Int32) (Q : Int32 → Sg → Prop) (σ : Sg) : Prop :=
  ∃ n, wl_X9_isLike_24 v1 v2 Q n s0 (nI 0) σ
set_option maxHeartbeats 4000000 in
set_option maxRecDepth 100000 in
theorem k_X9_isLike_20 {Q : Int32 → Sg → Prop} (C : Cx p s m args meth c D cy ad b0 yX9_isLike cX9_isLike 5 (some .boolean)) (v1 : Int32) (v2 : Int32) (s0 : Int32) (σ : Sg) (h : wp_X9_isLike_20 v1 v2 s0 Q σ) : gI p l e rm_X9_isLike s m args below meth c D cy ad b0 Q 5 20 σ [some (.ref (ad 10)), some (.int v1), some (.int v2), none, none] [.int s0] := by
  refine g_istore_n C [some (.ref (ad 10)), some (.int v1), some (.int v2), some (.int s0), none] dX9_isLike_20 (by decide) rfl ?_
  refine g_iconst C dX9_isLike_21 kc_0 ?_
  refine g_istore C [some (.ref (ad 10)), some (.int v1), some (.int v2), some (.int s0), some (.int (nI 0))] dX9_isLike_22 (by decide) rfl ?_
  obtain ⟨n, h⟩ := h
  exact kl_X9_isLike_24 C v1 v2 n s0 (nI 0) σ h
def wp_X9_isLike (a0 : Int32) (a1 : Int32) (σ : Sg) (Q : Int32 → Sg → Prop) : Prop :=
  vp_in a0 (aN 68) ∧ (vp_in a1 (aN 68) ∧ (((¬ (gA σ 68 (Int32.toNatClampNeg a0)) = (gA σ 68 (Int32.toNatClampNeg a1)) → wp_X9_isLike_20 a0 a1 (nI 0) Q σ) ∧ ((gA σ 68 (Int32.toNatClampNeg a0)) = (gA σ 68 (Int32.toNatClampNeg a1)) → wp_X9_isLike_20 a0 a1 (nI 1) Q σ))))
set_option maxHeartbeats 4000000 in
set_option maxRecDepth 100000 in
theorem c_X9_isLike (l : Launch) (D : va_G) (cy : Nat → ClassId) (ad : Nat → Nat) (b0 : Nat) (hA : AdOk ad b0) (a0 : Int32) (a1 : Int32) : Cti l D cy ad b0 yX9_isLike cX9_isLike 5 (some .boolean) rm_X9_isLike [.ref (ad 10), .int a0, .int a1] (fun σ Q => wp_X9_isLike a0 a1 σ Q) := by
  intro σ Q h
  refine g_enter hA rfl (Nat.le_of_ble_eq_true rfl) [some (.ref (ad 10)), some (.int a0), some (.int a1), none, none] rfl ?_
  intro p e s m args below meth c C
  refine g_aload_n C dX9_isLike_0 rfl ?_
  refine fget_10_34_X9_76 C rfl dX9_isLike_1 ?_
  refine g_iload_n C dX9_isLike_4 rfl ?_
  refine g_iald C (by decide) h.1 dX9_isLike_5 ?_
  have h := h.2
  refine g_aload_n C dX9_isLike_6 rfl ?_
  refine fget_10_34_X9_76 C rfl dX9_isLike_7 ?_
  refine g_iload_n C dX9_isLike_10 rfl ?_
  refine g_iald C (by decide) h.1 dX9_isLike_11 ?_
  have h := h.2
  refine g_icmp_ne C 19 dX9_isLike_12 (by decide) (fun c12 => ?_) (fun c12 => ?_)
  · have h := h.1 c12
    refine g_iconst C dX9_isLike_19 kc_0 ?_
    exact k_X9_isLike_20 C a0 a1 (nI 0) σ h
  · have h := h.2 c12
    refine g_iconst C dX9_isLike_15 kc_1 ?_
    refine g_goto C 20 dX9_isLike_16 (by decide) ?_
    exact k_X9_isLike_20 C a0 a1 (nI 1) σ h
def rm_X9_part : Room := { frames := 1, cells := 0, slots := 0, locals := 24 }
def wp_X9_part_103 (v1 : Int32) (Q : Int32 → Sg → Prop) (σ : Sg) : Prop :=
  ∀ σ1 : Sg, σ1 = stF σ 10 36 v1 → (Q (nI 1) σ1)
set_option maxHeartbeats 4000000 in
set_option maxRecDepth 100000 in
theorem k_X9_part_103 {Q : Int32 → Sg → Prop} (C : Cx p s m args meth c D cy ad b0 yX9_part cX9_part 4 (some .boolean)) (v1 : Int32) (σ : Sg) (h : wp_X9_part_103 v1 Q σ) : gI p l e rm_X9_part s m args below meth c D cy ad b0 Q 4 103 σ [some (.ref (ad 10)), some (.int v1), none, none] [] := by
  refine g_aload_n C dX9_part_103 rfl ?_
  refine g_iload_n C dX9_part_104 rfl ?_
  refine fput_10_36_X9_228 C rfl dX9_part_105 (fun σ1 e_σ1 => ?_)
  have h := h σ1 e_σ1
  refine g_iconst C dX9_part_108 kc_1 ?_
  exact g_zret C (narrow_bl bl_1) dX9_part_109 h
def wb_X9_part_77 (v1 : Int32) (v2 : Int32) (K77 : Int32 → Sg → Prop) (K103 : Sg → Prop) (Q : Int32 → Sg → Prop) (σ : Sg) : Prop :=
  (((gF σ 10 27) ≤ v2 → K103 σ) ∧ (¬ (gF σ 10 27) ≤ v2 → vp_in v2 (aN 69) ∧ (vp_in v2 (aN 68) ∧ (∀ σ1 : Sg, σ1 = stA σ 68 (Int32.toNatClampNeg v2) (gA σ 69 (Int32.toNatClampNeg v2)) → (∀ x97 : Int32, x97 = v2 + (nI 1) → (K77 x97 σ1))))))
set_option maxHeartbeats 4000000 in
set_option maxRecDepth 100000 in
theorem kb_X9_part_77 {Q : Int32 → Sg → Prop} (C : Cx p s m args meth c D cy ad b0 yX9_part cX9_part 4 (some .boolean)) (v1 : Int32) (v2 : Int32) (K77 : Int32 → Sg → Prop) (K103 : Sg → Prop) (hK77 : ∀ (z2 : Int32) (σ : Sg), K77 z2 σ → gI p l e rm_X9_part s m args below meth c D cy ad b0 Q 4 77 σ [some (.ref (ad 10)), some (.int v1), some (.int z2), none] []) (hK103 : ∀  (σ : Sg), K103 σ → gI p l e rm_X9_part s m args below meth c D cy ad b0 Q 4 103 σ [some (.ref (ad 10)), some (.int v1), none, none] []) (σ : Sg) (h : wb_X9_part_77 v1 v2 K77 K103 Q σ) : gI p l e rm_X9_part s m args below meth c D cy ad b0 Q 4 77 σ [some (.ref (ad 10)), some (.int v1), some (.int v2), none] [] := by
  refine g_iload_n C dX9_part_77 rfl ?_
  refine g_aload_n C dX9_part_78 rfl ?_
  refine fget_10_27_X9_218 C rfl dX9_part_79 ?_
  refine g_icmp_ge C 103 dX9_part_82 (by decide) (fun c82 => ?_) (fun c82 => ?_)
  · have h := h.1 c82
    refine g_mask [true, true, false, false] rfl ?_
    exact hK103 σ h
  · have h := h.2 c82
    refine g_aload_n C dX9_part_85 rfl ?_
    refine fget_10_34_X9_76 C rfl dX9_part_86 ?_
    refine g_iload_n C dX9_part_89 rfl ?_
    refine g_aload_n C dX9_part_90 rfl ?_
    refine fget_10_35_X9_79 C rfl dX9_part_91 ?_
    refine g_iload_n C dX9_part_94 rfl ?_
    refine g_iald C (by decide) h.1 dX9_part_95 ?_
    have h := h.2
    refine g_iast C (by decide) h.1 dX9_part_96 (fun σ1 e_σ1 => ?_)
    have h := h.2 σ1 e_σ1
    obtain ⟨x97, e_x97⟩ : ∃ v : Int32, v = v2 + (nI 1) := ⟨_, rfl⟩
    have h := h x97 e_x97
    refine g_iinc C [some (.ref (ad 10)), some (.int v1), some (.int x97), none] dX9_part_97 rfl e_x97.symm (by decide) rfl ?_
    refine g_goto C 77 dX9_part_100 (by decide) ?_
    exact hK77 x97 σ1 h
def wl_X9_part_77 (v1 : Int32) (K103 : Sg → Prop) (Q : Int32 → Sg → Prop) : Nat → Int32 → Sg → Prop
  | 0, _, _ => False
  | n + 1, v2, σ => wb_X9_part_77 v1 v2 (wl_X9_part_77 v1 K103 Q n) K103 Q σ
set_option maxHeartbeats 4000000 in
set_option maxRecDepth 100000 in
theorem kl_X9_part_77 {Q : Int32 → Sg → Prop} (C : Cx p s m args meth c D cy ad b0 yX9_part cX9_part 4 (some .boolean)) (v1 : Int32) (K103 : Sg → Prop) (hK103 : ∀  (σ : Sg), K103 σ → gI p l e rm_X9_part s m args below meth c D cy ad b0 Q 4 103 σ [some (.ref (ad 10)), some (.int v1), none, none] []) : ∀ (n : Nat) (v2 : Int32) (σ : Sg), wl_X9_part_77 v1 K103 Q n v2 σ → gI p l e rm_X9_part s m args below meth c D cy ad b0 Q 4 77 σ [some (.ref (ad 10)), some (.int v1), some (.int v2), none] [] := by
  intro n
  induction n with
  | zero => intro v2 σ h; exact False.elim h
  | succ n ih =>
    intro v2 σ h
    exact kb_X9_part_77 C v1 v2 (wl_X9_part_77 v1 K103 Q n) K103 (fun z2 σ h => ih z2 σ h) hK103 σ h
def wp_X9_part_75 (v1 : Int32) (Q : Int32 → Sg → Prop) (σ : Sg) : Prop :=
  ∃ n, wl_X9_part_77 v1 (fun σ9 => wp_X9_part_103 v1 Q σ9) Q n (nI 0) σ
set_option maxHeartbeats 4000000 in
set_option maxRecDepth 100000 in
theorem k_X9_part_75 {Q : Int32 → Sg → Prop} (C : Cx p s m args meth c D cy ad b0 yX9_part cX9_part 4 (some .boolean)) (v1 : Int32) (σ : Sg) (h : wp_X9_part_75 v1 Q σ) : gI p l e rm_X9_part s m args below meth c D cy ad b0 Q 4 75 σ [some (.ref (ad 10)), some (.int v1), none, none] [] := by
  refine g_iconst C dX9_part_75 kc_0 ?_
  refine g_istore_n C [some (.ref (ad 10)), some (.int v1), some (.int (nI 0)), none] dX9_part_76 (by decide) rfl ?_
  obtain ⟨n, h⟩ := h
  exact kl_X9_part_77 C v1 _ (fun σ9 h => by exact k_X9_part_103 C v1 σ9 h) n (nI 0) σ h
def wp_X9_part_62 (v1 : Int32) (v2 : Int32) (v3 : Int32) (K4 : Int32 → Int32 → Sg → Prop) (Q : Int32 → Sg → Prop) (σ : Sg) : Prop :=
  vp_in v2 (aN 69) ∧ (∀ σ1 : Sg, σ1 = stA σ 69 (Int32.toNatClampNeg v2) v3 → (∀ x69 : Int32, x69 = v2 + (nI 1) → (K4 v1 x69 σ1)))
set_option maxHeartbeats 4000000 in
set_option maxRecDepth 100000 in
theorem k_X9_part_62 {Q : Int32 → Sg → Prop} (C : Cx p s m args meth c D cy ad b0 yX9_part cX9_part 4 (some .boolean)) (v1 : Int32) (v2 : Int32) (v3 : Int32) (K4 : Int32 → Int32 → Sg → Prop) (hK4 : ∀ (z1 : Int32) (z2 : Int32) (σ : Sg), K4 z1 z2 σ → gI p l e rm_X9_part s m args below meth c D cy ad b0 Q 4 4 σ [some (.ref (ad 10)), some (.int z1), some (.int z2), none] []) (σ : Sg) (h : wp_X9_part_62 v1 v2 v3 K4 Q σ) : gI p l e rm_X9_part s m args below meth c D cy ad b0 Q 4 62 σ [some (.ref (ad 10)), some (.int v1), some (.int v2), some (.int v3)] [] := by
  refine g_aload_n C dX9_part_62 rfl ?_
  refine fget_10_35_X9_79 C rfl dX9_part_63 ?_
  refine g_iload_n C dX9_part_66 rfl ?_
  refine g_iload_n C dX9_part_67 rfl ?_
  refine g_iast C (by decide) h.1 dX9_part_68 (fun σ1 e_σ1 => ?_)
  have h := h.2 σ1 e_σ1
  obtain ⟨x69, e_x69⟩ : ∃ v : Int32, v = v2 + (nI 1) := ⟨_, rfl⟩
  have h := h x69 e_x69
  refine g_iinc C [some (.ref (ad 10)), some (.int v1), some (.int x69), some (.int v3)] dX9_part_69 rfl e_x69.symm (by decide) rfl ?_
  refine g_goto C 4 dX9_part_72 (by decide) ?_
  refine g_mask [true, true, true, false] rfl ?_
  exact hK4 v1 x69 σ1 h
def wp_X9_part_39 (v1 : Int32) (v2 : Int32) (v3 : Int32) (K4 : Int32 → Int32 → Sg → Prop) (Q : Int32 → Sg → Prop) (σ : Sg) : Prop :=
  ((¬ v3 = (nI 60) → ((¬ v3 = v1 → wp_X9_part_62 v1 v2 v3 K4 Q σ) ∧ (v3 = v1 → vp_in v1 (aN 70) ∧ (∀ σ1 : Sg, σ1 = stA σ 70 (Int32.toNatClampNeg v1) v2 → (∀ x59 : Int32, x59 = v1 + (nI 1) → (wp_X9_part_62 x59 v2 v3 K4 Q σ1)))))) ∧ (v3 = (nI 60) → Q (nI 0) σ))
set_option maxHeartbeats 4000000 in
set_option maxRecDepth 100000 in
theorem k_X9_part_39 {Q : Int32 → Sg → Prop} (C : Cx p s m args meth c D cy ad b0 yX9_part cX9_part 4 (some .boolean)) (v1 : Int32) (v2 : Int32) (v3 : Int32) (K4 : Int32 → Int32 → Sg → Prop) (hK4 : ∀ (z1 : Int32) (z2 : Int32) (σ : Sg), K4 z1 z2 σ → gI p l e rm_X9_part s m args below meth c D cy ad b0 Q 4 4 σ [some (.ref (ad 10)), some (.int z1), some (.int z2), none] []) (σ : Sg) (h : wp_X9_part_39 v1 v2 v3 K4 Q σ) : gI p l e rm_X9_part s m args below meth c D cy ad b0 Q 4 39 σ [some (.ref (ad 10)), some (.int v1), some (.int v2), some (.int v3)] [] := by
  refine g_iload_n C dX9_part_39 rfl ?_
  refine g_bipush C dX9_part_40 kb_60 ?_
  refine g_icmp_ne C 47 dX9_part_42 (by decide) (fun c42 => ?_) (fun c42 => ?_)
  · have h := h.1 c42
    refine g_iload_n C dX9_part_47 rfl ?_
    refine g_iload_n C dX9_part_48 rfl ?_
    refine g_icmp_ne C 62 dX9_part_49 (by decide) (fun c49 => ?_) (fun c49 => ?_)
    · have h := h.1 c49
      exact k_X9_part_62 C v1 v2 v3 K4 hK4 σ h
    · have h := h.2 c49
      refine g_aload_n C dX9_part_52 rfl ?_
      refine fget_10_37_X9_82 C rfl dX9_part_53 ?_
      refine g_iload_n C dX9_part_56 rfl ?_
      refine g_iload_n C dX9_part_57 rfl ?_
      refine g_iast C (by decide) h.1 dX9_part_58 (fun σ1 e_σ1 => ?_)
      have h := h.2 σ1 e_σ1
      obtain ⟨x59, e_x59⟩ : ∃ v : Int32, v = v1 + (nI 1) := ⟨_, rfl⟩
      have h := h x59 e_x59
      refine g_iinc C [some (.ref (ad 10)), some (.int x59), some (.int v2), some (.int v3)] dX9_part_59 rfl e_x59.symm (by decide) rfl ?_
      exact k_X9_part_62 C x59 v2 v3 K4 hK4 σ1 h
  · have h := h.2 c42
    refine g_iconst C dX9_part_45 kc_0 ?_
    exact g_zret C (narrow_bl bl_0) dX9_part_46 h
def wb_X9_part_14 (v1 : Int32) (v2 : Int32) (v3 : Int32) (K14 : Int32 → Sg → Prop) (K39 : Int32 → Sg → Prop) (Q : Int32 → Sg → Prop) (σ : Sg) : Prop :=
  ((v1 ≤ v3 → K39 v3 σ) ∧ (¬ v1 ≤ v3 → vp_in v3 (aN 70) ∧ (wp_X9_isLike (gA σ 70 (Int32.toNatClampNeg v3)) v2 σ (fun r1 σ2 => ((¬ r1 = (nI 0) → K39 v3 σ2) ∧ (r1 = (nI 0) → ∀ x33 : Int32, x33 = v3 + (nI 1) → (K14 x33 σ2)))))))
set_option maxHeartbeats 4000000 in
set_option maxRecDepth 100000 in
theorem kb_X9_part_14 {Q : Int32 → Sg → Prop} (C : Cx p s m args meth c D cy ad b0 yX9_part cX9_part 4 (some .boolean)) (v1 : Int32) (v2 : Int32) (v3 : Int32) (K14 : Int32 → Sg → Prop) (K39 : Int32 → Sg → Prop) (hK14 : ∀ (z3 : Int32) (σ : Sg), K14 z3 σ → gI p l e rm_X9_part s m args below meth c D cy ad b0 Q 4 14 σ [some (.ref (ad 10)), some (.int v1), some (.int v2), some (.int z3)] []) (hK39 : ∀ (z3 : Int32) (σ : Sg), K39 z3 σ → gI p l e rm_X9_part s m args below meth c D cy ad b0 Q 4 39 σ [some (.ref (ad 10)), some (.int v1), some (.int v2), some (.int z3)] []) (σ : Sg) (h : wb_X9_part_14 v1 v2 v3 K14 K39 Q σ) : gI p l e rm_X9_part s m args below meth c D cy ad b0 Q 4 14 σ [some (.ref (ad 10)), some (.int v1), some (.int v2), some (.int v3)] [] := by
  refine g_iload_n C dX9_part_14 rfl ?_
  refine g_iload_n C dX9_part_15 rfl ?_
  refine g_icmp_ge C 39 dX9_part_16 (by decide) (fun c16 => ?_) (fun c16 => ?_)
  · have h := h.1 c16
    exact hK39 v3 σ h
  · have h := h.2 c16
    refine g_aload_n C dX9_part_19 rfl ?_
    refine g_aload_n C dX9_part_20 rfl ?_
    refine fget_10_37_X9_82 C rfl dX9_part_21 ?_
    refine g_iload_n C dX9_part_24 rfl ?_
    refine g_iald C (by decide) h.1 dX9_part_25 ?_
    have h := h.2
    refine g_iload_n C dX9_part_26 rfl ?_
    refine g_callVi C 10 [.int (gA σ 70 (Int32.toNatClampNeg v3)), .int v2] (c_X9_isLike l D cy ad b0 C.A (gA σ 70 (Int32.toNatClampNeg v3)) v2) cal_X9_isLike mw_622 (by decide) rfl rfl ⟨Nat.le_of_ble_eq_true rfl, Nat.le_of_ble_eq_true rfl⟩ ⟨rfl, rfl⟩ ⟨Nat.zero_le _, Nat.zero_le _⟩ (Nat.le_of_ble_eq_true rfl) rfl dX9_part_27 h (fun r1 σ2 h => ?_)
    refine g_if_ne C 39 dX9_part_30 (by decide) (fun c30 => ?_) (fun c30 => ?_)
    · have h := h.1 c30
      exact hK39 v3 σ2 h
    · have h := h.2 c30
      obtain ⟨x33, e_x33⟩ : ∃ v : Int32, v = v3 + (nI 1) := ⟨_, rfl⟩
      have h := h x33 e_x33
      refine g_iinc C [some (.ref (ad 10)), some (.int v1), some (.int v2), some (.int x33)] dX9_part_33 rfl e_x33.symm (by decide) rfl ?_
      refine g_goto C 14 dX9_part_36 (by decide) ?_
      exact hK14 x33 σ2 h
def wl_X9_part_14 (v1 : Int32) (v2 : Int32) (K39 : Int32 → Sg → Prop) (Q : Int32 → Sg → Prop) : Nat → Int32 → Sg → Prop
  | 0, _, _ => False
  | n + 1, v3, σ => wb_X9_part_14 v1 v2 v3 (wl_X9_part_14 v1 v2 K39 Q n) K39 Q σ
set_option maxHeartbeats 4000000 in
set_option maxRecDepth 100000 in
theorem kl_X9_part_14 {Q : Int32 → Sg → Prop} (C : Cx p s m args meth c D cy ad b0 yX9_part cX9_part 4 (some .boolean)) (v1 : Int32) (v2 : Int32) (K39 : Int32 → Sg → Prop) (hK39 : ∀ (z3 : Int32) (σ : Sg), K39 z3 σ → gI p l e rm_X9_part s m args below meth c D cy ad b0 Q 4 39 σ [some (.ref (ad 10)), some (.int v1), some (.int v2), some (.int z3)] []) : ∀ (n : Nat) (v3 : Int32) (σ : Sg), wl_X9_part_14 v1 v2 K39 Q n v3 σ → gI p l e rm_X9_part s m args below meth c D cy ad b0 Q 4 14 σ [some (.ref (ad 10)), some (.int v1), some (.int v2), some (.int v3)] [] := by
  intro n
  induction n with
  | zero => intro v3 σ h; exact False.elim h
  | succ n ih =>
    intro v3 σ h
    exact kb_X9_part_14 C v1 v2 v3 (wl_X9_part_14 v1 v2 K39 Q n) K39 (fun z3 σ h => ih z3 σ h) hK39 σ h
def wb_X9_part_4 (v1 : Int32) (v2 : Int32) (K4 : Int32 → Int32 → Sg → Prop) (K75 : Int32 → Sg → Prop) (Q : Int32 → Sg → Prop) (σ : Sg) : Prop :=
  (((gF σ 10 27) ≤ v2 → K75 v1 σ) ∧ (¬ (gF σ 10 27) ≤ v2 → ∃ n, wl_X9_part_14 v1 v2 (fun z3 σ9 => wp_X9_part_39 v1 v2 z3 K4 Q σ9) Q n (nI 0) σ))
set_option maxHeartbeats 4000000 in
set_option maxRecDepth 100000 in
theorem kb_X9_part_4 {Q : Int32 → Sg → Prop} (C : Cx p s m args meth c D cy ad b0 yX9_part cX9_part 4 (some .boolean)) (v1 : Int32) (v2 : Int32) (K4 : Int32 → Int32 → Sg → Prop) (K75 : Int32 → Sg → Prop) (hK4 : ∀ (z1 : Int32) (z2 : Int32) (σ : Sg), K4 z1 z2 σ → gI p l e rm_X9_part s m args below meth c D cy ad b0 Q 4 4 σ [some (.ref (ad 10)), some (.int z1), some (.int z2), none] []) (hK75 : ∀ (z1 : Int32) (σ : Sg), K75 z1 σ → gI p l e rm_X9_part s m args below meth c D cy ad b0 Q 4 75 σ [some (.ref (ad 10)), some (.int z1), none, none] []) (σ : Sg) (h : wb_X9_part_4 v1 v2 K4 K75 Q σ) : gI p l e rm_X9_part s m args below meth c D cy ad b0 Q 4 4 σ [some (.ref (ad 10)), some (.int v1), some (.int v2), none] [] := by
  refine g_iload_n C dX9_part_4 rfl ?_
  refine g_aload_n C dX9_part_5 rfl ?_
  refine fget_10_27_X9_218 C rfl dX9_part_6 ?_
  refine g_icmp_ge C 75 dX9_part_9 (by decide) (fun c9 => ?_) (fun c9 => ?_)
  · have h := h.1 c9
    refine g_mask [true, true, false, false] rfl ?_
    exact hK75 v1 σ h
  · have h := h.2 c9
    refine g_iconst C dX9_part_12 kc_0 ?_
    refine g_istore_n C [some (.ref (ad 10)), some (.int v1), some (.int v2), some (.int (nI 0))] dX9_part_13 (by decide) rfl ?_
    obtain ⟨n, h⟩ := h
    exact kl_X9_part_14 C v1 v2 _ (fun z3 σ9 h => by exact k_X9_part_39 C v1 v2 z3 K4 hK4 σ9 h) n (nI 0) σ h
def wl_X9_part_4 (K75 : Int32 → Sg → Prop) (Q : Int32 → Sg → Prop) : Nat → Int32 → Int32 → Sg → Prop
  | 0, _, _, _ => False
  | n + 1, v1, v2, σ => wb_X9_part_4 v1 v2 (wl_X9_part_4 K75 Q n) K75 Q σ
set_option maxHeartbeats 4000000 in
set_option maxRecDepth 100000 in
theorem kl_X9_part_4 {Q : Int32 → Sg → Prop} (C : Cx p s m args meth c D cy ad b0 yX9_part cX9_part 4 (some .boolean)) (K75 : Int32 → Sg → Prop) (hK75 : ∀ (z1 : Int32) (σ : Sg), K75 z1 σ → gI p l e rm_X9_part s m args below meth c D cy ad b0 Q 4 75 σ [some (.ref (ad 10)), some (.int z1), none, none] []) : ∀ (n : Nat) (v1 : Int32) (v2 : Int32) (σ : Sg), wl_X9_part_4 K75 Q n v1 v2 σ → gI p l e rm_X9_part s m args below meth c D cy ad b0 Q 4 4 σ [some (.ref (ad 10)), some (.int v1), some (.int v2), none] [] := by
  intro n
  induction n with
  | zero => intro v1 v2 σ h; exact False.elim h
  | succ n ih =>
    intro v1 v2 σ h
    exact kb_X9_part_4 C v1 v2 (wl_X9_part_4 K75 Q n) K75 (fun z1 z2 σ h => ih z1 z2 σ h) hK75 σ h
def wp_X9_part (σ : Sg) (Q : Int32 → Sg → Prop) : Prop :=
  ∃ n, wl_X9_part_4 (fun z1 σ9 => wp_X9_part_75 z1 Q σ9) Q n (nI 0) (nI 0) σ
set_option maxHeartbeats 4000000 in
set_option maxRecDepth 100000 in
theorem c_X9_part (l : Launch) (D : va_G) (cy : Nat → ClassId) (ad : Nat → Nat) (b0 : Nat) (hA : AdOk ad b0) : Cti l D cy ad b0 yX9_part cX9_part 4 (some .boolean) rm_X9_part [.ref (ad 10)] (fun σ Q => wp_X9_part σ Q) := by
  intro σ Q h
  refine g_enter hA rfl (Nat.le_of_ble_eq_true rfl) [some (.ref (ad 10)), none, none, none] rfl ?_
  intro p e s m args below meth c C
  refine g_iconst C dX9_part_0 kc_0 ?_
  refine g_istore_n C [some (.ref (ad 10)), some (.int (nI 0)), none, none] dX9_part_1 (by decide) rfl ?_
  refine g_iconst C dX9_part_2 kc_0 ?_
  refine g_istore_n C [some (.ref (ad 10)), some (.int (nI 0)), some (.int (nI 0)), none] dX9_part_3 (by decide) rfl ?_
  obtain ⟨n, h⟩ := h
  exact kl_X9_part_4 C _ (fun z1 σ9 h => by exact k_X9_part_75 C z1 σ9 h) n (nI 0) (nI 0) σ h
def rm_X9_least : Room := { frames := 2, cells := 0, slots := 0, locals := 47 }
def wb_X9_least_42 (v1 : Int32) (K42 : Int32 → Sg → Prop) (Q : Int32 → Sg → Prop) (σ : Sg) : Prop :=
  (((gF σ 10 36) = v1 → Q (nI 1) σ) ∧ (¬ (gF σ 10 36) = v1 → ∀ x54 : Int32, x54 = (gF σ 10 36) → (wp_X9_part σ (fun r1 σ2 => ((¬ r1 = (nI 0) → K42 x54 σ2) ∧ (r1 = (nI 0) → Q (nI 0) σ2))))))
set_option maxHeartbeats 4000000 in
set_option maxRecDepth 100000 in
theorem kb_X9_least_42 {Q : Int32 → Sg → Prop} (C : Cx p s m args meth c D cy ad b0 yX9_least cX9_least 2 (some .boolean)) (v1 : Int32) (K42 : Int32 → Sg → Prop) (hK42 : ∀ (z1 : Int32) (σ : Sg), K42 z1 σ → gI p l e rm_X9_least s m args below meth c D cy ad b0 Q 2 42 σ [some (.ref (ad 10)), some (.int z1)] []) (σ : Sg) (h : wb_X9_least_42 v1 K42 Q σ) : gI p l e rm_X9_least s m args below meth c D cy ad b0 Q 2 42 σ [some (.ref (ad 10)), some (.int v1)] [] := by
  refine g_aload_n C dX9_least_42 rfl ?_
  refine fget_10_36_X9_228 C rfl dX9_least_43 ?_
  refine g_iload_n C dX9_least_46 rfl ?_
  refine g_icmp_eq C 64 dX9_least_47 (by decide) (fun c47 => ?_) (fun c47 => ?_)
  · have h := h.1 c47
    refine g_iconst C dX9_least_64 kc_1 ?_
    exact g_zret C (narrow_bl bl_1) dX9_least_65 h
  · have h := h.2 c47
    refine g_aload_n C dX9_least_50 rfl ?_
    refine fget_10_36_X9_228 C rfl dX9_least_51 ?_
    refine g_topi (fun x54 e_x54 => ?_)
    have h := h x54 e_x54
    refine g_istore_n C [some (.ref (ad 10)), some (.int x54)] dX9_least_54 (by decide) rfl ?_
    refine g_aload_n C dX9_least_55 rfl ?_
    refine g_callVi C 10 [] (c_X9_part l D cy ad b0 C.A) cal_X9_part mw_618 (by decide) rfl rfl ⟨Nat.le_of_ble_eq_true rfl, Nat.le_of_ble_eq_true rfl⟩ ⟨rfl, rfl⟩ ⟨Nat.zero_le _, Nat.zero_le _⟩ (Nat.le_of_ble_eq_true rfl) rfl dX9_least_56 h (fun r1 σ2 h => ?_)
    refine g_if_ne C 42 dX9_least_59 (by decide) (fun c59 => ?_) (fun c59 => ?_)
    · have h := h.1 c59
      exact hK42 x54 σ2 h
    · have h := h.2 c59
      refine g_iconst C dX9_least_62 kc_0 ?_
      exact g_zret C (narrow_bl bl_0) dX9_least_63 h
def wl_X9_least_42 (Q : Int32 → Sg → Prop) : Nat → Int32 → Sg → Prop
  | 0, _, _ => False
  | n + 1, v1, σ => wb_X9_least_42 v1 (wl_X9_least_42 Q n) Q σ
set_option maxHeartbeats 4000000 in
set_option maxRecDepth 100000 in
theorem kl_X9_least_42 {Q : Int32 → Sg → Prop} (C : Cx p s m args meth c D cy ad b0 yX9_least cX9_least 2 (some .boolean)) : ∀ (n : Nat) (v1 : Int32) (σ : Sg), wl_X9_least_42 Q n v1 σ → gI p l e rm_X9_least s m args below meth c D cy ad b0 Q 2 42 σ [some (.ref (ad 10)), some (.int v1)] [] := by
  intro n
  induction n with
  | zero => intro v1 σ h; exact False.elim h
  | succ n ih =>
    intro v1 σ h
    exact kb_X9_least_42 C v1 (wl_X9_least_42 Q n) (fun z1 σ h => ih z1 σ h) σ h
def wp_X9_least_35 (Q : Int32 → Sg → Prop) (σ : Sg) : Prop :=
  ∀ σ1 : Sg, σ1 = stF σ 10 36 (nI 0) → (∃ n, wl_X9_least_42 Q n (-1 : Int32) σ1)
set_option maxHeartbeats 4000000 in
set_option maxRecDepth 100000 in
theorem k_X9_least_35 {Q : Int32 → Sg → Prop} (C : Cx p s m args meth c D cy ad b0 yX9_least cX9_least 2 (some .boolean)) (σ : Sg) (h : wp_X9_least_35 Q σ) : gI p l e rm_X9_least s m args below meth c D cy ad b0 Q 2 35 σ [some (.ref (ad 10)), none] [] := by
  refine g_aload_n C dX9_least_35 rfl ?_
  refine g_iconst C dX9_least_36 kc_0 ?_
  refine fput_10_36_X9_228 C rfl dX9_least_37 (fun σ1 e_σ1 => ?_)
  have h := h σ1 e_σ1
  refine g_iconst C dX9_least_40 kc_m1 ?_
  refine g_istore_n C [some (.ref (ad 10)), some (.int (-1 : Int32))] dX9_least_41 (by decide) rfl ?_
  obtain ⟨n, h⟩ := h
  exact kl_X9_least_42 C n (-1 : Int32) σ1 h
def wp_X9_least_28 (v1 : Int32) (s0 : Int32) (s1 : Int32) (K2 : Int32 → Sg → Prop) (Q : Int32 → Sg → Prop) (σ : Sg) : Prop :=
  vp_in s1 (aN 68) ∧ (∀ σ1 : Sg, σ1 = stA σ 68 (Int32.toNatClampNeg s1) s0 → (∀ x29 : Int32, x29 = v1 + (nI 1) → (K2 x29 σ1)))
set_option maxHeartbeats 4000000 in
set_option maxRecDepth 100000 in
theorem k_X9_least_28 {Q : Int32 → Sg → Prop} (C : Cx p s m args meth c D cy ad b0 yX9_least cX9_least 2 (some .boolean)) (v1 : Int32) (s0 : Int32) (s1 : Int32) (K2 : Int32 → Sg → Prop) (hK2 : ∀ (z1 : Int32) (σ : Sg), K2 z1 σ → gI p l e rm_X9_least s m args below meth c D cy ad b0 Q 2 2 σ [some (.ref (ad 10)), some (.int z1)] []) (σ : Sg) (h : wp_X9_least_28 v1 s0 s1 K2 Q σ) : gI p l e rm_X9_least s m args below meth c D cy ad b0 Q 2 28 σ [some (.ref (ad 10)), some (.int v1)] [.int s0, .int s1, .ref (ad 68)] := by
  refine g_iast C (by decide) h.1 dX9_least_28 (fun σ1 e_σ1 => ?_)
  have h := h.2 σ1 e_σ1
  obtain ⟨x29, e_x29⟩ : ∃ v : Int32, v = v1 + (nI 1) := ⟨_, rfl⟩
  have h := h x29 e_x29
  refine g_iinc C [some (.ref (ad 10)), some (.int x29)] dX9_least_29 rfl e_x29.symm (by decide) rfl ?_
  refine g_goto C 2 dX9_least_32 (by decide) ?_
  exact hK2 x29 σ1 h
def wb_X9_least_2 (v1 : Int32) (K2 : Int32 → Sg → Prop) (K35 : Sg → Prop) (Q : Int32 → Sg → Prop) (σ : Sg) : Prop :=
  (((gF σ 10 27) ≤ v1 → K35 σ) ∧ (¬ (gF σ 10 27) ≤ v1 → wp_X9_isKept v1 σ (fun r1 σ2 => ((r1 = (nI 0) → wp_X9_least_28 v1 (nI 0) v1 K2 Q σ2) ∧ (¬ r1 = (nI 0) → wp_X9_least_28 v1 (nI 1) v1 K2 Q σ2)))))
set_option maxHeartbeats 4000000 in
set_option maxRecDepth 100000 in
theorem kb_X9_least_2 {Q : Int32 → Sg → Prop} (C : Cx p s m args meth c D cy ad b0 yX9_least cX9_least 2 (some .boolean)) (v1 : Int32) (K2 : Int32 → Sg → Prop) (K35 : Sg → Prop) (hK2 : ∀ (z1 : Int32) (σ : Sg), K2 z1 σ → gI p l e rm_X9_least s m args below meth c D cy ad b0 Q 2 2 σ [some (.ref (ad 10)), some (.int z1)] []) (hK35 : ∀  (σ : Sg), K35 σ → gI p l e rm_X9_least s m args below meth c D cy ad b0 Q 2 35 σ [some (.ref (ad 10)), none] []) (σ : Sg) (h : wb_X9_least_2 v1 K2 K35 Q σ) : gI p l e rm_X9_least s m args below meth c D cy ad b0 Q 2 2 σ [some (.ref (ad 10)), some (.int v1)] [] := by
  refine g_iload_n C dX9_least_2 rfl ?_
  refine g_aload_n C dX9_least_3 rfl ?_
  refine fget_10_27_X9_218 C rfl dX9_least_4 ?_
  refine g_icmp_ge C 35 dX9_least_7 (by decide) (fun c7 => ?_) (fun c7 => ?_)
  · have h := h.1 c7
    refine g_mask [true, false] rfl ?_
    exact hK35 σ h
  · have h := h.2 c7
    refine g_aload_n C dX9_least_10 rfl ?_
    refine fget_10_34_X9_76 C rfl dX9_least_11 ?_
    refine g_iload_n C dX9_least_14 rfl ?_
    refine g_aload_n C dX9_least_15 rfl ?_
    refine g_iload_n C dX9_least_16 rfl ?_
    refine g_callVi C 10 [.int v1] (c_X9_isKept l D cy ad b0 C.A v1) cal_X9_isKept mw_614 (by decide) rfl rfl ⟨Nat.le_of_ble_eq_true rfl, Nat.le_of_ble_eq_true rfl⟩ ⟨rfl, rfl⟩ ⟨Nat.zero_le _, Nat.zero_le _⟩ (Nat.le_of_ble_eq_true rfl) rfl dX9_least_17 h (fun r1 σ2 h => ?_)
    refine g_if_eq C 27 dX9_least_20 (by decide) (fun c20 => ?_) (fun c20 => ?_)
    · have h := h.1 c20
      refine g_iconst C dX9_least_27 kc_0 ?_
      exact k_X9_least_28 C v1 (nI 0) v1 K2 hK2 σ2 h
    · have h := h.2 c20
      refine g_iconst C dX9_least_23 kc_1 ?_
      refine g_goto C 28 dX9_least_24 (by decide) ?_
      exact k_X9_least_28 C v1 (nI 1) v1 K2 hK2 σ2 h
def wl_X9_least_2 (K35 : Sg → Prop) (Q : Int32 → Sg → Prop) : Nat → Int32 → Sg → Prop
  | 0, _, _ => False
  | n + 1, v1, σ => wb_X9_least_2 v1 (wl_X9_least_2 K35 Q n) K35 Q σ
set_option maxHeartbeats 4000000 in
set_option maxRecDepth 100000 in
theorem kl_X9_least_2 {Q : Int32 → Sg → Prop} (C : Cx p s m args meth c D cy ad b0 yX9_least cX9_least 2 (some .boolean)) (K35 : Sg → Prop) (hK35 : ∀  (σ : Sg), K35 σ → gI p l e rm_X9_least s m args below meth c D cy ad b0 Q 2 35 σ [some (.ref (ad 10)), none] []) : ∀ (n : Nat) (v1 : Int32) (σ : Sg), wl_X9_least_2 K35 Q n v1 σ → gI p l e rm_X9_least s m args below meth c D cy ad b0 Q 2 2 σ [some (.ref (ad 10)), some (.int v1)] [] := by
  intro n
  induction n with
  | zero => intro v1 σ h; exact False.elim h
  | succ n ih =>
    intro v1 σ h
    exact kb_X9_least_2 C v1 (wl_X9_least_2 K35 Q n) K35 (fun z1 σ h => ih z1 σ h) hK35 σ h
def wp_X9_least (σ : Sg) (Q : Int32 → Sg → Prop) : Prop :=
  ∃ n, wl_X9_least_2 (fun σ9 => wp_X9_least_35 Q σ9) Q n (nI 0) σ
set_option maxHeartbeats 4000000 in
set_option maxRecDepth 100000 in
theorem c_X9_least (l : Launch) (D : va_G) (cy : Nat → ClassId) (ad : Nat → Nat) (b0 : Nat) (hA : AdOk ad b0) : Cti l D cy ad b0 yX9_least cX9_least 2 (some .boolean) rm_X9_least [.ref (ad 10)] (fun σ Q => wp_X9_least σ Q) := by
  intro σ Q h
  refine g_enter hA rfl (Nat.le_of_ble_eq_true rfl) [some (.ref (ad 10)), none] rfl ?_
  intro p e s m args below meth c C
  refine g_iconst C dX9_least_0 kc_0 ?_
  refine g_istore_n C [some (.ref (ad 10)), some (.int (nI 0))] dX9_least_1 (by decide) rfl ?_
  obtain ⟨n, h⟩ := h
  exact kl_X9_least_2 C _ (fun σ9 h => by exact k_X9_least_35 C σ9 h) n (nI 0) σ h
end
