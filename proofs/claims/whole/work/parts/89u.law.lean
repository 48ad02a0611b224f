theorem cal_X8_against : CalV yX8_against cX8_against 1 (some .int) 0 := ⟨mw_905, mw_906, mw_2, mw_907, by decide, by decide, by decide +kernel⟩
theorem cal_X8_anew : CalV yX8_anew cX8_anew 4 (some .int) 1 := ⟨mw_878, mw_879, mw_2, mw_880, by decide, by decide, by decide +kernel⟩
theorem cal_X8_apart : CalV yX8_apart cX8_apart 1 (some .int) 0 := ⟨mw_941, mw_942, mw_2, mw_943, by decide, by decide, by decide +kernel⟩
theorem cal_X8_count : CalV yX8_count cX8_count 2 (some .int) 1 := ⟨mw_953, mw_954, mw_2, mw_955, by decide, by decide, by decide +kernel⟩
theorem cal_X8_cut : CalV yX8_cut cX8_cut 2 (some .int) 0 := ⟨mw_647, mw_648, mw_2, mw_649, by decide, by decide, by decide +kernel⟩
theorem cal_X8_event : CalV yX8_event cX8_event 3 (some .int) 2 := ⟨mw_763, mw_764, mw_2, mw_765, by decide, by decide, by decide +kernel⟩
theorem cal_X8_events : CalV yX8_events cX8_events 3 (some .int) 1 := ⟨mw_866, mw_867, mw_2, mw_868, by decide, by decide, by decide +kernel⟩
theorem cal_X8_far : CalV yX8_far cX8_far 4 (some .int) 2 := ⟨mw_696, mw_697, mw_2, mw_698, by decide, by decide, by decide +kernel⟩
theorem cal_X8_fault : CalV yX8_fault cX8_fault 1 (some .int) 0 := ⟨mw_639, mw_640, mw_2, mw_641, by decide, by decide, by decide +kernel⟩
theorem cal_X8_feed : CalV yX8_feed cX8_feed 5 (some .int) 1 := ⟨mw_185, mw_186, mw_2, mw_187, by decide, by decide, by decide +kernel⟩
theorem cal_X8_keep : CalV yX8_keep cX8_keep 1 (some .int) 0 := ⟨mw_887, mw_888, mw_2, mw_889, by decide, by decide, by decide +kernel⟩
theorem cal_X8_leads : CalV yX8_leads cX8_leads 3 (some .int) 2 := ⟨mw_655, mw_656, mw_2, mw_657, by decide, by decide, by decide +kernel⟩
theorem cal_X8_lost : CalV yX8_lost cX8_lost 4 (some .int) 2 := ⟨mw_809, mw_810, mw_2, mw_811, by decide, by decide, by decide +kernel⟩
theorem cal_X8_may : CalV yX8_may cX8_may 3 (some .int) 1 := ⟨mw_835, mw_836, mw_2, mw_837, by decide, by decide, by decide +kernel⟩
theorem cal_X8_read : CalV yX8_read cX8_read 2 (some .int) 0 := ⟨mw_204, mw_205, mw_2, mw_206, by decide, by decide, by decide +kernel⟩
theorem cal_X8_run : CalV yX8_run cX8_run 5 (some .int) 3 := ⟨mw_746, mw_747, mw_2, mw_748, by decide, by decide, by decide +kernel⟩
theorem cal_X8_runs : CalV yX8_runs cX8_runs 4 (some .long) 2 := ⟨mw_725, mw_726, mw_2, mw_727, by decide, by decide, by decide +kernel⟩
theorem cal_X8_state : CalV yX8_state cX8_state 4 (some .int) 2 := ⟨mw_854, mw_855, mw_2, mw_856, by decide, by decide, by decide +kernel⟩
theorem cal_X8_told : CalV yX8_told cX8_told 3 (some .int) 1 := ⟨mw_826, mw_827, mw_2, mw_828, by decide, by decide, by decide +kernel⟩
theorem cal_X8_toward : CalV yX8_toward cX8_toward 4 (some .int) 2 := ⟨mw_712, mw_713, mw_2, mw_714, by decide, by decide, by decide +kernel⟩
theorem cal_X8_verdict : CalV yX8_verdict cX8_verdict 3 (some .int) 1 := ⟨mw_683, mw_684, mw_2, mw_685, by decide, by decide, by decide +kernel⟩
theorem cal_X9_against : CalV yX9_against cX9_against 7 (some .int) 0 := ⟨mw_928, mw_929, mw_5, mw_930, by decide, by decide, by decide +kernel⟩
theorem cal_X9_anew : CalV yX9_anew cX9_anew 3 (some .int) 1 := ⟨mw_883, mw_884, mw_5, mw_885, by decide, by decide, by decide +kernel⟩
theorem cal_X9_apart : CalV yX9_apart cX9_apart 2 (some .int) 0 := ⟨mw_949, mw_950, mw_5, mw_951, by decide, by decide, by decide +kernel⟩
theorem cal_X9_count : CalV yX9_count cX9_count 4 (some .int) 1 := ⟨mw_969, mw_970, mw_5, mw_971, by decide, by decide, by decide +kernel⟩
theorem cal_X9_cut : CalV yX9_cut cX9_cut 2 (some .int) 0 := ⟨mw_651, mw_652, mw_5, mw_653, by decide, by decide, by decide +kernel⟩
theorem cal_X9_event : CalV yX9_event cX9_event 3 (some .int) 2 := ⟨mw_789, mw_790, mw_5, mw_791, by decide, by decide, by decide +kernel⟩
theorem cal_X9_events : CalV yX9_events cX9_events 2 (some .int) 1 := ⟨mw_874, mw_875, mw_5, mw_876, by decide, by decide, by decide +kernel⟩
theorem cal_X9_fault : CalV yX9_fault cX9_fault 1 (some .int) 0 := ⟨mw_643, mw_644, mw_5, mw_645, by decide, by decide, by decide +kernel⟩
theorem cal_X9_feed : CalV yX9_feed cX9_feed 5 (some .int) 1 := ⟨mw_198, mw_199, mw_5, mw_200, by decide, by decide, by decide +kernel⟩
theorem cal_X9_keep : CalV yX9_keep cX9_keep 2 (some .int) 0 := ⟨mw_899, mw_900, mw_5, mw_901, by decide, by decide, by decide +kernel⟩
theorem cal_X9_leads : CalV yX9_leads cX9_leads 3 (some .int) 2 := ⟨mw_671, mw_672, mw_5, mw_673, by decide, by decide, by decide +kernel⟩
theorem cal_X9_lost : CalV yX9_lost cX9_lost 5 (some .int) 2 := ⟨mw_821, mw_822, mw_5, mw_823, by decide, by decide, by decide +kernel⟩
theorem cal_X9_may : CalV yX9_may cX9_may 4 (some .int) 1 := ⟨mw_850, mw_851, mw_5, mw_852, by decide, by decide, by decide +kernel⟩
theorem cal_X9_read : CalV yX9_read cX9_read 2 (some .int) 0 := ⟨mw_530, mw_531, mw_5, mw_532, by decide, by decide, by decide +kernel⟩
theorem cal_X9_run : CalV yX9_run cX9_run 9 (some .int) 3 := ⟨mw_758, mw_759, mw_5, mw_760, by decide, by decide, by decide +kernel⟩
theorem cal_X9_state_ : CalV yX9_state_ cX9_state_ 5 (some .int) 2 := ⟨mw_862, mw_863, mw_5, mw_864, by decide, by decide, by decide +kernel⟩
theorem cal_X9_told : CalV yX9_told cX9_told 2 (some .int) 1 := ⟨mw_831, mw_832, mw_5, mw_833, by decide, by decide, by decide +kernel⟩
theorem cal_X9_toward : CalV yX9_toward cX9_toward 5 (some .int) 2 := ⟨mw_720, mw_721, mw_5, mw_722, by decide, by decide, by decide +kernel⟩
theorem cal_X9_verdict : CalV yX9_verdict cX9_verdict 2 (some .int) 1 := ⟨mw_692, mw_693, mw_5, mw_694, by decide, by decide, by decide +kernel⟩
/-! ===== the law's loop ===== -/
section
variable {p : Program} {l : Launch} {e : Env} {R : Room} {s : State} {m : MethodId} {args : Array Value} {below : List Frame} {meth : Method} {c : Code} {D : va_G} {cy : Nat → ClassId} {ad : Nat → Nat} {b0 cl sl : Nat} {Q : State → Prop} {nL pc : Nat} {σ : Sg} {loc : List (Option Value)} {st : List Value} {y : MethodName} {cc : ByteArray} {ret' : Option FieldType}
theorem g_sload_n {b : Nat} (C : Cx p s m args meth c D cy ad b0 y cc nL ret') {j : Fin 4} (hd : decode cc pc = .ok (.aload_n j, 1)) (h : loc[(j : Nat)]? = some (some (.ref b))) (k : gw p l e R s m args below meth c D cy ad b0 cl sl Q nL (pc + 1) σ loc (.ref b :: st)) : gw p l e R s m args below meth c D cy ad b0 cl sl Q nL pc σ loc st := g_aload_n C hd h k
theorem g_slen {b L : Nat} {xs : Nat → Int32} (C : Cx p s m args meth c D cy ad b0 y cc nL ret') (X : va_X b L xs s s.heap ∧ b < s.heap.size ∧ b0 = s.heap.size) (hd : decode cc pc = .ok (.arraylength, 1)) (k : gw p l e R s m args below meth c D cy ad b0 cl sl Q nL (pc + 1) σ loc (.int (nI L) :: st)) : gw p l e R s m args below meth c D cy ad b0 cl sl Q nL pc σ loc (.ref b :: st) := fun H locs ls hP hS hl =>
  va_slen C.x C.b X.1 X.2.1 (by show ¬ b0 ≤ b; rw [X.2.2]; exact Nat.not_le.mpr X.2.1) hS hd (k H locs ls hP hS hl)
theorem g_sld {b L : Nat} {xs : Nat → Int32} {i : Int32} (C : Cx p s m args meth c D cy ad b0 y cc nL ret') (X : va_X b L xs s s.heap ∧ b < s.heap.size ∧ b0 = s.heap.size) (hi : vp_in i L) (hd : decode cc pc = .ok (.iaload, 1)) (k : gw p l e R s m args below meth c D cy ad b0 cl sl Q nL (pc + 1) σ loc (.int (xs (Int32.toNatClampNeg i)) :: st)) : gw p l e R s m args below meth c D cy ad b0 cl sl Q nL pc σ loc (.int i :: .ref b :: st) := fun H locs ls hP hS hl =>
  va_sld C.x C.b X.1 X.2.1 (by show ¬ b0 ≤ b; rw [X.2.2]; exact Nat.not_le.mpr X.2.1) hS hi hd (k H locs ls hP hS hl)
theorem g_lwret {b L : Nat} {xs : Nat → Int32} (C : Cx p s m #[Value.ref b] meth c D cy ad b0 yL_law code 4 ret) (X : va_X b L xs s s.heap ∧ b < s.heap.size ∧ b0 = s.heap.size) {cl sl : Nat} (h1 : cl ≤ 600000) (h2 : sl ≤ 7302249) (hd : decode code pc = .ok (.ireturn, 1)) : gw p l e room_1 s m #[Value.ref b] below meth c D cy ad b0 cl sl (lw_Z below #[Value.ref b] s) 4 pc σ loc [.int (nI 1)] := fun H locs ls hP hS hl => by
  refine va_forget (fun q hq => by rw [← X.2.2]; exact hS.2.2 q hq) ?_
  refine W.widen (k := 600000) (n := 7302249) h1 h2 ?_
  exact lw_ret C.x C.b C.r C.lk hd
end
section
variable {p : Program} {l : Launch} {e : Env} {s : State} {m : MethodId} {below : List Frame} {meth : Method} {c : Code} {D : va_G} {cy : Nat → ClassId} {ad : Nat → Nat} {b0 : Nat}
def wp_L_law_676 (v3 : Int32) (K18 : Int32 → Sg → Prop) (σ : Sg) : Prop :=
  ∀ x676 : Int32, x676 = v3 + (nI 4) → (K18 x676 σ)
set_option maxHeartbeats 4000000 in
set_option maxRecDepth 100000 in
theorem k_L_law_676  {b L : Nat} {xs : Nat → Int32} (C : Cx p s m #[Value.ref b] meth c D cy ad b0 yL_law code 4 ret) (X : va_X b L xs s s.heap ∧ b < s.heap.size ∧ b0 = s.heap.size) (v3 : Int32) (K18 : Int32 → Sg → Prop) (hK18 : ∀ (z3 : Int32) (σ : Sg), K18 z3 σ → gw p l e room_1 s m #[Value.ref b] below meth c D cy ad b0 87 125045 (lw_Z below #[Value.ref b] s) 4 18 σ [some (.ref b), some (.ref (ad 0)), some (.ref (ad 10)), some (.int z3)] []) (σ : Sg) (h : wp_L_law_676 v3 K18 σ) : gw p l e room_1 s m #[Value.ref b] below meth c D cy ad b0 87 125045 (lw_Z below #[Value.ref b] s) 4 676 σ [some (.ref b), some (.ref (ad 0)), some (.ref (ad 10)), some (.int v3)] [] := by
  obtain ⟨x676, e_x676⟩ : ∃ v : Int32, v = v3 + (nI 4) := ⟨_, rfl⟩
  have h := h x676 e_x676
  refine g_iinc C [some (.ref b), some (.ref (ad 0)), some (.ref (ad 10)), some (.int x676)] dL_law_676 rfl e_x676.symm (by decide) rfl ?_
  refine g_goto C 18 dL_law_679 (by decide) ?_
  exact hK18 x676 σ h
def wb_L_law_18 (L : Nat) (xs : Nat → Int32) (v3 : Int32) (K18 : Int32 → Sg → Prop) (σ : Sg) : Prop :=
  Inv σ ∧ (¬ ((nI L) - (nI 4)) < v3 → vp_in v3 L ∧ vp_in (v3 + (nI 1)) L ∧ vp_in (v3 + (nI 2)) L ∧ vp_in (v3 + (nI 3)) L ∧ ∀ σ1, Inv σ1 → K18 (v3 + (nI 4)) σ1)
set_option maxHeartbeats 4000000 in
set_option maxRecDepth 100000 in
theorem kb_L_law_18  {b L : Nat} {xs : Nat → Int32} (C : Cx p s m #[Value.ref b] meth c D cy ad b0 yL_law code 4 ret) (X : va_X b L xs s s.heap ∧ b < s.heap.size ∧ b0 = s.heap.size) (v3 : Int32) (K18 : Int32 → Sg → Prop) (hK18 : ∀ (z3 : Int32) (σ : Sg), K18 z3 σ → gw p l e room_1 s m #[Value.ref b] below meth c D cy ad b0 87 125045 (lw_Z below #[Value.ref b] s) 4 18 σ [some (.ref b), some (.ref (ad 0)), some (.ref (ad 10)), some (.int z3)] []) (σ : Sg) (h : wb_L_law_18 L xs v3 K18 σ) : gw p l e room_1 s m #[Value.ref b] below meth c D cy ad b0 87 125045 (lw_Z below #[Value.ref b] s) 4 18 σ [some (.ref b), some (.ref (ad 0)), some (.ref (ad 10)), some (.int v3)] [] := by
  obtain ⟨I, hh⟩ := h
  refine g_iload_n C dL_law_18 rfl ?_
  refine g_aload_n C dL_law_19 rfl ?_
  refine g_slen C X dL_law_20 ?_
  refine g_iconst C dL_law_21 kc_4 ?_
  refine g_isub C dL_law_22 ?_
  refine g_icmp_gt C 682 dL_law_23 (by decide) (fun c23 => ?_) (fun c23 => ?_)
  · skip
    refine g_iconst C dL_law_682 kc_1 ?_
    exact g_lwret C X (Nat.le_of_ble_eq_true rfl) (Nat.le_of_ble_eq_true rfl) dL_law_683
  · obtain ⟨hv0, hv1, hv2, hv3, hK⟩ := hh c23
    refine g_aload_n C dL_law_26 rfl ?_
    refine g_iload_n C dL_law_27 rfl ?_
    refine g_sld C X (by first | exact hv0 | exact hv1 | exact hv2 | exact hv3) dL_law_28 ?_
    refine g_bipush C dL_law_29 kb_31 ?_
    refine g_iand C dL_law_31 ?_
    refine dite_case (((xs (Int32.toNatClampNeg v3)) &&& (nI 31)) = (nI 0)) (fun c32_0 => ?_) (fun c32_0 => ?_)
    · skip
      refine g_tsw C 132 (off := 100) dL_law_32 (tsel_at c32_0 (by decide)) (by decide) ?_
      refine g_aload_n C dL_law_132 rfl ?_
      refine g_aload_n C dL_law_133 rfl ?_
      refine g_iload_n C dL_law_134 rfl ?_
      refine g_iconst C dL_law_135 kc_1 ?_
      refine g_iadd C dL_law_136 ?_
      refine g_sld C X (by first | exact hv0 | exact hv1 | exact hv2 | exact hv3) dL_law_137 ?_
      refine g_i2l C dL_law_138 ?_
      refine g_bipush C dL_law_139 kb_32 ?_
      refine g_lshl C dL_law_141 ?_
      refine g_aload_n C dL_law_142 rfl ?_
      refine g_iload_n C dL_law_143 rfl ?_
      refine g_iconst C dL_law_144 kc_2 ?_
      refine g_iadd C dL_law_145 ?_
      refine g_sld C X (by first | exact hv0 | exact hv1 | exact hv2 | exact hv3) dL_law_146 ?_
      refine g_i2l C dL_law_147 ?_
      refine g_ldc2 C (v := (lN 4294967295)) mw_6 dL_law_148 ?_
      refine g_land C dL_law_151 ?_
      refine g_lor C dL_law_152 ?_
      refine g_callVi C 0 [.long ((lSHL (Int32.toInt64 (xs (Int32.toNatClampNeg (v3 + (nI 1))))) (nI 32)) ||| ((Int32.toInt64 (xs (Int32.toNatClampNeg (v3 + (nI 2))))) &&& (lN 4294967295)))] (c_X8_feed l D cy ad b0 C.A ((lSHL (Int32.toInt64 (xs (Int32.toNatClampNeg (v3 + (nI 1))))) (nI 32)) ||| ((Int32.toInt64 (xs (Int32.toNatClampNeg (v3 + (nI 2))))) &&& (lN 4294967295)))) cal_X8_feed mw_184 (by decide) rfl rfl ⟨Nat.le_of_ble_eq_true rfl, Nat.le_of_ble_eq_true rfl⟩ ⟨rfl, rfl⟩ ⟨Nat.le_of_ble_eq_true rfl, Nat.le_of_ble_eq_true rfl⟩ (Nat.le_of_ble_eq_true rfl) rfl dL_law_153 (op_feed _ σ I) (fun r1 σ2 h => ?_)
      refine g_aload_n C dL_law_156 rfl ?_
      refine g_aload_n C dL_law_157 rfl ?_
      refine g_iload_n C dL_law_158 rfl ?_
      refine g_iconst C dL_law_159 kc_1 ?_
      refine g_iadd C dL_law_160 ?_
      refine g_sld C X (by first | exact hv0 | exact hv1 | exact hv2 | exact hv3) dL_law_161 ?_
      refine g_i2l C dL_law_162 ?_
      refine g_bipush C dL_law_163 kb_32 ?_
      refine g_lshl C dL_law_165 ?_
      refine g_aload_n C dL_law_166 rfl ?_
      refine g_iload_n C dL_law_167 rfl ?_
      refine g_iconst C dL_law_168 kc_2 ?_
      refine g_iadd C dL_law_169 ?_
      refine g_sld C X (by first | exact hv0 | exact hv1 | exact hv2 | exact hv3) dL_law_170 ?_
      refine g_i2l C dL_law_171 ?_
      refine g_ldc2 C (v := (lN 4294967295)) mw_6 dL_law_172 ?_
      refine g_land C dL_law_175 ?_
      refine g_lor C dL_law_176 ?_
      refine g_callVi C 10 [.long ((lSHL (Int32.toInt64 (xs (Int32.toNatClampNeg (v3 + (nI 1))))) (nI 32)) ||| ((Int32.toInt64 (xs (Int32.toNatClampNeg (v3 + (nI 2))))) &&& (lN 4294967295)))] (c_X9_feed l D cy ad b0 C.A ((lSHL (Int32.toInt64 (xs (Int32.toNatClampNeg (v3 + (nI 1))))) (nI 32)) ||| ((Int32.toInt64 (xs (Int32.toNatClampNeg (v3 + (nI 2))))) &&& (lN 4294967295)))) cal_X9_feed mw_197 (by decide) rfl rfl ⟨Nat.le_of_ble_eq_true rfl, Nat.le_of_ble_eq_true rfl⟩ ⟨rfl, rfl⟩ ⟨Nat.le_of_ble_eq_true rfl, Nat.le_of_ble_eq_true rfl⟩ (Nat.le_of_ble_eq_true rfl) rfl dL_law_177 h (fun r3 σ4 h => ?_)
      refine g_icmp_eq C 676 dL_law_180 (by decide) (fun c180 => ?_) (fun c180 => ?_)
      · skip
        exact k_L_law_676 C X v3 K18 hK18 σ4 (fun x e => by rw [e]; exact hK _ h.2)
      · skip
        refine g_iconst C dL_law_183 kc_0 ?_
        exact absurd h.1 c180
    · skip
      refine dite_case (((xs (Int32.toNatClampNeg v3)) &&& (nI 31)) = (nI 1)) (fun c32_1 => ?_) (fun c32_1 => ?_)
      · skip
        refine g_tsw C 185 (off := 153) dL_law_32 (tsel_at c32_1 (by decide)) (by decide) ?_
        refine g_aload_n C dL_law_185 rfl ?_
        refine g_callVi C 0 [] (c_X8_read l D cy ad b0 C.A) cal_X8_read mw_203 (by decide) rfl rfl ⟨Nat.le_of_ble_eq_true rfl, Nat.le_of_ble_eq_true rfl⟩ ⟨rfl, rfl⟩ ⟨Nat.le_of_ble_eq_true rfl, Nat.le_of_ble_eq_true rfl⟩ (Nat.le_of_ble_eq_true rfl) rfl dL_law_186 (op_read σ I) (fun r5 σ6 h => ?_)
        refine g_aload_n C dL_law_189 rfl ?_
        refine g_callVi C 10 [] (c_X9_read l D cy ad b0 C.A) cal_X9_read mw_529 (by decide) rfl rfl ⟨Nat.le_of_ble_eq_true rfl, Nat.le_of_ble_eq_true rfl⟩ ⟨rfl, rfl⟩ ⟨Nat.le_of_ble_eq_true rfl, Nat.le_of_ble_eq_true rfl⟩ (Nat.le_of_ble_eq_true rfl) rfl dL_law_190 h (fun r7 σ8 h => ?_)
        refine g_icmp_eq C 676 dL_law_193 (by decide) (fun c193 => ?_) (fun c193 => ?_)
        · skip
          exact k_L_law_676 C X v3 K18 hK18 σ8 (fun x e => by rw [e]; exact hK _ h.2)
        · skip
          refine g_iconst C dL_law_196 kc_0 ?_
          exact absurd h.1 c193
      · skip
        refine dite_case (((xs (Int32.toNatClampNeg v3)) &&& (nI 31)) = (nI 2)) (fun c32_2 => ?_) (fun c32_2 => ?_)
        · skip
          refine g_tsw C 198 (off := 166) dL_law_32 (tsel_at c32_2 (by decide)) (by decide) ?_
          refine g_aload_n C dL_law_198 rfl ?_
          refine g_callVi C 0 [] (c_X8_fault l D cy ad b0 C.A) cal_X8_fault mw_638 (by decide) rfl rfl ⟨Nat.le_of_ble_eq_true rfl, Nat.le_of_ble_eq_true rfl⟩ ⟨rfl, rfl⟩ ⟨Nat.le_of_ble_eq_true rfl, Nat.le_of_ble_eq_true rfl⟩ (Nat.le_of_ble_eq_true rfl) rfl dL_law_199 (op_fault σ I) (fun r9 σ10 h => ?_)
          refine g_aload_n C dL_law_202 rfl ?_
          refine g_callVi C 10 [] (c_X9_fault l D cy ad b0 C.A) cal_X9_fault mw_642 (by decide) rfl rfl ⟨Nat.le_of_ble_eq_true rfl, Nat.le_of_ble_eq_true rfl⟩ ⟨rfl, rfl⟩ ⟨Nat.le_of_ble_eq_true rfl, Nat.le_of_ble_eq_true rfl⟩ (Nat.le_of_ble_eq_true rfl) rfl dL_law_203 h (fun r11 σ12 h => ?_)
          refine g_icmp_eq C 676 dL_law_206 (by decide) (fun c206 => ?_) (fun c206 => ?_)
          · skip
            exact k_L_law_676 C X v3 K18 hK18 σ12 (fun x e => by rw [e]; exact hK _ h.2)
          · skip
            refine g_iconst C dL_law_209 kc_0 ?_
            exact absurd h.1 c206
        · skip
          refine dite_case (((xs (Int32.toNatClampNeg v3)) &&& (nI 31)) = (nI 3)) (fun c32_3 => ?_) (fun c32_3 => ?_)
          · skip
            refine g_tsw C 211 (off := 179) dL_law_32 (tsel_at c32_3 (by decide)) (by decide) ?_
            refine g_aload_n C dL_law_211 rfl ?_
            refine g_callVi C 0 [] (c_X8_cut l D cy ad b0 C.A) cal_X8_cut mw_646 (by decide) rfl rfl ⟨Nat.le_of_ble_eq_true rfl, Nat.le_of_ble_eq_true rfl⟩ ⟨rfl, rfl⟩ ⟨Nat.le_of_ble_eq_true rfl, Nat.le_of_ble_eq_true rfl⟩ (Nat.le_of_ble_eq_true rfl) rfl dL_law_212 (op_cut σ I) (fun r13 σ14 h => ?_)
            refine g_aload_n C dL_law_215 rfl ?_
            refine g_callVi C 10 [] (c_X9_cut l D cy ad b0 C.A) cal_X9_cut mw_650 (by decide) rfl rfl ⟨Nat.le_of_ble_eq_true rfl, Nat.le_of_ble_eq_true rfl⟩ ⟨rfl, rfl⟩ ⟨Nat.le_of_ble_eq_true rfl, Nat.le_of_ble_eq_true rfl⟩ (Nat.le_of_ble_eq_true rfl) rfl dL_law_216 h (fun r15 σ16 h => ?_)
            refine g_icmp_eq C 676 dL_law_219 (by decide) (fun c219 => ?_) (fun c219 => ?_)
            · skip
              exact k_L_law_676 C X v3 K18 hK18 σ16 (fun x e => by rw [e]; exact hK _ h.2)
            · skip
              refine g_iconst C dL_law_222 kc_0 ?_
              exact absurd h.1 c219
          · skip
            refine dite_case (((xs (Int32.toNatClampNeg v3)) &&& (nI 31)) = (nI 4)) (fun c32_4 => ?_) (fun c32_4 => ?_)
            · skip
              refine g_tsw C 224 (off := 192) dL_law_32 (tsel_at c32_4 (by decide)) (by decide) ?_
              refine g_aload_n C dL_law_224 rfl ?_
              refine g_aload_n C dL_law_225 rfl ?_
              refine g_iload_n C dL_law_226 rfl ?_
              refine g_iconst C dL_law_227 kc_1 ?_
              refine g_iadd C dL_law_228 ?_
              refine g_sld C X (by first | exact hv0 | exact hv1 | exact hv2 | exact hv3) dL_law_229 ?_
              refine g_aload_n C dL_law_230 rfl ?_
              refine g_iload_n C dL_law_231 rfl ?_
              refine g_iconst C dL_law_232 kc_2 ?_
              refine g_iadd C dL_law_233 ?_
              refine g_sld C X (by first | exact hv0 | exact hv1 | exact hv2 | exact hv3) dL_law_234 ?_
              refine g_callVi C 0 [.int (xs (Int32.toNatClampNeg (v3 + (nI 1)))), .int (xs (Int32.toNatClampNeg (v3 + (nI 2))))] (c_X8_leads l D cy ad b0 C.A (xs (Int32.toNatClampNeg (v3 + (nI 1)))) (xs (Int32.toNatClampNeg (v3 + (nI 2))))) cal_X8_leads mw_654 (by decide) rfl rfl ⟨Nat.le_of_ble_eq_true rfl, Nat.le_of_ble_eq_true rfl⟩ ⟨rfl, rfl⟩ ⟨Nat.le_of_ble_eq_true rfl, Nat.le_of_ble_eq_true rfl⟩ (Nat.le_of_ble_eq_true rfl) rfl dL_law_235 (op_leads _ _ σ I) (fun r17 σ18 h => ?_)
              refine g_aload_n C dL_law_238 rfl ?_
              refine g_aload_n C dL_law_239 rfl ?_
              refine g_iload_n C dL_law_240 rfl ?_
              refine g_iconst C dL_law_241 kc_1 ?_
              refine g_iadd C dL_law_242 ?_
              refine g_sld C X (by first | exact hv0 | exact hv1 | exact hv2 | exact hv3) dL_law_243 ?_
              refine g_aload_n C dL_law_244 rfl ?_
              refine g_iload_n C dL_law_245 rfl ?_
              refine g_iconst C dL_law_246 kc_2 ?_
              refine g_iadd C dL_law_247 ?_
              refine g_sld C X (by first | exact hv0 | exact hv1 | exact hv2 | exact hv3) dL_law_248 ?_
              refine g_callVi C 10 [.int (xs (Int32.toNatClampNeg (v3 + (nI 1)))), .int (xs (Int32.toNatClampNeg (v3 + (nI 2))))] (c_X9_leads l D cy ad b0 C.A (xs (Int32.toNatClampNeg (v3 + (nI 1)))) (xs (Int32.toNatClampNeg (v3 + (nI 2))))) cal_X9_leads mw_670 (by decide) rfl rfl ⟨Nat.le_of_ble_eq_true rfl, Nat.le_of_ble_eq_true rfl⟩ ⟨rfl, rfl⟩ ⟨Nat.le_of_ble_eq_true rfl, Nat.le_of_ble_eq_true rfl⟩ (Nat.le_of_ble_eq_true rfl) rfl dL_law_249 h (fun r19 σ20 h => ?_)
              refine g_icmp_eq C 676 dL_law_252 (by decide) (fun c252 => ?_) (fun c252 => ?_)
              · skip
                exact k_L_law_676 C X v3 K18 hK18 σ20 (fun x e => by rw [e]; exact hK _ h.2)
              · skip
                refine g_iconst C dL_law_255 kc_0 ?_
                exact absurd h.1 c252
            · skip
              refine dite_case (((xs (Int32.toNatClampNeg v3)) &&& (nI 31)) = (nI 5)) (fun c32_5 => ?_) (fun c32_5 => ?_)
              · skip
                refine g_tsw C 257 (off := 225) dL_law_32 (tsel_at c32_5 (by decide)) (by decide) ?_
                refine g_aload_n C dL_law_257 rfl ?_
                refine g_aload_n C dL_law_258 rfl ?_
                refine g_iload_n C dL_law_259 rfl ?_
                refine g_iconst C dL_law_260 kc_1 ?_
                refine g_iadd C dL_law_261 ?_
                refine g_sld C X (by first | exact hv0 | exact hv1 | exact hv2 | exact hv3) dL_law_262 ?_
                refine g_callVi C 0 [.int (xs (Int32.toNatClampNeg (v3 + (nI 1))))] (c_X8_verdict l D cy ad b0 C.A (xs (Int32.toNatClampNeg (v3 + (nI 1))))) cal_X8_verdict mw_682 (by decide) rfl rfl ⟨Nat.le_of_ble_eq_true rfl, Nat.le_of_ble_eq_true rfl⟩ ⟨rfl, rfl⟩ ⟨Nat.le_of_ble_eq_true rfl, Nat.le_of_ble_eq_true rfl⟩ (Nat.le_of_ble_eq_true rfl) rfl dL_law_263 (op_verdict _ σ I) (fun r21 σ22 h => ?_)
                refine g_aload_n C dL_law_266 rfl ?_
                refine g_aload_n C dL_law_267 rfl ?_
                refine g_iload_n C dL_law_268 rfl ?_
                refine g_iconst C dL_law_269 kc_1 ?_
                refine g_iadd C dL_law_270 ?_
                refine g_sld C X (by first | exact hv0 | exact hv1 | exact hv2 | exact hv3) dL_law_271 ?_
                refine g_callVi C 10 [.int (xs (Int32.toNatClampNeg (v3 + (nI 1))))] (c_X9_verdict l D cy ad b0 C.A (xs (Int32.toNatClampNeg (v3 + (nI 1))))) cal_X9_verdict mw_691 (by decide) rfl rfl ⟨Nat.le_of_ble_eq_true rfl, Nat.le_of_ble_eq_true rfl⟩ ⟨rfl, rfl⟩ ⟨Nat.le_of_ble_eq_true rfl, Nat.le_of_ble_eq_true rfl⟩ (Nat.le_of_ble_eq_true rfl) rfl dL_law_272 h (fun r23 σ24 h => ?_)
                refine g_icmp_eq C 676 dL_law_275 (by decide) (fun c275 => ?_) (fun c275 => ?_)
                · skip
                  exact k_L_law_676 C X v3 K18 hK18 σ24 (fun x e => by rw [e]; exact hK _ h.2)
                · skip
                  refine g_iconst C dL_law_278 kc_0 ?_
                  exact absurd h.1 c275
              · skip
                refine dite_case (((xs (Int32.toNatClampNeg v3)) &&& (nI 31)) = (nI 6)) (fun c32_6 => ?_) (fun c32_6 => ?_)
                · skip
                  refine g_tsw C 280 (off := 248) dL_law_32 (tsel_at c32_6 (by decide)) (by decide) ?_
                  refine g_aload_n C dL_law_280 rfl ?_
                  refine g_aload_n C dL_law_281 rfl ?_
                  refine g_iload_n C dL_law_282 rfl ?_
                  refine g_iconst C dL_law_283 kc_1 ?_
                  refine g_iadd C dL_law_284 ?_
                  refine g_sld C X (by first | exact hv0 | exact hv1 | exact hv2 | exact hv3) dL_law_285 ?_
                  refine g_aload_n C dL_law_286 rfl ?_
                  refine g_iload_n C dL_law_287 rfl ?_
                  refine g_iconst C dL_law_288 kc_2 ?_
                  refine g_iadd C dL_law_289 ?_
                  refine g_sld C X (by first | exact hv0 | exact hv1 | exact hv2 | exact hv3) dL_law_290 ?_
                  refine g_callVi C 0 [.int (xs (Int32.toNatClampNeg (v3 + (nI 1)))), .int (xs (Int32.toNatClampNeg (v3 + (nI 2))))] (c_X8_far l D cy ad b0 C.A (xs (Int32.toNatClampNeg (v3 + (nI 1)))) (xs (Int32.toNatClampNeg (v3 + (nI 2))))) cal_X8_far mw_695 (by decide) rfl rfl ⟨Nat.le_of_ble_eq_true rfl, Nat.le_of_ble_eq_true rfl⟩ ⟨rfl, rfl⟩ ⟨Nat.le_of_ble_eq_true rfl, Nat.le_of_ble_eq_true rfl⟩ (Nat.le_of_ble_eq_true rfl) rfl dL_law_291 (op_far _ _ σ I) (fun r25 σ26 h => ?_)
                  refine g_aload_n C dL_law_294 rfl ?_
                  refine g_aload_n C dL_law_295 rfl ?_
                  refine g_iload_n C dL_law_296 rfl ?_
                  refine g_iconst C dL_law_297 kc_1 ?_
                  refine g_iadd C dL_law_298 ?_
                  refine g_sld C X (by first | exact hv0 | exact hv1 | exact hv2 | exact hv3) dL_law_299 ?_
                  refine g_aload_n C dL_law_300 rfl ?_
                  refine g_iload_n C dL_law_301 rfl ?_
                  refine g_iconst C dL_law_302 kc_2 ?_
                  refine g_iadd C dL_law_303 ?_
                  refine g_sld C X (by first | exact hv0 | exact hv1 | exact hv2 | exact hv3) dL_law_304 ?_
                  refine g_callVi C 10 [.int (xs (Int32.toNatClampNeg (v3 + (nI 1)))), .int (xs (Int32.toNatClampNeg (v3 + (nI 2))))] (c_X9_far l D cy ad b0 C.A (xs (Int32.toNatClampNeg (v3 + (nI 1)))) (xs (Int32.toNatClampNeg (v3 + (nI 2))))) cal_X9_far mw_703 (by decide) rfl rfl ⟨Nat.le_of_ble_eq_true rfl, Nat.le_of_ble_eq_true rfl⟩ ⟨rfl, rfl⟩ ⟨Nat.le_of_ble_eq_true rfl, Nat.le_of_ble_eq_true rfl⟩ (Nat.le_of_ble_eq_true rfl) rfl dL_law_305 h (fun r27 σ28 h => ?_)
                  refine g_icmp_eq C 676 dL_law_308 (by decide) (fun c308 => ?_) (fun c308 => ?_)
                  · skip
                    exact k_L_law_676 C X v3 K18 hK18 σ28 (fun x e => by rw [e]; exact hK _ h.2)
                  · skip
                    refine g_iconst C dL_law_311 kc_0 ?_
                    exact absurd h.1 c308
                · skip
                  refine dite_case (((xs (Int32.toNatClampNeg v3)) &&& (nI 31)) = (nI 7)) (fun c32_7 => ?_) (fun c32_7 => ?_)
                  · skip
                    refine g_tsw C 313 (off := 281) dL_law_32 (tsel_at c32_7 (by decide)) (by decide) ?_
                    refine g_aload_n C dL_law_313 rfl ?_
                    refine g_aload_n C dL_law_314 rfl ?_
                    refine g_iload_n C dL_law_315 rfl ?_
                    refine g_iconst C dL_law_316 kc_1 ?_
                    refine g_iadd C dL_law_317 ?_
                    refine g_sld C X (by first | exact hv0 | exact hv1 | exact hv2 | exact hv3) dL_law_318 ?_
                    refine g_aload_n C dL_law_319 rfl ?_
                    refine g_iload_n C dL_law_320 rfl ?_
                    refine g_iconst C dL_law_321 kc_2 ?_
                    refine g_iadd C dL_law_322 ?_
                    refine g_sld C X (by first | exact hv0 | exact hv1 | exact hv2 | exact hv3) dL_law_323 ?_
                    refine g_callVi C 0 [.int (xs (Int32.toNatClampNeg (v3 + (nI 1)))), .int (xs (Int32.toNatClampNeg (v3 + (nI 2))))] (c_X8_toward l D cy ad b0 C.A (xs (Int32.toNatClampNeg (v3 + (nI 1)))) (xs (Int32.toNatClampNeg (v3 + (nI 2))))) cal_X8_toward mw_711 (by decide) rfl rfl ⟨Nat.le_of_ble_eq_true rfl, Nat.le_of_ble_eq_true rfl⟩ ⟨rfl, rfl⟩ ⟨Nat.le_of_ble_eq_true rfl, Nat.le_of_ble_eq_true rfl⟩ (Nat.le_of_ble_eq_true rfl) rfl dL_law_324 (op_toward _ _ σ I) (fun r29 σ30 h => ?_)
                    refine g_aload_n C dL_law_327 rfl ?_
                    refine g_aload_n C dL_law_328 rfl ?_
                    refine g_iload_n C dL_law_329 rfl ?_
                    refine g_iconst C dL_law_330 kc_1 ?_
                    refine g_iadd C dL_law_331 ?_
                    refine g_sld C X (by first | exact hv0 | exact hv1 | exact hv2 | exact hv3) dL_law_332 ?_
                    refine g_aload_n C dL_law_333 rfl ?_
                    refine g_iload_n C dL_law_334 rfl ?_
                    refine g_iconst C dL_law_335 kc_2 ?_
                    refine g_iadd C dL_law_336 ?_
                    refine g_sld C X (by first | exact hv0 | exact hv1 | exact hv2 | exact hv3) dL_law_337 ?_
                    refine g_callVi C 10 [.int (xs (Int32.toNatClampNeg (v3 + (nI 1)))), .int (xs (Int32.toNatClampNeg (v3 + (nI 2))))] (c_X9_toward l D cy ad b0 C.A (xs (Int32.toNatClampNeg (v3 + (nI 1)))) (xs (Int32.toNatClampNeg (v3 + (nI 2))))) cal_X9_toward mw_719 (by decide) rfl rfl ⟨Nat.le_of_ble_eq_true rfl, Nat.le_of_ble_eq_true rfl⟩ ⟨rfl, rfl⟩ ⟨Nat.le_of_ble_eq_true rfl, Nat.le_of_ble_eq_true rfl⟩ (Nat.le_of_ble_eq_true rfl) rfl dL_law_338 h (fun r31 σ32 h => ?_)
                    refine g_icmp_eq C 676 dL_law_341 (by decide) (fun c341 => ?_) (fun c341 => ?_)
                    · skip
                      exact k_L_law_676 C X v3 K18 hK18 σ32 (fun x e => by rw [e]; exact hK _ h.2)
                    · skip
                      refine g_iconst C dL_law_344 kc_0 ?_
                      exact absurd h.1 c341
                  · skip
                    refine dite_case (((xs (Int32.toNatClampNeg v3)) &&& (nI 31)) = (nI 8)) (fun c32_8 => ?_) (fun c32_8 => ?_)
                    · skip
                      refine g_tsw C 346 (off := 314) dL_law_32 (tsel_at c32_8 (by decide)) (by decide) ?_
                      refine g_aload_n C dL_law_346 rfl ?_
                      refine g_aload_n C dL_law_347 rfl ?_
                      refine g_iload_n C dL_law_348 rfl ?_
                      refine g_iconst C dL_law_349 kc_1 ?_
                      refine g_iadd C dL_law_350 ?_
                      refine g_sld C X (by first | exact hv0 | exact hv1 | exact hv2 | exact hv3) dL_law_351 ?_
                      refine g_aload_n C dL_law_352 rfl ?_
                      refine g_iload_n C dL_law_353 rfl ?_
                      refine g_iconst C dL_law_354 kc_2 ?_
                      refine g_iadd C dL_law_355 ?_
                      refine g_sld C X (by first | exact hv0 | exact hv1 | exact hv2 | exact hv3) dL_law_356 ?_
                      refine g_callVl C 0 [.int (xs (Int32.toNatClampNeg (v3 + (nI 1)))), .int (xs (Int32.toNatClampNeg (v3 + (nI 2))))] (c_X8_runs l D cy ad b0 C.A (xs (Int32.toNatClampNeg (v3 + (nI 1)))) (xs (Int32.toNatClampNeg (v3 + (nI 2))))) cal_X8_runs mw_724 (by decide) rfl rfl ⟨Nat.le_of_ble_eq_true rfl, Nat.le_of_ble_eq_true rfl⟩ ⟨rfl, rfl⟩ ⟨Nat.le_of_ble_eq_true rfl, Nat.le_of_ble_eq_true rfl⟩ (Nat.le_of_ble_eq_true rfl) rfl dL_law_357 (op_runs _ _ σ I) (fun r33 σ34 h => ?_)
                      refine g_aload_n C dL_law_360 rfl ?_
                      refine g_aload_n C dL_law_361 rfl ?_
                      refine g_iload_n C dL_law_362 rfl ?_
                      refine g_iconst C dL_law_363 kc_1 ?_
                      refine g_iadd C dL_law_364 ?_
                      refine g_sld C X (by first | exact hv0 | exact hv1 | exact hv2 | exact hv3) dL_law_365 ?_
                      refine g_aload_n C dL_law_366 rfl ?_
                      refine g_iload_n C dL_law_367 rfl ?_
                      refine g_iconst C dL_law_368 kc_2 ?_
                      refine g_iadd C dL_law_369 ?_
                      refine g_sld C X (by first | exact hv0 | exact hv1 | exact hv2 | exact hv3) dL_law_370 ?_
                      refine g_callVl C 10 [.int (xs (Int32.toNatClampNeg (v3 + (nI 1)))), .int (xs (Int32.toNatClampNeg (v3 + (nI 2))))] (c_X9_runs l D cy ad b0 C.A (xs (Int32.toNatClampNeg (v3 + (nI 1)))) (xs (Int32.toNatClampNeg (v3 + (nI 2))))) cal_X9_runs mw_733 (by decide) rfl rfl ⟨Nat.le_of_ble_eq_true rfl, Nat.le_of_ble_eq_true rfl⟩ ⟨rfl, rfl⟩ ⟨Nat.le_of_ble_eq_true rfl, Nat.le_of_ble_eq_true rfl⟩ (Nat.le_of_ble_eq_true rfl) rfl dL_law_371 h (fun r35 σ36 h => ?_)
                      refine g_lcmp C dL_law_374 ?_
                      refine g_if_eq C 676 dL_law_375 (by decide) (fun c375 => ?_) (fun c375 => ?_)
                      · skip
                        exact k_L_law_676 C X v3 K18 hK18 σ36 (fun x e => by rw [e]; exact hK _ h.2)
                      · skip
                        refine g_iconst C dL_law_378 kc_0 ?_
                        exact absurd (lgc_eq.mpr h.1) c375
                    · skip
                      refine dite_case (((xs (Int32.toNatClampNeg v3)) &&& (nI 31)) = (nI 9)) (fun c32_9 => ?_) (fun c32_9 => ?_)
                      · skip
                        refine g_tsw C 380 (off := 348) dL_law_32 (tsel_at c32_9 (by decide)) (by decide) ?_
                        refine g_aload_n C dL_law_380 rfl ?_
                        refine g_aload_n C dL_law_381 rfl ?_
                        refine g_iload_n C dL_law_382 rfl ?_
                        refine g_iconst C dL_law_383 kc_1 ?_
                        refine g_iadd C dL_law_384 ?_
                        refine g_sld C X (by first | exact hv0 | exact hv1 | exact hv2 | exact hv3) dL_law_385 ?_
                        refine g_aload_n C dL_law_386 rfl ?_
                        refine g_iload_n C dL_law_387 rfl ?_
                        refine g_iconst C dL_law_388 kc_2 ?_
                        refine g_iadd C dL_law_389 ?_
                        refine g_sld C X (by first | exact hv0 | exact hv1 | exact hv2 | exact hv3) dL_law_390 ?_
                        refine g_aload_n C dL_law_391 rfl ?_
                        refine g_iload_n C dL_law_392 rfl ?_
                        refine g_iconst C dL_law_393 kc_3 ?_
                        refine g_iadd C dL_law_394 ?_
                        refine g_sld C X (by first | exact hv0 | exact hv1 | exact hv2 | exact hv3) dL_law_395 ?_
                        refine g_callVi C 0 [.int (xs (Int32.toNatClampNeg (v3 + (nI 1)))), .int (xs (Int32.toNatClampNeg (v3 + (nI 2)))), .int (xs (Int32.toNatClampNeg (v3 + (nI 3))))] (c_X8_run l D cy ad b0 C.A (xs (Int32.toNatClampNeg (v3 + (nI 1)))) (xs (Int32.toNatClampNeg (v3 + (nI 2)))) (xs (Int32.toNatClampNeg (v3 + (nI 3))))) cal_X8_run mw_745 (by decide) rfl rfl ⟨Nat.le_of_ble_eq_true rfl, Nat.le_of_ble_eq_true rfl⟩ ⟨rfl, rfl⟩ ⟨Nat.le_of_ble_eq_true rfl, Nat.le_of_ble_eq_true rfl⟩ (Nat.le_of_ble_eq_true rfl) rfl dL_law_396 (op_run _ _ _ σ I) (fun r37 σ38 h => ?_)
                        refine g_aload_n C dL_law_399 rfl ?_
                        refine g_aload_n C dL_law_400 rfl ?_
                        refine g_iload_n C dL_law_401 rfl ?_
                        refine g_iconst C dL_law_402 kc_1 ?_
                        refine g_iadd C dL_law_403 ?_
                        refine g_sld C X (by first | exact hv0 | exact hv1 | exact hv2 | exact hv3) dL_law_404 ?_
                        refine g_aload_n C dL_law_405 rfl ?_
                        refine g_iload_n C dL_law_406 rfl ?_
                        refine g_iconst C dL_law_407 kc_2 ?_
                        refine g_iadd C dL_law_408 ?_
                        refine g_sld C X (by first | exact hv0 | exact hv1 | exact hv2 | exact hv3) dL_law_409 ?_
                        refine g_aload_n C dL_law_410 rfl ?_
                        refine g_iload_n C dL_law_411 rfl ?_
                        refine g_iconst C dL_law_412 kc_3 ?_
                        refine g_iadd C dL_law_413 ?_
                        refine g_sld C X (by first | exact hv0 | exact hv1 | exact hv2 | exact hv3) dL_law_414 ?_
                        refine g_callVi C 10 [.int (xs (Int32.toNatClampNeg (v3 + (nI 1)))), .int (xs (Int32.toNatClampNeg (v3 + (nI 2)))), .int (xs (Int32.toNatClampNeg (v3 + (nI 3))))] (c_X9_run l D cy ad b0 C.A (xs (Int32.toNatClampNeg (v3 + (nI 1)))) (xs (Int32.toNatClampNeg (v3 + (nI 2)))) (xs (Int32.toNatClampNeg (v3 + (nI 3))))) cal_X9_run mw_757 (by decide) rfl rfl ⟨Nat.le_of_ble_eq_true rfl, Nat.le_of_ble_eq_true rfl⟩ ⟨rfl, rfl⟩ ⟨Nat.le_of_ble_eq_true rfl, Nat.le_of_ble_eq_true rfl⟩ (Nat.le_of_ble_eq_true rfl) rfl dL_law_415 h (fun r39 σ40 h => ?_)
                        refine g_icmp_eq C 676 dL_law_418 (by decide) (fun c418 => ?_) (fun c418 => ?_)
                        · skip
                          exact k_L_law_676 C X v3 K18 hK18 σ40 (fun x e => by rw [e]; exact hK _ h.2)
                        · skip
                          refine g_iconst C dL_law_421 kc_0 ?_
                          exact absurd h.1 c418
                      · skip
                        refine dite_case (((xs (Int32.toNatClampNeg v3)) &&& (nI 31)) = (nI 10)) (fun c32_10 => ?_) (fun c32_10 => ?_)
                        · skip
                          refine g_tsw C 423 (off := 391) dL_law_32 (tsel_at c32_10 (by decide)) (by decide) ?_
                          refine g_aload_n C dL_law_423 rfl ?_
                          refine g_aload_n C dL_law_424 rfl ?_
                          refine g_iload_n C dL_law_425 rfl ?_
                          refine g_iconst C dL_law_426 kc_1 ?_
                          refine g_iadd C dL_law_427 ?_
                          refine g_sld C X (by first | exact hv0 | exact hv1 | exact hv2 | exact hv3) dL_law_428 ?_
                          refine g_aload_n C dL_law_429 rfl ?_
                          refine g_iload_n C dL_law_430 rfl ?_
                          refine g_iconst C dL_law_431 kc_2 ?_
                          refine g_iadd C dL_law_432 ?_
                          refine g_sld C X (by first | exact hv0 | exact hv1 | exact hv2 | exact hv3) dL_law_433 ?_
                          refine g_callVi C 0 [.int (xs (Int32.toNatClampNeg (v3 + (nI 1)))), .int (xs (Int32.toNatClampNeg (v3 + (nI 2))))] (c_X8_event l D cy ad b0 C.A (xs (Int32.toNatClampNeg (v3 + (nI 1)))) (xs (Int32.toNatClampNeg (v3 + (nI 2))))) cal_X8_event mw_762 (by decide) rfl rfl ⟨Nat.le_of_ble_eq_true rfl, Nat.le_of_ble_eq_true rfl⟩ ⟨rfl, rfl⟩ ⟨Nat.le_of_ble_eq_true rfl, Nat.le_of_ble_eq_true rfl⟩ (Nat.le_of_ble_eq_true rfl) rfl dL_law_434 (op_event _ _ σ I) (fun r41 σ42 h => ?_)
                          refine g_aload_n C dL_law_437 rfl ?_
                          refine g_aload_n C dL_law_438 rfl ?_
                          refine g_iload_n C dL_law_439 rfl ?_
                          refine g_iconst C dL_law_440 kc_1 ?_
                          refine g_iadd C dL_law_441 ?_
                          refine g_sld C X (by first | exact hv0 | exact hv1 | exact hv2 | exact hv3) dL_law_442 ?_
                          refine g_aload_n C dL_law_443 rfl ?_
                          refine g_iload_n C dL_law_444 rfl ?_
                          refine g_iconst C dL_law_445 kc_2 ?_
                          refine g_iadd C dL_law_446 ?_
                          refine g_sld C X (by first | exact hv0 | exact hv1 | exact hv2 | exact hv3) dL_law_447 ?_
                          refine g_callVi C 10 [.int (xs (Int32.toNatClampNeg (v3 + (nI 1)))), .int (xs (Int32.toNatClampNeg (v3 + (nI 2))))] (c_X9_event l D cy ad b0 C.A (xs (Int32.toNatClampNeg (v3 + (nI 1)))) (xs (Int32.toNatClampNeg (v3 + (nI 2))))) cal_X9_event mw_788 (by decide) rfl rfl ⟨Nat.le_of_ble_eq_true rfl, Nat.le_of_ble_eq_true rfl⟩ ⟨rfl, rfl⟩ ⟨Nat.le_of_ble_eq_true rfl, Nat.le_of_ble_eq_true rfl⟩ (Nat.le_of_ble_eq_true rfl) rfl dL_law_448 h (fun r43 σ44 h => ?_)
                          refine g_icmp_eq C 676 dL_law_451 (by decide) (fun c451 => ?_) (fun c451 => ?_)
                          · skip
                            exact k_L_law_676 C X v3 K18 hK18 σ44 (fun x e => by rw [e]; exact hK _ h.2)
                          · skip
                            refine g_iconst C dL_law_454 kc_0 ?_
                            exact absurd h.1 c451
                        · skip
                          refine dite_case (((xs (Int32.toNatClampNeg v3)) &&& (nI 31)) = (nI 11)) (fun c32_11 => ?_) (fun c32_11 => ?_)
                          · skip
                            refine g_tsw C 456 (off := 424) dL_law_32 (tsel_at c32_11 (by decide)) (by decide) ?_
                            refine g_aload_n C dL_law_456 rfl ?_
                            refine g_aload_n C dL_law_457 rfl ?_
                            refine g_iload_n C dL_law_458 rfl ?_
                            refine g_iconst C dL_law_459 kc_1 ?_
                            refine g_iadd C dL_law_460 ?_
                            refine g_sld C X (by first | exact hv0 | exact hv1 | exact hv2 | exact hv3) dL_law_461 ?_
                            refine g_aload_n C dL_law_462 rfl ?_
                            refine g_iload_n C dL_law_463 rfl ?_
                            refine g_iconst C dL_law_464 kc_2 ?_
                            refine g_iadd C dL_law_465 ?_
                            refine g_sld C X (by first | exact hv0 | exact hv1 | exact hv2 | exact hv3) dL_law_466 ?_
                            refine g_callVi C 0 [.int (xs (Int32.toNatClampNeg (v3 + (nI 1)))), .int (xs (Int32.toNatClampNeg (v3 + (nI 2))))] (c_X8_lost l D cy ad b0 C.A (xs (Int32.toNatClampNeg (v3 + (nI 1)))) (xs (Int32.toNatClampNeg (v3 + (nI 2))))) cal_X8_lost mw_808 (by decide) rfl rfl ⟨Nat.le_of_ble_eq_true rfl, Nat.le_of_ble_eq_true rfl⟩ ⟨rfl, rfl⟩ ⟨Nat.le_of_ble_eq_true rfl, Nat.le_of_ble_eq_true rfl⟩ (Nat.le_of_ble_eq_true rfl) rfl dL_law_467 (op_lost _ _ σ I) (fun r45 σ46 h => ?_)
                            refine g_aload_n C dL_law_470 rfl ?_
                            refine g_aload_n C dL_law_471 rfl ?_
                            refine g_iload_n C dL_law_472 rfl ?_
                            refine g_iconst C dL_law_473 kc_1 ?_
                            refine g_iadd C dL_law_474 ?_
                            refine g_sld C X (by first | exact hv0 | exact hv1 | exact hv2 | exact hv3) dL_law_475 ?_
                            refine g_aload_n C dL_law_476 rfl ?_
                            refine g_iload_n C dL_law_477 rfl ?_
                            refine g_iconst C dL_law_478 kc_2 ?_
                            refine g_iadd C dL_law_479 ?_
                            refine g_sld C X (by first | exact hv0 | exact hv1 | exact hv2 | exact hv3) dL_law_480 ?_
                            refine g_callVi C 10 [.int (xs (Int32.toNatClampNeg (v3 + (nI 1)))), .int (xs (Int32.toNatClampNeg (v3 + (nI 2))))] (c_X9_lost l D cy ad b0 C.A (xs (Int32.toNatClampNeg (v3 + (nI 1)))) (xs (Int32.toNatClampNeg (v3 + (nI 2))))) cal_X9_lost mw_820 (by decide) rfl rfl ⟨Nat.le_of_ble_eq_true rfl, Nat.le_of_ble_eq_true rfl⟩ ⟨rfl, rfl⟩ ⟨Nat.le_of_ble_eq_true rfl, Nat.le_of_ble_eq_true rfl⟩ (Nat.le_of_ble_eq_true rfl) rfl dL_law_481 h (fun r47 σ48 h => ?_)
                            refine g_icmp_eq C 676 dL_law_484 (by decide) (fun c484 => ?_) (fun c484 => ?_)
                            · skip
                              exact k_L_law_676 C X v3 K18 hK18 σ48 (fun x e => by rw [e]; exact hK _ h.2)
                            · skip
                              refine g_iconst C dL_law_487 kc_0 ?_
                              exact absurd h.1 c484
                          · skip
                            refine dite_case (((xs (Int32.toNatClampNeg v3)) &&& (nI 31)) = (nI 12)) (fun c32_12 => ?_) (fun c32_12 => ?_)
                            · skip
                              refine g_tsw C 489 (off := 457) dL_law_32 (tsel_at c32_12 (by decide)) (by decide) ?_
                              refine g_aload_n C dL_law_489 rfl ?_
                              refine g_aload_n C dL_law_490 rfl ?_
                              refine g_iload_n C dL_law_491 rfl ?_
                              refine g_iconst C dL_law_492 kc_1 ?_
                              refine g_iadd C dL_law_493 ?_
                              refine g_sld C X (by first | exact hv0 | exact hv1 | exact hv2 | exact hv3) dL_law_494 ?_
                              refine g_callVi C 0 [.int (xs (Int32.toNatClampNeg (v3 + (nI 1))))] (c_X8_told l D cy ad b0 C.A (xs (Int32.toNatClampNeg (v3 + (nI 1))))) cal_X8_told mw_825 (by decide) rfl rfl ⟨Nat.le_of_ble_eq_true rfl, Nat.le_of_ble_eq_true rfl⟩ ⟨rfl, rfl⟩ ⟨Nat.le_of_ble_eq_true rfl, Nat.le_of_ble_eq_true rfl⟩ (Nat.le_of_ble_eq_true rfl) rfl dL_law_495 (op_told _ σ I) (fun r49 σ50 h => ?_)
                              refine g_aload_n C dL_law_498 rfl ?_
                              refine g_aload_n C dL_law_499 rfl ?_
                              refine g_iload_n C dL_law_500 rfl ?_
                              refine g_iconst C dL_law_501 kc_1 ?_
                              refine g_iadd C dL_law_502 ?_
                              refine g_sld C X (by first | exact hv0 | exact hv1 | exact hv2 | exact hv3) dL_law_503 ?_
                              refine g_callVi C 10 [.int (xs (Int32.toNatClampNeg (v3 + (nI 1))))] (c_X9_told l D cy ad b0 C.A (xs (Int32.toNatClampNeg (v3 + (nI 1))))) cal_X9_told mw_830 (by decide) rfl rfl ⟨Nat.le_of_ble_eq_true rfl, Nat.le_of_ble_eq_true rfl⟩ ⟨rfl, rfl⟩ ⟨Nat.le_of_ble_eq_true rfl, Nat.le_of_ble_eq_true rfl⟩ (Nat.le_of_ble_eq_true rfl) rfl dL_law_504 h (fun r51 σ52 h => ?_)
                              refine g_icmp_eq C 676 dL_law_507 (by decide) (fun c507 => ?_) (fun c507 => ?_)
                              · skip
                                exact k_L_law_676 C X v3 K18 hK18 σ52 (fun x e => by rw [e]; exact hK _ h.2)
                              · skip
                                refine g_iconst C dL_law_510 kc_0 ?_
                                exact absurd h.1 c507
                            · skip
                              refine dite_case (((xs (Int32.toNatClampNeg v3)) &&& (nI 31)) = (nI 13)) (fun c32_13 => ?_) (fun c32_13 => ?_)
                              · skip
                                refine g_tsw C 512 (off := 480) dL_law_32 (tsel_at c32_13 (by decide)) (by decide) ?_
                                refine g_aload_n C dL_law_512 rfl ?_
                                refine g_aload_n C dL_law_513 rfl ?_
                                refine g_iload_n C dL_law_514 rfl ?_
                                refine g_iconst C dL_law_515 kc_1 ?_
                                refine g_iadd C dL_law_516 ?_
                                refine g_sld C X (by first | exact hv0 | exact hv1 | exact hv2 | exact hv3) dL_law_517 ?_
                                refine g_callVi C 0 [.int (xs (Int32.toNatClampNeg (v3 + (nI 1))))] (c_X8_may l D cy ad b0 C.A (xs (Int32.toNatClampNeg (v3 + (nI 1))))) cal_X8_may mw_834 (by decide) rfl rfl ⟨Nat.le_of_ble_eq_true rfl, Nat.le_of_ble_eq_true rfl⟩ ⟨rfl, rfl⟩ ⟨Nat.le_of_ble_eq_true rfl, Nat.le_of_ble_eq_true rfl⟩ (Nat.le_of_ble_eq_true rfl) rfl dL_law_518 (op_may _ σ I) (fun r53 σ54 h => ?_)
                                refine g_aload_n C dL_law_521 rfl ?_
                                refine g_aload_n C dL_law_522 rfl ?_
                                refine g_iload_n C dL_law_523 rfl ?_
                                refine g_iconst C dL_law_524 kc_1 ?_
                                refine g_iadd C dL_law_525 ?_
                                refine g_sld C X (by first | exact hv0 | exact hv1 | exact hv2 | exact hv3) dL_law_526 ?_
                                refine g_callVi C 10 [.int (xs (Int32.toNatClampNeg (v3 + (nI 1))))] (c_X9_may l D cy ad b0 C.A (xs (Int32.toNatClampNeg (v3 + (nI 1))))) cal_X9_may mw_849 (by decide) rfl rfl ⟨Nat.le_of_ble_eq_true rfl, Nat.le_of_ble_eq_true rfl⟩ ⟨rfl, rfl⟩ ⟨Nat.le_of_ble_eq_true rfl, Nat.le_of_ble_eq_true rfl⟩ (Nat.le_of_ble_eq_true rfl) rfl dL_law_527 h (fun r55 σ56 h => ?_)
                                refine g_icmp_eq C 676 dL_law_530 (by decide) (fun c530 => ?_) (fun c530 => ?_)
                                · skip
                                  exact k_L_law_676 C X v3 K18 hK18 σ56 (fun x e => by rw [e]; exact hK _ h.2)
                                · skip
                                  refine g_iconst C dL_law_533 kc_0 ?_
                                  exact absurd h.1 c530
                              · skip
                                refine dite_case (((xs (Int32.toNatClampNeg v3)) &&& (nI 31)) = (nI 14)) (fun c32_14 => ?_) (fun c32_14 => ?_)
                                · skip
                                  refine g_tsw C 535 (off := 503) dL_law_32 (tsel_at c32_14 (by decide)) (by decide) ?_
                                  refine g_aload_n C dL_law_535 rfl ?_
                                  refine g_aload_n C dL_law_536 rfl ?_
                                  refine g_iload_n C dL_law_537 rfl ?_
                                  refine g_iconst C dL_law_538 kc_1 ?_
                                  refine g_iadd C dL_law_539 ?_
                                  refine g_sld C X (by first | exact hv0 | exact hv1 | exact hv2 | exact hv3) dL_law_540 ?_
                                  refine g_aload_n C dL_law_541 rfl ?_
                                  refine g_iload_n C dL_law_542 rfl ?_
                                  refine g_iconst C dL_law_543 kc_2 ?_
                                  refine g_iadd C dL_law_544 ?_
                                  refine g_sld C X (by first | exact hv0 | exact hv1 | exact hv2 | exact hv3) dL_law_545 ?_
                                  refine g_callVi C 0 [.int (xs (Int32.toNatClampNeg (v3 + (nI 1)))), .int (xs (Int32.toNatClampNeg (v3 + (nI 2))))] (c_X8_state l D cy ad b0 C.A (xs (Int32.toNatClampNeg (v3 + (nI 1)))) (xs (Int32.toNatClampNeg (v3 + (nI 2))))) cal_X8_state mw_853 (by decide) rfl rfl ⟨Nat.le_of_ble_eq_true rfl, Nat.le_of_ble_eq_true rfl⟩ ⟨rfl, rfl⟩ ⟨Nat.le_of_ble_eq_true rfl, Nat.le_of_ble_eq_true rfl⟩ (Nat.le_of_ble_eq_true rfl) rfl dL_law_546 (op_state _ _ σ I) (fun r57 σ58 h => ?_)
                                  refine g_aload_n C dL_law_549 rfl ?_
                                  refine g_aload_n C dL_law_550 rfl ?_
                                  refine g_iload_n C dL_law_551 rfl ?_
                                  refine g_iconst C dL_law_552 kc_1 ?_
                                  refine g_iadd C dL_law_553 ?_
                                  refine g_sld C X (by first | exact hv0 | exact hv1 | exact hv2 | exact hv3) dL_law_554 ?_
                                  refine g_aload_n C dL_law_555 rfl ?_
                                  refine g_iload_n C dL_law_556 rfl ?_
                                  refine g_iconst C dL_law_557 kc_2 ?_
                                  refine g_iadd C dL_law_558 ?_
                                  refine g_sld C X (by first | exact hv0 | exact hv1 | exact hv2 | exact hv3) dL_law_559 ?_
                                  refine g_callVi C 10 [.int (xs (Int32.toNatClampNeg (v3 + (nI 1)))), .int (xs (Int32.toNatClampNeg (v3 + (nI 2))))] (c_X9_state_ l D cy ad b0 C.A (xs (Int32.toNatClampNeg (v3 + (nI 1)))) (xs (Int32.toNatClampNeg (v3 + (nI 2))))) cal_X9_state_ mw_861 (by decide) rfl rfl ⟨Nat.le_of_ble_eq_true rfl, Nat.le_of_ble_eq_true rfl⟩ ⟨rfl, rfl⟩ ⟨Nat.le_of_ble_eq_true rfl, Nat.le_of_ble_eq_true rfl⟩ (Nat.le_of_ble_eq_true rfl) rfl dL_law_560 h (fun r59 σ60 h => ?_)
                                  refine g_icmp_eq C 676 dL_law_563 (by decide) (fun c563 => ?_) (fun c563 => ?_)
                                  · skip
                                    exact k_L_law_676 C X v3 K18 hK18 σ60 (fun x e => by rw [e]; exact hK _ h.2)
                                  · skip
                                    refine g_iconst C dL_law_566 kc_0 ?_
                                    exact absurd h.1 c563
                                · skip
                                  refine dite_case (((xs (Int32.toNatClampNeg v3)) &&& (nI 31)) = (nI 15)) (fun c32_15 => ?_) (fun c32_15 => ?_)
                                  · skip
                                    refine g_tsw C 568 (off := 536) dL_law_32 (tsel_at c32_15 (by decide)) (by decide) ?_
                                    refine g_aload_n C dL_law_568 rfl ?_
                                    refine g_aload_n C dL_law_569 rfl ?_
                                    refine g_iload_n C dL_law_570 rfl ?_
                                    refine g_iconst C dL_law_571 kc_1 ?_
                                    refine g_iadd C dL_law_572 ?_
                                    refine g_sld C X (by first | exact hv0 | exact hv1 | exact hv2 | exact hv3) dL_law_573 ?_
                                    refine g_callVi C 0 [.int (xs (Int32.toNatClampNeg (v3 + (nI 1))))] (c_X8_events l D cy ad b0 C.A (xs (Int32.toNatClampNeg (v3 + (nI 1))))) cal_X8_events mw_865 (by decide) rfl rfl ⟨Nat.le_of_ble_eq_true rfl, Nat.le_of_ble_eq_true rfl⟩ ⟨rfl, rfl⟩ ⟨Nat.le_of_ble_eq_true rfl, Nat.le_of_ble_eq_true rfl⟩ (Nat.le_of_ble_eq_true rfl) rfl dL_law_574 (op_events _ σ I) (fun r61 σ62 h => ?_)
                                    refine g_aload_n C dL_law_577 rfl ?_
                                    refine g_aload_n C dL_law_578 rfl ?_
                                    refine g_iload_n C dL_law_579 rfl ?_
                                    refine g_iconst C dL_law_580 kc_1 ?_
                                    refine g_iadd C dL_law_581 ?_
                                    refine g_sld C X (by first | exact hv0 | exact hv1 | exact hv2 | exact hv3) dL_law_582 ?_
                                    refine g_callVi C 10 [.int (xs (Int32.toNatClampNeg (v3 + (nI 1))))] (c_X9_events l D cy ad b0 C.A (xs (Int32.toNatClampNeg (v3 + (nI 1))))) cal_X9_events mw_873 (by decide) rfl rfl ⟨Nat.le_of_ble_eq_true rfl, Nat.le_of_ble_eq_true rfl⟩ ⟨rfl, rfl⟩ ⟨Nat.le_of_ble_eq_true rfl, Nat.le_of_ble_eq_true rfl⟩ (Nat.le_of_ble_eq_true rfl) rfl dL_law_583 h (fun r63 σ64 h => ?_)
                                    refine g_icmp_eq C 676 dL_law_586 (by decide) (fun c586 => ?_) (fun c586 => ?_)
                                    · skip
                                      exact k_L_law_676 C X v3 K18 hK18 σ64 (fun x e => by rw [e]; exact hK _ h.2)
                                    · skip
                                      refine g_iconst C dL_law_589 kc_0 ?_
                                      exact absurd h.1 c586
                                  · skip
                                    refine dite_case (((xs (Int32.toNatClampNeg v3)) &&& (nI 31)) = (nI 16)) (fun c32_16 => ?_) (fun c32_16 => ?_)
                                    · skip
                                      refine g_tsw C 591 (off := 559) dL_law_32 (tsel_at c32_16 (by decide)) (by decide) ?_
                                      refine g_aload_n C dL_law_591 rfl ?_
                                      refine g_aload_n C dL_law_592 rfl ?_
                                      refine g_iload_n C dL_law_593 rfl ?_
                                      refine g_iconst C dL_law_594 kc_1 ?_
                                      refine g_iadd C dL_law_595 ?_
                                      refine g_sld C X (by first | exact hv0 | exact hv1 | exact hv2 | exact hv3) dL_law_596 ?_
                                      refine g_callVi C 0 [.int (xs (Int32.toNatClampNeg (v3 + (nI 1))))] (c_X8_anew l D cy ad b0 C.A (xs (Int32.toNatClampNeg (v3 + (nI 1))))) cal_X8_anew mw_877 (by decide) rfl rfl ⟨Nat.le_of_ble_eq_true rfl, Nat.le_of_ble_eq_true rfl⟩ ⟨rfl, rfl⟩ ⟨Nat.le_of_ble_eq_true rfl, Nat.le_of_ble_eq_true rfl⟩ (Nat.le_of_ble_eq_true rfl) rfl dL_law_597 (op_anew _ σ I) (fun r65 σ66 h => ?_)
                                      refine g_aload_n C dL_law_600 rfl ?_
                                      refine g_aload_n C dL_law_601 rfl ?_
                                      refine g_iload_n C dL_law_602 rfl ?_
                                      refine g_iconst C dL_law_603 kc_1 ?_
                                      refine g_iadd C dL_law_604 ?_
                                      refine g_sld C X (by first | exact hv0 | exact hv1 | exact hv2 | exact hv3) dL_law_605 ?_
                                      refine g_callVi C 10 [.int (xs (Int32.toNatClampNeg (v3 + (nI 1))))] (c_X9_anew l D cy ad b0 C.A (xs (Int32.toNatClampNeg (v3 + (nI 1))))) cal_X9_anew mw_882 (by decide) rfl rfl ⟨Nat.le_of_ble_eq_true rfl, Nat.le_of_ble_eq_true rfl⟩ ⟨rfl, rfl⟩ ⟨Nat.le_of_ble_eq_true rfl, Nat.le_of_ble_eq_true rfl⟩ (Nat.le_of_ble_eq_true rfl) rfl dL_law_606 h (fun r67 σ68 h => ?_)
                                      refine g_icmp_eq C 676 dL_law_609 (by decide) (fun c609 => ?_) (fun c609 => ?_)
                                      · skip
                                        exact k_L_law_676 C X v3 K18 hK18 σ68 (fun x e => by rw [e]; exact hK _ h.2)
                                      · skip
                                        refine g_iconst C dL_law_612 kc_0 ?_
                                        exact absurd h.1 c609
                                    · skip
                                      refine dite_case (((xs (Int32.toNatClampNeg v3)) &&& (nI 31)) = (nI 17)) (fun c32_17 => ?_) (fun c32_17 => ?_)
                                      · skip
                                        refine g_tsw C 614 (off := 582) dL_law_32 (tsel_at c32_17 (by decide)) (by decide) ?_
                                        refine g_aload_n C dL_law_614 rfl ?_
                                        refine g_callVi C 0 [] (c_X8_keep l D cy ad b0 C.A) cal_X8_keep mw_886 (by decide) rfl rfl ⟨Nat.le_of_ble_eq_true rfl, Nat.le_of_ble_eq_true rfl⟩ ⟨rfl, rfl⟩ ⟨Nat.le_of_ble_eq_true rfl, Nat.le_of_ble_eq_true rfl⟩ (Nat.le_of_ble_eq_true rfl) rfl dL_law_615 (op_keep σ I) (fun r69 σ70 h => ?_)
                                        refine g_aload_n C dL_law_618 rfl ?_
                                        refine g_callVi C 10 [] (c_X9_keep l D cy ad b0 C.A) cal_X9_keep mw_898 (by decide) rfl rfl ⟨Nat.le_of_ble_eq_true rfl, Nat.le_of_ble_eq_true rfl⟩ ⟨rfl, rfl⟩ ⟨Nat.le_of_ble_eq_true rfl, Nat.le_of_ble_eq_true rfl⟩ (Nat.le_of_ble_eq_true rfl) rfl dL_law_619 h (fun r71 σ72 h => ?_)
                                        refine g_icmp_eq C 676 dL_law_622 (by decide) (fun c622 => ?_) (fun c622 => ?_)
                                        · skip
                                          exact k_L_law_676 C X v3 K18 hK18 σ72 (fun x e => by rw [e]; exact hK _ h.2)
                                        · skip
                                          refine g_iconst C dL_law_625 kc_0 ?_
                                          exact absurd h.1 c622
                                      · skip
                                        refine dite_case (((xs (Int32.toNatClampNeg v3)) &&& (nI 31)) = (nI 18)) (fun c32_18 => ?_) (fun c32_18 => ?_)
                                        · skip
                                          refine g_tsw C 627 (off := 595) dL_law_32 (tsel_at c32_18 (by decide)) (by decide) ?_
                                          refine g_aload_n C dL_law_627 rfl ?_
                                          refine g_callVi C 0 [] (c_X8_against l D cy ad b0 C.A) cal_X8_against mw_904 (by decide) rfl rfl ⟨Nat.le_of_ble_eq_true rfl, Nat.le_of_ble_eq_true rfl⟩ ⟨rfl, rfl⟩ ⟨Nat.le_of_ble_eq_true rfl, Nat.le_of_ble_eq_true rfl⟩ (Nat.le_of_ble_eq_true rfl) rfl dL_law_628 (op_against σ I) (fun r73 σ74 h => ?_)
                                          refine g_aload_n C dL_law_631 rfl ?_
                                          refine g_callVi C 10 [] (c_X9_against l D cy ad b0 C.A) cal_X9_against mw_927 (by decide) rfl rfl ⟨Nat.le_of_ble_eq_true rfl, Nat.le_of_ble_eq_true rfl⟩ ⟨rfl, rfl⟩ ⟨Nat.le_of_ble_eq_true rfl, Nat.le_of_ble_eq_true rfl⟩ (Nat.le_of_ble_eq_true rfl) rfl dL_law_632 h (fun r75 σ76 h => ?_)
                                          refine g_icmp_eq C 676 dL_law_635 (by decide) (fun c635 => ?_) (fun c635 => ?_)
                                          · skip
                                            exact k_L_law_676 C X v3 K18 hK18 σ76 (fun x e => by rw [e]; exact hK _ h.2)
                                          · skip
                                            refine g_iconst C dL_law_638 kc_0 ?_
                                            exact absurd h.1 c635
                                        · skip
                                          refine dite_case (((xs (Int32.toNatClampNeg v3)) &&& (nI 31)) = (nI 19)) (fun c32_19 => ?_) (fun c32_19 => ?_)
                                          · skip
                                            refine g_tsw C 640 (off := 608) dL_law_32 (tsel_at c32_19 (by decide)) (by decide) ?_
                                            refine g_aload_n C dL_law_640 rfl ?_
                                            refine g_callVi C 0 [] (c_X8_apart l D cy ad b0 C.A) cal_X8_apart mw_940 (by decide) rfl rfl ⟨Nat.le_of_ble_eq_true rfl, Nat.le_of_ble_eq_true rfl⟩ ⟨rfl, rfl⟩ ⟨Nat.le_of_ble_eq_true rfl, Nat.le_of_ble_eq_true rfl⟩ (Nat.le_of_ble_eq_true rfl) rfl dL_law_641 (op_apart σ I) (fun r77 σ78 h => ?_)
                                            refine g_aload_n C dL_law_644 rfl ?_
                                            refine g_callVi C 10 [] (c_X9_apart l D cy ad b0 C.A) cal_X9_apart mw_948 (by decide) rfl rfl ⟨Nat.le_of_ble_eq_true rfl, Nat.le_of_ble_eq_true rfl⟩ ⟨rfl, rfl⟩ ⟨Nat.le_of_ble_eq_true rfl, Nat.le_of_ble_eq_true rfl⟩ (Nat.le_of_ble_eq_true rfl) rfl dL_law_645 h (fun r79 σ80 h => ?_)
                                            refine g_icmp_eq C 676 dL_law_648 (by decide) (fun c648 => ?_) (fun c648 => ?_)
                                            · skip
                                              exact k_L_law_676 C X v3 K18 hK18 σ80 (fun x e => by rw [e]; exact hK _ h.2)
                                            · skip
                                              refine g_iconst C dL_law_651 kc_0 ?_
                                              exact absurd h.1 c648
                                          · skip
                                            refine dite_case (((xs (Int32.toNatClampNeg v3)) &&& (nI 31)) = (nI 20)) (fun c32_20 => ?_) (fun c32_20 => ?_)
                                            · skip
                                              refine g_tsw C 653 (off := 621) dL_law_32 (tsel_at c32_20 (by decide)) (by decide) ?_
                                              refine g_aload_n C dL_law_653 rfl ?_
                                              refine g_aload_n C dL_law_654 rfl ?_
                                              refine g_iload_n C dL_law_655 rfl ?_
                                              refine g_iconst C dL_law_656 kc_1 ?_
                                              refine g_iadd C dL_law_657 ?_
                                              refine g_sld C X (by first | exact hv0 | exact hv1 | exact hv2 | exact hv3) dL_law_658 ?_
                                              refine g_callVi C 0 [.int (xs (Int32.toNatClampNeg (v3 + (nI 1))))] (c_X8_count l D cy ad b0 C.A (xs (Int32.toNatClampNeg (v3 + (nI 1))))) cal_X8_count mw_952 (by decide) rfl rfl ⟨Nat.le_of_ble_eq_true rfl, Nat.le_of_ble_eq_true rfl⟩ ⟨rfl, rfl⟩ ⟨Nat.le_of_ble_eq_true rfl, Nat.le_of_ble_eq_true rfl⟩ (Nat.le_of_ble_eq_true rfl) rfl dL_law_659 (op_count _ σ I) (fun r81 σ82 h => ?_)
                                              refine g_aload_n C dL_law_662 rfl ?_
                                              refine g_aload_n C dL_law_663 rfl ?_
                                              refine g_iload_n C dL_law_664 rfl ?_
                                              refine g_iconst C dL_law_665 kc_1 ?_
                                              refine g_iadd C dL_law_666 ?_
                                              refine g_sld C X (by first | exact hv0 | exact hv1 | exact hv2 | exact hv3) dL_law_667 ?_
                                              refine g_callVi C 10 [.int (xs (Int32.toNatClampNeg (v3 + (nI 1))))] (c_X9_count l D cy ad b0 C.A (xs (Int32.toNatClampNeg (v3 + (nI 1))))) cal_X9_count mw_968 (by decide) rfl rfl ⟨Nat.le_of_ble_eq_true rfl, Nat.le_of_ble_eq_true rfl⟩ ⟨rfl, rfl⟩ ⟨Nat.le_of_ble_eq_true rfl, Nat.le_of_ble_eq_true rfl⟩ (Nat.le_of_ble_eq_true rfl) rfl dL_law_668 h (fun r83 σ84 h => ?_)
                                              refine g_icmp_eq C 676 dL_law_671 (by decide) (fun c671 => ?_) (fun c671 => ?_)
                                              · skip
                                                exact k_L_law_676 C X v3 K18 hK18 σ84 (fun x e => by rw [e]; exact hK _ h.2)
                                              · skip
                                                refine g_iconst C dL_law_674 kc_0 ?_
                                                exact absurd h.1 c671
                                            · skip
                                              refine g_tsw C 676 (off := 644) dL_law_32 (tsel_df [0, 1, 2, 3, 4, 5, 6, 7, 8, 9, 10, 11, 12, 13, 14, 15, 16, 17, 18, 19, 20] (by decide) (by decide) (List.forall_mem_cons.mpr ⟨lv_neT c32_0 (by decide), List.forall_mem_cons.mpr ⟨lv_neT c32_1 (by decide), List.forall_mem_cons.mpr ⟨lv_neT c32_2 (by decide), List.forall_mem_cons.mpr ⟨lv_neT c32_3 (by decide), List.forall_mem_cons.mpr ⟨lv_neT c32_4 (by decide), List.forall_mem_cons.mpr ⟨lv_neT c32_5 (by decide), List.forall_mem_cons.mpr ⟨lv_neT c32_6 (by decide), List.forall_mem_cons.mpr ⟨lv_neT c32_7 (by decide), List.forall_mem_cons.mpr ⟨lv_neT c32_8 (by decide), List.forall_mem_cons.mpr ⟨lv_neT c32_9 (by decide), List.forall_mem_cons.mpr ⟨lv_neT c32_10 (by decide), List.forall_mem_cons.mpr ⟨lv_neT c32_11 (by decide), List.forall_mem_cons.mpr ⟨lv_neT c32_12 (by decide), List.forall_mem_cons.mpr ⟨lv_neT c32_13 (by decide), List.forall_mem_cons.mpr ⟨lv_neT c32_14 (by decide), List.forall_mem_cons.mpr ⟨lv_neT c32_15 (by decide), List.forall_mem_cons.mpr ⟨lv_neT c32_16 (by decide), List.forall_mem_cons.mpr ⟨lv_neT c32_17 (by decide), List.forall_mem_cons.mpr ⟨lv_neT c32_18 (by decide), List.forall_mem_cons.mpr ⟨lv_neT c32_19 (by decide), List.forall_mem_cons.mpr ⟨lv_neT c32_20 (by decide), fun _ h => absurd h List.not_mem_nil⟩⟩⟩⟩⟩⟩⟩⟩⟩⟩⟩⟩⟩⟩⟩⟩⟩⟩⟩⟩⟩)) (by decide) ?_
                                              exact k_L_law_676 C X v3 K18 hK18 σ (fun x e => by rw [e]; exact hK _ I)
def wl_L_law_18 (L : Nat) (xs : Nat → Int32) : Nat → Int32 → Sg → Prop
  | 0, _, _ => False
  | n + 1, v3, σ => wb_L_law_18 L xs v3 (wl_L_law_18 L xs n) σ
set_option maxHeartbeats 4000000 in
set_option maxRecDepth 100000 in
theorem kl_L_law_18  {b L : Nat} {xs : Nat → Int32} (C : Cx p s m #[Value.ref b] meth c D cy ad b0 yL_law code 4 ret) (X : va_X b L xs s s.heap ∧ b < s.heap.size ∧ b0 = s.heap.size) : ∀ (n : Nat) (v3 : Int32) (σ : Sg), wl_L_law_18 L xs n v3 σ → gw p l e room_1 s m #[Value.ref b] below meth c D cy ad b0 87 125045 (lw_Z below #[Value.ref b] s) 4 18 σ [some (.ref b), some (.ref (ad 0)), some (.ref (ad 10)), some (.int v3)] [] := by
  intro n
  induction n with
  | zero => intro v3 σ h; exact False.elim h
  | succ n ih =>
    intro v3 σ h
    exact kb_L_law_18 C X v3 (wl_L_law_18 L xs n) (fun z3 σ h => ih z3 σ h) σ h
end
