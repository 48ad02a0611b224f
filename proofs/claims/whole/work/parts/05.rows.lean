/-! ===== rows over the layer: one an instruction ===== -/
def Cx (p : Program) (s : State) (m : MethodId) (args : Array Value) (meth : Method) (c : Code) (D : va_G) (cy : Nat → ClassId) (ad : Nat → Nat) (b0 : Nat) (y : MethodName) (cc : ByteArray) (nL : Nat) (ret : Option FieldType) : Prop :=
  p.tables.exec = Jvm.exec ∧ c.code = cc ∧ c.maxLocals = nL ∧ meth.sig.returnType = ret ∧ s.vm.findClass y.cls = some m.cls ∧ (∀ w ∈ wsG, w.before args s = true) ∧ (∀ w ∈ nestW, va_Nw w s) ∧ va_K D vwCl (tysW cy) s ∧ AdOk ad b0 ∧ meth.locks = false
def gw (p : Program) (l : Launch) (e : Env) (R : Room) (s : State) (m : MethodId) (args : Array Value) (below : List Frame) (meth : Method) (c : Code) (D : va_G) (cy : Nat → ClassId) (ad : Nat → Nat) (b0 : Nat) (cl sl : Nat) (Q : State → Prop) (nL pc : Nat) (σ : Sg) (loc : List (Option Value)) (st : List Value) : Prop :=
  ∀ (H : Heap) (locs : List Loc) (ls : Array Slot), va_P D vwCl (wld ad cy σ) H → va_S (fun q => b0 ≤ q) s.heap H locs → lvp ls nL loc → W p l e R s m args below meth c H locs cl sl Q (F0 m pc ls st)
theorem inW (o : Nat) (ho : o < 11) : ∀ w ∈ u_ws (clE o).1 (clE o).2.1 (clE o).2.2, w ∈ wsG := by
  match o, ho with
  | 0, _ => exact inlX8
  | 1, _ => exact inlX5
  | 2, _ => exact inlX6
  | 3, _ => exact inlX0
  | 4, _ => exact inlX4
  | 5, _ => exact inlX2
  | 6, _ => exact inlX7
  | 7, _ => exact inlX7
  | 8, _ => exact inlX3
  | 9, _ => exact inlX1
  | 10, _ => exact inlX9
def tyO (o : Nat) : Nat → FieldType := match oc o with
  | 0 => tyX0
  | 1 => tyX1
  | 2 => tyX2
  | 3 => tyX3
  | 4 => tyX4
  | 5 => tyX5
  | 6 => tyX6
  | 7 => tyX7
  | 8 => tyX8
  | _ => tyX9
theorem tyO_ok (o : Nat) (ho : o < 11) : ∀ k, k < (clE o).2.2 → parseFieldDescriptor ((clE o).2.1 k).2.2.1 = some (tyO o k) := by
  match o, ho with
  | 0, _ => exact tyX8_ok
  | 1, _ => exact tyX5_ok
  | 2, _ => exact tyX6_ok
  | 3, _ => exact tyX0_ok
  | 4, _ => exact tyX4_ok
  | 5, _ => exact tyX2_ok
  | 6, _ => exact tyX7_ok
  | 7, _ => exact tyX7_ok
  | 8, _ => exact tyX3_ok
  | 9, _ => exact tyX1_ok
  | 10, _ => exact tyX9_ok
theorem nmO (o : Nat) (ho : o < 11) : ∀ a, a < (clE o).2.2 → ∀ b, b < (clE o).2.2 → a ≠ b → ((clE o).2.1 a).2.1 ≠ ((clE o).2.1 b).2.1 := by
  match o, ho with
  | 0, _ => exact nmX8
  | 1, _ => exact nmX5
  | 2, _ => exact nmX6
  | 3, _ => exact nmX0
  | 4, _ => exact nmX4
  | 5, _ => exact nmX2
  | 6, _ => exact nmX7
  | 7, _ => exact nmX7
  | 8, _ => exact nmX3
  | 9, _ => exact nmX1
  | 10, _ => exact nmX9
theorem clO (o : Nat) (ho : o < 11) : vwCl[oc o]? = some (clE o) := by
  match o, ho with
  | 0, _ => rfl
  | 1, _ => rfl
  | 2, _ => rfl
  | 3, _ => rfl
  | 4, _ => rfl
  | 5, _ => rfl
  | 6, _ => rfl
  | 7, _ => rfl
  | 8, _ => rfl
  | 9, _ => rfl
  | 10, _ => rfl
theorem nFO (o : Nat) (ho : o < 11) : (clE o).2.2 = nF o := by
  match o, ho with
  | 0, _ => rfl
  | 1, _ => rfl
  | 2, _ => rfl
  | 3, _ => rfl
  | 4, _ => rfl
  | 5, _ => rfl
  | 6, _ => rfl
  | 7, _ => rfl
  | 8, _ => rfl
  | 9, _ => rfl
  | 10, _ => rfl
theorem oF_get {ad : Nat → Nat} {σ : Sg} {o k : Nat} (h : k < nF o) : (oF ad σ o)[k]? = some (fV ad σ o k) := by
  unfold oF
  rw [List.getElem?_map, List.getElem?_range h]
  rfl
theorem tys_at {cy : Nat → ClassId} {k : Nat} (h : k < 4) : (tysW cy)[k]? = some (cy k, ftK k) := by
  match k, h with
  | 0, _ => rfl
  | 1, _ => rfl
  | 2, _ => rfl
  | 3, _ => rfl
section GW
variable {p : Program} {l : Launch} {e : Env} {R : Room} {s : State} {m : MethodId} {args : Array Value} {below : List Frame} {meth : Method} {c : Code} {D : va_G} {cy : Nat → ClassId} {ad : Nat → Nat} {b0 cl sl : Nat} {Q : State → Prop} {nL pc : Nat} {σ : Sg} {loc : List (Option Value)} {st : List Value} {y : MethodName} {cc : ByteArray} {ret : Option FieldType}
theorem Cx.x (C : Cx p s m args meth c D cy ad b0 y cc nL ret) : p.tables.exec = Jvm.exec := C.1
theorem Cx.b (C : Cx p s m args meth c D cy ad b0 y cc nL ret) : c.code = cc := C.2.1
theorem Cx.ml (C : Cx p s m args meth c D cy ad b0 y cc nL ret) : c.maxLocals = nL := C.2.2.1
theorem Cx.r (C : Cx p s m args meth c D cy ad b0 y cc nL ret) : meth.sig.returnType = ret := C.2.2.2.1
theorem Cx.o (C : Cx p s m args meth c D cy ad b0 y cc nL ret) : s.vm.findClass y.cls = some m.cls := C.2.2.2.2.1
theorem Cx.ts (C : Cx p s m args meth c D cy ad b0 y cc nL ret) : ∀ w ∈ wsG, w.before args s = true := C.2.2.2.2.2.1
theorem Cx.n (C : Cx p s m args meth c D cy ad b0 y cc nL ret) : ∀ w ∈ nestW, va_Nw w s := C.2.2.2.2.2.2.1
theorem Cx.K (C : Cx p s m args meth c D cy ad b0 y cc nL ret) : va_K D vwCl (tysW cy) s := C.2.2.2.2.2.2.2.1
theorem Cx.A (C : Cx p s m args meth c D cy ad b0 y cc nL ret) : AdOk ad b0 := C.2.2.2.2.2.2.2.2.1
theorem Cx.lk (C : Cx p s m args meth c D cy ad b0 y cc nL ret) : meth.locks = false := C.2.2.2.2.2.2.2.2.2
theorem g_iconst (C : Cx p s m args meth c D cy ad b0 y cc nL ret) {n : Int} {v : Int32} (hd : decode cc pc = .ok (.iconst n, 1)) (hv : Int32.ofInt n = v) (k : gw p l e R s m args below meth c D cy ad b0 cl sl Q nL (pc + 1) σ loc (.int v :: st)) : gw p l e R s m args below meth c D cy ad b0 cl sl Q nL pc σ loc st := fun H locs ls hP hS hl => lv_iconst C.x C.b hd hv (k H locs ls hP hS hl)
theorem g_bipush (C : Cx p s m args meth c D cy ad b0 y cc nL ret) {n : Int} {v : Int32} (hd : decode cc pc = .ok (.bipush n, 2)) (hv : (Int8.ofInt n).toInt32 = v) (k : gw p l e R s m args below meth c D cy ad b0 cl sl Q nL (pc + 2) σ loc (.int v :: st)) : gw p l e R s m args below meth c D cy ad b0 cl sl Q nL pc σ loc st := fun H locs ls hP hS hl => lv_bipush C.x C.b hd hv (k H locs ls hP hS hl)
theorem g_sipush (C : Cx p s m args meth c D cy ad b0 y cc nL ret) {n : Int} {v : Int32} (hd : decode cc pc = .ok (.sipush n, 3)) (hv : (Int16.ofInt n).toInt32 = v) (k : gw p l e R s m args below meth c D cy ad b0 cl sl Q nL (pc + 3) σ loc (.int v :: st)) : gw p l e R s m args below meth c D cy ad b0 cl sl Q nL pc σ loc st := fun H locs ls hP hS hl => lv_sipush C.x C.b hd hv (k H locs ls hP hS hl)
theorem g_lconst (C : Cx p s m args meth c D cy ad b0 y cc nL ret) {n : Fin 2} {v : Int64} (hd : decode cc pc = .ok (.lconst n, 1)) (hv : Int64.ofNat (n : Nat) = v) (k : gw p l e R s m args below meth c D cy ad b0 cl sl Q nL (pc + 1) σ loc (.long v :: st)) : gw p l e R s m args below meth c D cy ad b0 cl sl Q nL pc σ loc st := fun H locs ls hP hS hl => lv_lconst C.x C.b hd hv (k H locs ls hP hS hl)
theorem g_ldc2 (C : Cx p s m args meth c D cy ad b0 y cc nL ret) {i : Nat} {v : Int64} (hw : Cond.constantLong y.cls i v ∈ wsG) (hd : decode cc pc = .ok (.ldc2_w i, 3)) (k : gw p l e R s m args below meth c D cy ad b0 cl sl Q nL (pc + 3) σ loc (.long v :: st)) : gw p l e R s m args below meth c D cy ad b0 cl sl Q nL pc σ loc st := fun H locs ls hP hS hl => lv_ldc2 C.x C.b C.o (C.ts _ hw) hd (k H locs ls hP hS hl)
theorem g_iload_n (C : Cx p s m args meth c D cy ad b0 y cc nL ret) {j : Fin 4} {x : Int32} (hd : decode cc pc = .ok (.iload_n j, 1)) (h : loc[(j : Nat)]? = some (some (.int x))) (k : gw p l e R s m args below meth c D cy ad b0 cl sl Q nL (pc + 1) σ loc (.int x :: st)) : gw p l e R s m args below meth c D cy ad b0 cl sl Q nL pc σ loc st := fun H locs ls hP hS hl => lv_iload_n C.x C.b hd rfl (lvp_at hl h) (k H locs ls hP hS hl)
theorem g_iload (C : Cx p s m args meth c D cy ad b0 y cc nL ret) {j : Nat} {x : Int32} (hd : decode cc pc = .ok (.iload j, 2)) (h : loc[j]? = some (some (.int x))) (k : gw p l e R s m args below meth c D cy ad b0 cl sl Q nL (pc + 2) σ loc (.int x :: st)) : gw p l e R s m args below meth c D cy ad b0 cl sl Q nL pc σ loc st := fun H locs ls hP hS hl => lv_iload C.x C.b hd (lvp_at hl h) (k H locs ls hP hS hl)
theorem g_istore_n (C : Cx p s m args meth c D cy ad b0 y cc nL ret) {j : Fin 4} {x : Int32} (loc2 : List (Option Value)) (hd : decode cc pc = .ok (.istore_n j, 1)) (hn : (j : Nat) < nL) (h : lset1 loc (j : Nat) (.int x) = loc2) (k : gw p l e R s m args below meth c D cy ad b0 cl sl Q nL (pc + 1) σ loc2 st) : gw p l e R s m args below meth c D cy ad b0 cl sl Q nL pc σ loc (.int x :: st) := fun H locs ls hP hS hl => lv_istore_n C.x C.b hd rfl hl hn rfl (fun ls2 hl2 => k H locs ls2 hP hS (h ▸ lvp_set1 hl2))
theorem g_istore (C : Cx p s m args meth c D cy ad b0 y cc nL ret) {j : Nat} {x : Int32} (loc2 : List (Option Value)) (hd : decode cc pc = .ok (.istore j, 2)) (hn : (j : Nat) < nL) (h : lset1 loc j (.int x) = loc2) (k : gw p l e R s m args below meth c D cy ad b0 cl sl Q nL (pc + 2) σ loc2 st) : gw p l e R s m args below meth c D cy ad b0 cl sl Q nL pc σ loc (.int x :: st) := fun H locs ls hP hS hl => lv_istore C.x C.b hd hl hn rfl (fun ls2 hl2 => k H locs ls2 hP hS (h ▸ lvp_set1 hl2))
theorem g_lload_n (C : Cx p s m args meth c D cy ad b0 y cc nL ret) {j : Fin 4} {x : Int64} (hd : decode cc pc = .ok (.lload_n j, 1)) (h : loc[(j : Nat)]? = some (some (.long x))) (k : gw p l e R s m args below meth c D cy ad b0 cl sl Q nL (pc + 1) σ loc (.long x :: st)) : gw p l e R s m args below meth c D cy ad b0 cl sl Q nL pc σ loc st := fun H locs ls hP hS hl => lv_lload_n C.x C.b hd rfl (lvp_at hl h) (k H locs ls hP hS hl)
theorem g_lload (C : Cx p s m args meth c D cy ad b0 y cc nL ret) {j : Nat} {x : Int64} (hd : decode cc pc = .ok (.lload j, 2)) (h : loc[j]? = some (some (.long x))) (k : gw p l e R s m args below meth c D cy ad b0 cl sl Q nL (pc + 2) σ loc (.long x :: st)) : gw p l e R s m args below meth c D cy ad b0 cl sl Q nL pc σ loc st := fun H locs ls hP hS hl => lv_lload C.x C.b hd (lvp_at hl h) (k H locs ls hP hS hl)
theorem g_lstore_n (C : Cx p s m args meth c D cy ad b0 y cc nL ret) {j : Fin 4} {x : Int64} (loc2 : List (Option Value)) (hd : decode cc pc = .ok (.lstore_n j, 1)) (hn : (j : Nat) + 1 < nL) (h : lset2 loc (j : Nat) (.long x) = loc2) (k : gw p l e R s m args below meth c D cy ad b0 cl sl Q nL (pc + 1) σ loc2 st) : gw p l e R s m args below meth c D cy ad b0 cl sl Q nL pc σ loc (.long x :: st) := fun H locs ls hP hS hl => lv_lstore_n C.x C.b hd rfl hl hn rfl (fun ls2 hl2 => k H locs ls2 hP hS (h ▸ lvp_set2 hl2))
theorem g_lstore (C : Cx p s m args meth c D cy ad b0 y cc nL ret) {j : Nat} {x : Int64} (loc2 : List (Option Value)) (hd : decode cc pc = .ok (.lstore j, 2)) (hn : (j : Nat) + 1 < nL) (h : lset2 loc j (.long x) = loc2) (k : gw p l e R s m args below meth c D cy ad b0 cl sl Q nL (pc + 2) σ loc2 st) : gw p l e R s m args below meth c D cy ad b0 cl sl Q nL pc σ loc (.long x :: st) := fun H locs ls hP hS hl => lv_lstore C.x C.b hd hl hn rfl (fun ls2 hl2 => k H locs ls2 hP hS (h ▸ lvp_set2 hl2))
theorem g_aload_n (C : Cx p s m args meth c D cy ad b0 y cc nL ret) {j : Fin 4} {x : Nat} (hd : decode cc pc = .ok (.aload_n j, 1)) (h : loc[(j : Nat)]? = some (some (.ref x))) (k : gw p l e R s m args below meth c D cy ad b0 cl sl Q nL (pc + 1) σ loc (.ref x :: st)) : gw p l e R s m args below meth c D cy ad b0 cl sl Q nL pc σ loc st := fun H locs ls hP hS hl => lv_aload_n C.x C.b hd rfl (lvp_at hl h) (k H locs ls hP hS hl)
theorem g_aload (C : Cx p s m args meth c D cy ad b0 y cc nL ret) {j : Nat} {x : Nat} (hd : decode cc pc = .ok (.aload j, 2)) (h : loc[j]? = some (some (.ref x))) (k : gw p l e R s m args below meth c D cy ad b0 cl sl Q nL (pc + 2) σ loc (.ref x :: st)) : gw p l e R s m args below meth c D cy ad b0 cl sl Q nL pc σ loc st := fun H locs ls hP hS hl => lv_aload C.x C.b hd (lvp_at hl h) (k H locs ls hP hS hl)
theorem g_astore_n (C : Cx p s m args meth c D cy ad b0 y cc nL ret) {j : Fin 4} {x : Nat} (loc2 : List (Option Value)) (hd : decode cc pc = .ok (.astore_n j, 1)) (hn : (j : Nat) < nL) (h : lset1 loc (j : Nat) (.ref x) = loc2) (k : gw p l e R s m args below meth c D cy ad b0 cl sl Q nL (pc + 1) σ loc2 st) : gw p l e R s m args below meth c D cy ad b0 cl sl Q nL pc σ loc (.ref x :: st) := fun H locs ls hP hS hl => lv_astore_n C.x C.b hd rfl hl hn rfl (fun ls2 hl2 => k H locs ls2 hP hS (h ▸ lvp_set1 hl2))
theorem g_astore (C : Cx p s m args meth c D cy ad b0 y cc nL ret) {j : Nat} {x : Nat} (loc2 : List (Option Value)) (hd : decode cc pc = .ok (.astore j, 2)) (hn : (j : Nat) < nL) (h : lset1 loc j (.ref x) = loc2) (k : gw p l e R s m args below meth c D cy ad b0 cl sl Q nL (pc + 2) σ loc2 st) : gw p l e R s m args below meth c D cy ad b0 cl sl Q nL pc σ loc (.ref x :: st) := fun H locs ls hP hS hl => lv_astore C.x C.b hd hl hn rfl (fun ls2 hl2 => k H locs ls2 hP hS (h ▸ lvp_set1 hl2))
theorem g_iinc (C : Cx p s m args meth c D cy ad b0 y cc nL ret) {j : Nat} {n : Int} {x v : Int32} (loc2 : List (Option Value)) (hd : decode cc pc = .ok (.iinc j n, 3)) (h1 : loc[j]? = some (some (.int x))) (hv : x + Int32.ofInt n = v) (hn : j < nL) (h : lset1 loc j (.int v) = loc2) (k : gw p l e R s m args below meth c D cy ad b0 cl sl Q nL (pc + 3) σ loc2 st) : gw p l e R s m args below meth c D cy ad b0 cl sl Q nL pc σ loc st := fun H locs ls hP hS hl => by
  obtain ⟨q, hq⟩ := List.getElem?_of_mem (mem_lvl.mpr h1)
  exact lv_iinc C.x C.b hd hl (k := q) hq hv hn rfl (fun ls2 hl2 => k H locs ls2 hP hS (h ▸ lvp_set1 hl2))
theorem g_iadd (C : Cx p s m args meth c D cy ad b0 y cc nL ret) {x z : Int32} (hd : decode cc pc = .ok (.iadd, 1)) (k : gw p l e R s m args below meth c D cy ad b0 cl sl Q nL (pc + 1) σ loc (.int (x + z) :: st)) : gw p l e R s m args below meth c D cy ad b0 cl sl Q nL pc σ loc (.int z :: .int x :: st) := fun H locs ls hP hS hl => lv_iadd C.x C.b hd (k H locs ls hP hS hl)
theorem g_isub (C : Cx p s m args meth c D cy ad b0 y cc nL ret) {x z : Int32} (hd : decode cc pc = .ok (.isub, 1)) (k : gw p l e R s m args below meth c D cy ad b0 cl sl Q nL (pc + 1) σ loc (.int (x - z) :: st)) : gw p l e R s m args below meth c D cy ad b0 cl sl Q nL pc σ loc (.int z :: .int x :: st) := fun H locs ls hP hS hl => lv_isub C.x C.b hd (k H locs ls hP hS hl)
theorem g_imul (C : Cx p s m args meth c D cy ad b0 y cc nL ret) {x z : Int32} (hd : decode cc pc = .ok (.imul, 1)) (k : gw p l e R s m args below meth c D cy ad b0 cl sl Q nL (pc + 1) σ loc (.int (x * z) :: st)) : gw p l e R s m args below meth c D cy ad b0 cl sl Q nL pc σ loc (.int z :: .int x :: st) := fun H locs ls hP hS hl => lv_imul C.x C.b hd (k H locs ls hP hS hl)
theorem g_iand (C : Cx p s m args meth c D cy ad b0 y cc nL ret) {x z : Int32} (hd : decode cc pc = .ok (.iand, 1)) (k : gw p l e R s m args below meth c D cy ad b0 cl sl Q nL (pc + 1) σ loc (.int (x &&& z) :: st)) : gw p l e R s m args below meth c D cy ad b0 cl sl Q nL pc σ loc (.int z :: .int x :: st) := fun H locs ls hP hS hl => lv_iand C.x C.b hd (k H locs ls hP hS hl)
theorem g_ior (C : Cx p s m args meth c D cy ad b0 y cc nL ret) {x z : Int32} (hd : decode cc pc = .ok (.ior, 1)) (k : gw p l e R s m args below meth c D cy ad b0 cl sl Q nL (pc + 1) σ loc (.int (x ||| z) :: st)) : gw p l e R s m args below meth c D cy ad b0 cl sl Q nL pc σ loc (.int z :: .int x :: st) := fun H locs ls hP hS hl => lv_ior C.x C.b hd (k H locs ls hP hS hl)
theorem g_ishl (C : Cx p s m args meth c D cy ad b0 y cc nL ret) {x z : Int32} (hd : decode cc pc = .ok (.ishl, 1)) (k : gw p l e R s m args below meth c D cy ad b0 cl sl Q nL (pc + 1) σ loc (.int (x <<< (z &&& 31)) :: st)) : gw p l e R s m args below meth c D cy ad b0 cl sl Q nL pc σ loc (.int z :: .int x :: st) := fun H locs ls hP hS hl => lv_ishl C.x C.b hd (k H locs ls hP hS hl)
theorem g_ishr (C : Cx p s m args meth c D cy ad b0 y cc nL ret) {x z : Int32} (hd : decode cc pc = .ok (.ishr, 1)) (k : gw p l e R s m args below meth c D cy ad b0 cl sl Q nL (pc + 1) σ loc (.int (x >>> (z &&& 31)) :: st)) : gw p l e R s m args below meth c D cy ad b0 cl sl Q nL pc σ loc (.int z :: .int x :: st) := fun H locs ls hP hS hl => lv_ishr C.x C.b hd (k H locs ls hP hS hl)
theorem g_ladd (C : Cx p s m args meth c D cy ad b0 y cc nL ret) {x z : Int64} (hd : decode cc pc = .ok (.ladd, 1)) (k : gw p l e R s m args below meth c D cy ad b0 cl sl Q nL (pc + 1) σ loc (.long (x + z) :: st)) : gw p l e R s m args below meth c D cy ad b0 cl sl Q nL pc σ loc (.long z :: .long x :: st) := fun H locs ls hP hS hl => lv_ladd C.x C.b hd (k H locs ls hP hS hl)
theorem g_land (C : Cx p s m args meth c D cy ad b0 y cc nL ret) {x z : Int64} (hd : decode cc pc = .ok (.land, 1)) (k : gw p l e R s m args below meth c D cy ad b0 cl sl Q nL (pc + 1) σ loc (.long (x &&& z) :: st)) : gw p l e R s m args below meth c D cy ad b0 cl sl Q nL pc σ loc (.long z :: .long x :: st) := fun H locs ls hP hS hl => lv_land C.x C.b hd (k H locs ls hP hS hl)
theorem g_lor (C : Cx p s m args meth c D cy ad b0 y cc nL ret) {x z : Int64} (hd : decode cc pc = .ok (.lor, 1)) (k : gw p l e R s m args below meth c D cy ad b0 cl sl Q nL (pc + 1) σ loc (.long (x ||| z) :: st)) : gw p l e R s m args below meth c D cy ad b0 cl sl Q nL pc σ loc (.long z :: .long x :: st) := fun H locs ls hP hS hl => lv_lor C.x C.b hd (k H locs ls hP hS hl)
theorem g_lsub (C : Cx p s m args meth c D cy ad b0 y cc nL ret) {x z : Int64} (hd : decode cc pc = .ok (.lsub, 1)) (k : gw p l e R s m args below meth c D cy ad b0 cl sl Q nL (pc + 1) σ loc (.long (x - z) :: st)) : gw p l e R s m args below meth c D cy ad b0 cl sl Q nL pc σ loc (.long z :: .long x :: st) := fun H locs ls hP hS hl => lv_lsub C.x C.b hd (k H locs ls hP hS hl)
def iREM (x z : Int32) : Int32 := x - x / z * z
theorem g_idiv (C : Cx p s m args meth c D cy ad b0 y cc nL ret) {x z : Int32} (hd : decode cc pc = .ok (.idiv, 1)) (h : ¬ z = nI 0) (k : gw p l e R s m args below meth c D cy ad b0 cl sl Q nL (pc + 1) σ loc (.int (x / z) :: st)) : gw p l e R s m args below meth c D cy ad b0 cl sl Q nL pc σ loc (.int z :: .int x :: st) := fun H locs ls hP hS hl => lv_idiv C.x C.b hd h (k H locs ls hP hS hl)
theorem g_irem (C : Cx p s m args meth c D cy ad b0 y cc nL ret) {x z : Int32} (hd : decode cc pc = .ok (.irem, 1)) (h : ¬ z = nI 0) (k : gw p l e R s m args below meth c D cy ad b0 cl sl Q nL (pc + 1) σ loc (.int (iREM x z) :: st)) : gw p l e R s m args below meth c D cy ad b0 cl sl Q nL pc σ loc (.int z :: .int x :: st) := fun H locs ls hP hS hl => lv_irem C.x C.b hd h (k H locs ls hP hS hl)
def lUSHR (x : Int64) (z : Int32) : Int64 := (x.toUInt64 >>> (z.toInt64.toUInt64 &&& Int64.toUInt64 63)).toInt64
def lSHL (x : Int64) (z : Int32) : Int64 := x <<< (z.toInt64 &&& 63)
theorem g_lushr (C : Cx p s m args meth c D cy ad b0 y cc nL ret) {x : Int64} {z : Int32} (hd : decode cc pc = .ok (.lushr, 1)) (k : gw p l e R s m args below meth c D cy ad b0 cl sl Q nL (pc + 1) σ loc (.long (lUSHR x z) :: st)) : gw p l e R s m args below meth c D cy ad b0 cl sl Q nL pc σ loc (.int z :: .long x :: st) := fun H locs ls hP hS hl => lv_lushr C.x C.b hd rfl (k H locs ls hP hS hl)
theorem g_lshl (C : Cx p s m args meth c D cy ad b0 y cc nL ret) {x : Int64} {z : Int32} (hd : decode cc pc = .ok (.lshl, 1)) (k : gw p l e R s m args below meth c D cy ad b0 cl sl Q nL (pc + 1) σ loc (.long (lSHL x z) :: st)) : gw p l e R s m args below meth c D cy ad b0 cl sl Q nL pc σ loc (.int z :: .long x :: st) := fun H locs ls hP hS hl => lv_lshl C.x C.b hd rfl (k H locs ls hP hS hl)
theorem g_i2l (C : Cx p s m args meth c D cy ad b0 y cc nL ret) {x : Int32} (hd : decode cc pc = .ok (.i2l, 1)) (k : gw p l e R s m args below meth c D cy ad b0 cl sl Q nL (pc + 1) σ loc (.long x.toInt64 :: st)) : gw p l e R s m args below meth c D cy ad b0 cl sl Q nL pc σ loc (.int x :: st) := fun H locs ls hP hS hl => lv_i2l C.x C.b hd rfl (k H locs ls hP hS hl)
theorem g_l2i (C : Cx p s m args meth c D cy ad b0 y cc nL ret) {x : Int64} (hd : decode cc pc = .ok (.l2i, 1)) (k : gw p l e R s m args below meth c D cy ad b0 cl sl Q nL (pc + 1) σ loc (.int x.toInt32 :: st)) : gw p l e R s m args below meth c D cy ad b0 cl sl Q nL pc σ loc (.long x :: st) := fun H locs ls hP hS hl => lv_l2i C.x C.b hd rfl (k H locs ls hP hS hl)
theorem g_i2b (C : Cx p s m args meth c D cy ad b0 y cc nL ret) {x : Int32} (hd : decode cc pc = .ok (.i2b, 1)) (k : gw p l e R s m args below meth c D cy ad b0 cl sl Q nL (pc + 1) σ loc (.int x.toInt8.toInt32 :: st)) : gw p l e R s m args below meth c D cy ad b0 cl sl Q nL pc σ loc (.int x :: st) := fun H locs ls hP hS hl => lv_i2b C.x C.b hd rfl (k H locs ls hP hS hl)
theorem g_lcmp (C : Cx p s m args meth c D cy ad b0 y cc nL ret) {x z : Int64} (hd : decode cc pc = .ok (.lcmp, 1)) (k : gw p l e R s m args below meth c D cy ad b0 cl sl Q nL (pc + 1) σ loc (.int (lg_cmp x z) :: st)) : gw p l e R s m args below meth c D cy ad b0 cl sl Q nL pc σ loc (.long z :: .long x :: st) := fun H locs ls hP hS hl => W.lcmp C.x C.b hd (k H locs ls hP hS hl)
theorem g_dup (C : Cx p s m args meth c D cy ad b0 y cc nL ret) {v : Value} (hd : decode cc pc = .ok (.dup, 1)) (hv : v.category = 1) (k : gw p l e R s m args below meth c D cy ad b0 cl sl Q nL (pc + 1) σ loc (v :: v :: st)) : gw p l e R s m args below meth c D cy ad b0 cl sl Q nL pc σ loc (v :: st) := fun H locs ls hP hS hl => lv_dup C.x C.b hd hv (k H locs ls hP hS hl)
theorem g_dup2 (C : Cx p s m args meth c D cy ad b0 y cc nL ret) {v w : Value} (hd : decode cc pc = .ok (.dup2, 1)) (hv : v.category = 1) (hw : w.category = 1) (k : gw p l e R s m args below meth c D cy ad b0 cl sl Q nL (pc + 1) σ loc (v :: w :: v :: w :: st)) : gw p l e R s m args below meth c D cy ad b0 cl sl Q nL pc σ loc (v :: w :: st) := fun H locs ls hP hS hl => lv_dup2_11 C.x C.b hd hv hw (k H locs ls hP hS hl)
theorem g_pop (C : Cx p s m args meth c D cy ad b0 y cc nL ret) {v : Value} (hd : decode cc pc = .ok (.pop, 1)) (hv : v.category = 1) (k : gw p l e R s m args below meth c D cy ad b0 cl sl Q nL (pc + 1) σ loc st) : gw p l e R s m args below meth c D cy ad b0 cl sl Q nL pc σ loc (v :: st) := fun H locs ls hP hS hl => lv_pop C.x C.b hd hv (k H locs ls hP hS hl)
theorem g_goto (C : Cx p s m args meth c D cy ad b0 y cc nL ret) {off : Int} (tgt : Nat) (hd : decode cc pc = .ok (.goto off, 3)) (ht : (pc : Int) + off = (tgt : Int)) (k : gw p l e R s m args below meth c D cy ad b0 cl sl Q nL tgt σ loc st) : gw p l e R s m args below meth c D cy ad b0 cl sl Q nL pc σ loc st := fun H locs ls hP hS hl => lv_goto C.x C.b hd ht (k H locs ls hP hS hl)
theorem g_if_eq (C : Cx p s m args meth c D cy ad b0 y cc nL ret) {x : Int32} {off : Int} (tgt : Nat) (hd : decode cc pc = .ok (.ifCond .eq off, 3)) (ht : (pc : Int) + off = (tgt : Int)) (kt : x = nI 0 → gw p l e R s m args below meth c D cy ad b0 cl sl Q nL tgt σ loc st) (kf : ¬ x = nI 0 → gw p l e R s m args below meth c D cy ad b0 cl sl Q nL (pc + 3) σ loc st) : gw p l e R s m args below meth c D cy ad b0 cl sl Q nL pc σ loc (.int x :: st) := fun H locs ls hP hS hl => lv_if_eq C.x C.b hd ht (fun h => kt h H locs ls hP hS hl) (fun h => kf h H locs ls hP hS hl)
theorem g_icmp_eq (C : Cx p s m args meth c D cy ad b0 y cc nL ret) {x z : Int32} {off : Int} (tgt : Nat) (hd : decode cc pc = .ok (.if_icmp .eq off, 3)) (ht : (pc : Int) + off = (tgt : Int)) (kt : x = z → gw p l e R s m args below meth c D cy ad b0 cl sl Q nL tgt σ loc st) (kf : ¬ x = z → gw p l e R s m args below meth c D cy ad b0 cl sl Q nL (pc + 3) σ loc st) : gw p l e R s m args below meth c D cy ad b0 cl sl Q nL pc σ loc (.int z :: .int x :: st) := fun H locs ls hP hS hl => lv_icmp_eq C.x C.b hd ht (fun h => kt h H locs ls hP hS hl) (fun h => kf h H locs ls hP hS hl)
theorem g_if_ne (C : Cx p s m args meth c D cy ad b0 y cc nL ret) {x : Int32} {off : Int} (tgt : Nat) (hd : decode cc pc = .ok (.ifCond .ne off, 3)) (ht : (pc : Int) + off = (tgt : Int)) (kt : ¬ x = nI 0 → gw p l e R s m args below meth c D cy ad b0 cl sl Q nL tgt σ loc st) (kf : x = nI 0 → gw p l e R s m args below meth c D cy ad b0 cl sl Q nL (pc + 3) σ loc st) : gw p l e R s m args below meth c D cy ad b0 cl sl Q nL pc σ loc (.int x :: st) := fun H locs ls hP hS hl => lv_if_ne C.x C.b hd ht (fun h => kt h H locs ls hP hS hl) (fun h => kf h H locs ls hP hS hl)
theorem g_icmp_ne (C : Cx p s m args meth c D cy ad b0 y cc nL ret) {x z : Int32} {off : Int} (tgt : Nat) (hd : decode cc pc = .ok (.if_icmp .ne off, 3)) (ht : (pc : Int) + off = (tgt : Int)) (kt : ¬ x = z → gw p l e R s m args below meth c D cy ad b0 cl sl Q nL tgt σ loc st) (kf : x = z → gw p l e R s m args below meth c D cy ad b0 cl sl Q nL (pc + 3) σ loc st) : gw p l e R s m args below meth c D cy ad b0 cl sl Q nL pc σ loc (.int z :: .int x :: st) := fun H locs ls hP hS hl => lv_icmp_ne C.x C.b hd ht (fun h => kt h H locs ls hP hS hl) (fun h => kf h H locs ls hP hS hl)
theorem g_if_lt (C : Cx p s m args meth c D cy ad b0 y cc nL ret) {x : Int32} {off : Int} (tgt : Nat) (hd : decode cc pc = .ok (.ifCond .lt off, 3)) (ht : (pc : Int) + off = (tgt : Int)) (kt : x < nI 0 → gw p l e R s m args below meth c D cy ad b0 cl sl Q nL tgt σ loc st) (kf : ¬ x < nI 0 → gw p l e R s m args below meth c D cy ad b0 cl sl Q nL (pc + 3) σ loc st) : gw p l e R s m args below meth c D cy ad b0 cl sl Q nL pc σ loc (.int x :: st) := fun H locs ls hP hS hl => lv_if_lt C.x C.b hd ht (fun h => kt h H locs ls hP hS hl) (fun h => kf h H locs ls hP hS hl)
theorem g_icmp_lt (C : Cx p s m args meth c D cy ad b0 y cc nL ret) {x z : Int32} {off : Int} (tgt : Nat) (hd : decode cc pc = .ok (.if_icmp .lt off, 3)) (ht : (pc : Int) + off = (tgt : Int)) (kt : x < z → gw p l e R s m args below meth c D cy ad b0 cl sl Q nL tgt σ loc st) (kf : ¬ x < z → gw p l e R s m args below meth c D cy ad b0 cl sl Q nL (pc + 3) σ loc st) : gw p l e R s m args below meth c D cy ad b0 cl sl Q nL pc σ loc (.int z :: .int x :: st) := fun H locs ls hP hS hl => lv_icmp_lt C.x C.b hd ht (fun h => kt h H locs ls hP hS hl) (fun h => kf h H locs ls hP hS hl)
theorem g_if_ge (C : Cx p s m args meth c D cy ad b0 y cc nL ret) {x : Int32} {off : Int} (tgt : Nat) (hd : decode cc pc = .ok (.ifCond .ge off, 3)) (ht : (pc : Int) + off = (tgt : Int)) (kt : nI 0 ≤ x → gw p l e R s m args below meth c D cy ad b0 cl sl Q nL tgt σ loc st) (kf : ¬ nI 0 ≤ x → gw p l e R s m args below meth c D cy ad b0 cl sl Q nL (pc + 3) σ loc st) : gw p l e R s m args below meth c D cy ad b0 cl sl Q nL pc σ loc (.int x :: st) := fun H locs ls hP hS hl => lv_if_ge C.x C.b hd ht (fun h => kt h H locs ls hP hS hl) (fun h => kf h H locs ls hP hS hl)
theorem g_icmp_ge (C : Cx p s m args meth c D cy ad b0 y cc nL ret) {x z : Int32} {off : Int} (tgt : Nat) (hd : decode cc pc = .ok (.if_icmp .ge off, 3)) (ht : (pc : Int) + off = (tgt : Int)) (kt : z ≤ x → gw p l e R s m args below meth c D cy ad b0 cl sl Q nL tgt σ loc st) (kf : ¬ z ≤ x → gw p l e R s m args below meth c D cy ad b0 cl sl Q nL (pc + 3) σ loc st) : gw p l e R s m args below meth c D cy ad b0 cl sl Q nL pc σ loc (.int z :: .int x :: st) := fun H locs ls hP hS hl => lv_icmp_ge C.x C.b hd ht (fun h => kt h H locs ls hP hS hl) (fun h => kf h H locs ls hP hS hl)
theorem g_if_gt (C : Cx p s m args meth c D cy ad b0 y cc nL ret) {x : Int32} {off : Int} (tgt : Nat) (hd : decode cc pc = .ok (.ifCond .gt off, 3)) (ht : (pc : Int) + off = (tgt : Int)) (kt : nI 0 < x → gw p l e R s m args below meth c D cy ad b0 cl sl Q nL tgt σ loc st) (kf : ¬ nI 0 < x → gw p l e R s m args below meth c D cy ad b0 cl sl Q nL (pc + 3) σ loc st) : gw p l e R s m args below meth c D cy ad b0 cl sl Q nL pc σ loc (.int x :: st) := fun H locs ls hP hS hl => lv_if_gt C.x C.b hd ht (fun h => kt h H locs ls hP hS hl) (fun h => kf h H locs ls hP hS hl)
theorem g_icmp_gt (C : Cx p s m args meth c D cy ad b0 y cc nL ret) {x z : Int32} {off : Int} (tgt : Nat) (hd : decode cc pc = .ok (.if_icmp .gt off, 3)) (ht : (pc : Int) + off = (tgt : Int)) (kt : z < x → gw p l e R s m args below meth c D cy ad b0 cl sl Q nL tgt σ loc st) (kf : ¬ z < x → gw p l e R s m args below meth c D cy ad b0 cl sl Q nL (pc + 3) σ loc st) : gw p l e R s m args below meth c D cy ad b0 cl sl Q nL pc σ loc (.int z :: .int x :: st) := fun H locs ls hP hS hl => lv_icmp_gt C.x C.b hd ht (fun h => kt h H locs ls hP hS hl) (fun h => kf h H locs ls hP hS hl)
theorem g_if_le (C : Cx p s m args meth c D cy ad b0 y cc nL ret) {x : Int32} {off : Int} (tgt : Nat) (hd : decode cc pc = .ok (.ifCond .le off, 3)) (ht : (pc : Int) + off = (tgt : Int)) (kt : x ≤ nI 0 → gw p l e R s m args below meth c D cy ad b0 cl sl Q nL tgt σ loc st) (kf : ¬ x ≤ nI 0 → gw p l e R s m args below meth c D cy ad b0 cl sl Q nL (pc + 3) σ loc st) : gw p l e R s m args below meth c D cy ad b0 cl sl Q nL pc σ loc (.int x :: st) := fun H locs ls hP hS hl => lv_if_le C.x C.b hd ht (fun h => kt h H locs ls hP hS hl) (fun h => kf h H locs ls hP hS hl)
theorem g_icmp_le (C : Cx p s m args meth c D cy ad b0 y cc nL ret) {x z : Int32} {off : Int} (tgt : Nat) (hd : decode cc pc = .ok (.if_icmp .le off, 3)) (ht : (pc : Int) + off = (tgt : Int)) (kt : x ≤ z → gw p l e R s m args below meth c D cy ad b0 cl sl Q nL tgt σ loc st) (kf : ¬ x ≤ z → gw p l e R s m args below meth c D cy ad b0 cl sl Q nL (pc + 3) σ loc st) : gw p l e R s m args below meth c D cy ad b0 cl sl Q nL pc σ loc (.int z :: .int x :: st) := fun H locs ls hP hS hl => lv_icmp_le C.x C.b hd ht (fun h => kt h H locs ls hP hS hl) (fun h => kf h H locs ls hP hS hl)
theorem g_mask {loc2 : List (Option Value)} (b : List Bool) (h : lmask loc b = loc2) (k : gw p l e R s m args below meth c D cy ad b0 cl sl Q nL pc σ loc2 st) : gw p l e R s m args below meth c D cy ad b0 cl sl Q nL pc σ loc st := fun H locs ls hP hS hl => k H locs ls hP hS (by
  subst h
  exact lvp_of hl (fun i v hv => mem_lvl.mpr (lmask_at loc b i v hv)))
theorem g_topi {x : Int32} (k : ∀ v : Int32, v = x → gw p l e R s m args below meth c D cy ad b0 cl sl Q nL pc σ loc (.int v :: st)) : gw p l e R s m args below meth c D cy ad b0 cl sl Q nL pc σ loc (.int x :: st) := k x rfl
theorem g_topl {x : Int64} (k : ∀ v : Int64, v = x → gw p l e R s m args below meth c D cy ad b0 cl sl Q nL pc σ loc (.long v :: st)) : gw p l e R s m args below meth c D cy ad b0 cl sl Q nL pc σ loc (.long x :: st) := k x rfl
theorem g_getV (C : Cx p s m args meth c D cy ad b0 y cc nL ret) (o f : Nat) {i : Nat} {v : Value} (ho : o < 11) (hf : f < nF o) (hw : Cond.fieldLink y.cls i ((clE o).2.1 f).1 ((clE o).2.1 f).2.1 ((clE o).2.1 f).2.2.1 ∈ wsG) (hv : fV ad σ o f = v) (hd : decode cc pc = .ok (.getfield i, 3)) (k : gw p l e R s m args below meth c D cy ad b0 cl sl Q nL (pc + 3) σ loc (v :: st)) : gw p l e R s m args below meth c D cy ad b0 cl sl Q nL pc σ loc (.ref (ad o) :: st) := fun H locs ls hP hS hl => by
  have hN : o < NW := Nat.lt_trans ho (by decide)
  have he : (wld ad cy σ)[o]? = some (ad o, .inr (oc o, oF ad σ o)) := by rw [wld_get hN, wE_obj ho]
  refine va_get (D := D) (ci := oc o) (C := (clE o).1) (T := (clE o).2.1) (N := (clE o).2.2) C.x C.b C.ts (inW o ho) C.o C.K hP o he (clO o ho) f (by rw [nFO o ho]; exact hf) (C.ts _ hw) (fun _ h => h) (v := v) (by rw [oF_get hf, hv]) hd (k H locs ls hP hS hl)
theorem g_getI (C : Cx p s m args meth c D cy ad b0 y cc nL ret) (o f : Nat) {i : Nat} (ho : o < 11) (hf : f < nF o) (h0 : kd o f = 0) (hw : Cond.fieldLink y.cls i ((clE o).2.1 f).1 ((clE o).2.1 f).2.1 ((clE o).2.1 f).2.2.1 ∈ wsG) (hd : decode cc pc = .ok (.getfield i, 3)) (k : gw p l e R s m args below meth c D cy ad b0 cl sl Q nL (pc + 3) σ loc (.int (gF σ o f) :: st)) : gw p l e R s m args below meth c D cy ad b0 cl sl Q nL pc σ loc (.ref (ad o) :: st) := g_getV C o f ho hf hw (by unfold fV; rw [if_pos h0]) hd k
theorem g_getR (C : Cx p s m args meth c D cy ad b0 y cc nL ret) (o f : Nat) {i : Nat} (r : Nat) (ho : o < 11) (hf : f < nF o) (h0 : kd o f = 1) (hr : rfT o f = r) (hw : Cond.fieldLink y.cls i ((clE o).2.1 f).1 ((clE o).2.1 f).2.1 ((clE o).2.1 f).2.2.1 ∈ wsG) (hd : decode cc pc = .ok (.getfield i, 3)) (k : gw p l e R s m args below meth c D cy ad b0 cl sl Q nL (pc + 3) σ loc (.ref (ad r) :: st)) : gw p l e R s m args below meth c D cy ad b0 cl sl Q nL pc σ loc (.ref (ad o) :: st) := g_getV C o f ho hf hw (by unfold fV; rw [if_neg (by rw [h0]; decide), if_pos h0, hr]) hd k
theorem g_getM (C : Cx p s m args meth c D cy ad b0 y cc nL ret) (o f : Nat) {i : Nat} (ho : o < 11) (hf : f < nF o) (h0 : kd o f = 2) (hw : Cond.fieldLink y.cls i ((clE o).2.1 f).1 ((clE o).2.1 f).2.1 ((clE o).2.1 f).2.2.1 ∈ wsG) (hd : decode cc pc = .ok (.getfield i, 3)) (k : gw p l e R s m args below meth c D cy ad b0 cl sl Q nL (pc + 3) σ loc (.ref (ad (gR σ o f)) :: st)) : gw p l e R s m args below meth c D cy ad b0 cl sl Q nL pc σ loc (.ref (ad o) :: st) := g_getV C o f ho hf hw (by unfold fV; rw [if_neg (by rw [h0]; decide), if_neg (by rw [h0]; decide)]) hd k
theorem g_putV (C : Cx p s m args meth c D cy ad b0 y cc nL ret) (o f : Nat) {i : Nat} {v : Value} {σ2 : Sg} {ty : FieldType} (ho : o < 11) (hf : f < nF o) (hw : Cond.fieldLink y.cls i ((clE o).2.1 f).1 ((clE o).2.1 f).2.1 ((clE o).2.1 f).2.2.1 ∈ wsG) (hfin : ((clE o).2.1 f).2.2.2 = false) (hty : parseFieldDescriptor ((clE o).2.1 f).2.2.1 = some ty) (hn : narrow ty v = v) (hfit : fits ty v = true) (hv : fV ad σ2 o f = v) (hs : ∀ j, j ≠ f → fV ad σ2 o j = fV ad σ o j) (hso : ∀ j, j < NW → j ≠ o → wE ad cy σ2 j = wE ad cy σ j) (hd : decode cc pc = .ok (.putfield i, 3)) (k : gw p l e R s m args below meth c D cy ad b0 cl sl Q nL (pc + 3) σ2 loc st) : gw p l e R s m args below meth c D cy ad b0 cl sl Q nL pc σ loc (v :: .ref (ad o) :: st) := fun H locs ls hP hS hl => by
  have hN : o < NW := Nat.lt_trans ho (by decide)
  have he : (wld ad cy σ)[o]? = some (ad o, .inr (oc o, oF ad σ o)) := by rw [wld_get hN, wE_obj ho]
  refine va_put (D := D) (ci := oc o) (C := (clE o).1) (T := (clE o).2.1) (N := (clE o).2.2) C.x C.b C.ts (inW o ho) (tyO o) (tyO_ok o ho) (nmO o ho) C.o C.K hP (wld_D C.A σ) hS o he (clO o ho) f (by rw [nFO o ho]; exact hf) (C.ts _ hw) (fun _ h => h) hfin hty hn hfit (by simpa [oF] using hf) hd (fun H1 locs1 hP1 _ hS1 => k H1 locs1 ls ?_ hS1 hl)
  have e1 : (wld ad cy σ).set o (ad o, .inr (oc o, (oF ad σ o).set f v)) = wld ad cy σ2 := wld_set (by rw [wE_obj ho, ← hv, oF_set hs]) hso
  rw [← e1]
  exact hP1
theorem g_putI (C : Cx p s m args meth c D cy ad b0 y cc nL ret) (o f : Nat) {i : Nat} {x : Int32} {ty : FieldType} (ho : o < 11) (hf : f < nF o) (h0 : kd o f = 0) (hw : Cond.fieldLink y.cls i ((clE o).2.1 f).1 ((clE o).2.1 f).2.1 ((clE o).2.1 f).2.2.1 ∈ wsG) (hfin : ((clE o).2.1 f).2.2.2 = false) (hty : parseFieldDescriptor ((clE o).2.1 f).2.2.1 = some ty) (hn : narrow ty (.int x) = .int x) (hfit : fits ty (.int x) = true) (hd : decode cc pc = .ok (.putfield i, 3)) (k : ∀ σ2, σ2 = stF σ o f x → gw p l e R s m args below meth c D cy ad b0 cl sl Q nL (pc + 3) σ2 loc st) : gw p l e R s m args below meth c D cy ad b0 cl sl Q nL pc σ loc (.int x :: .ref (ad o) :: st) :=
  g_putV C o f ho hf hw hfin hty hn hfit (σ2 := stF σ o f x) (by unfold fV; rw [if_pos h0]; show Value.int (up2 σ.1 o f x o f) = _; rw [up2_same]) (fun j hj => fV_stF (Or.inr hj)) (fun j _ hj => wE_stF hj) hd (k _ rfl)
theorem g_putM (C : Cx p s m args meth c D cy ad b0 y cc nL ret) (o f : Nat) {i r : Nat} {ty : FieldType} (ho : o < 11) (hf : f < nF o) (h0 : kd o f = 2) (hw : Cond.fieldLink y.cls i ((clE o).2.1 f).1 ((clE o).2.1 f).2.1 ((clE o).2.1 f).2.2.1 ∈ wsG) (hfin : ((clE o).2.1 f).2.2.2 = false) (hty : parseFieldDescriptor ((clE o).2.1 f).2.2.1 = some ty) (hn : narrow ty (.ref (ad r)) = .ref (ad r)) (hfit : fits ty (.ref (ad r)) = true) (hd : decode cc pc = .ok (.putfield i, 3)) (k : ∀ σ2, σ2 = stR σ o f r → gw p l e R s m args below meth c D cy ad b0 cl sl Q nL (pc + 3) σ2 loc st) : gw p l e R s m args below meth c D cy ad b0 cl sl Q nL pc σ loc (.ref (ad r) :: .ref (ad o) :: st) :=
  g_putV C o f ho hf hw hfin hty hn hfit (σ2 := stR σ o f r) (by unfold fV; rw [if_neg (by rw [h0]; decide), if_neg (by rw [h0]; decide)]; show Value.ref (ad (up2 σ.2.2.2 o f r o f)) = _; rw [up2_same]) (fun j hj => fV_stR (Or.inr hj)) (fun j _ hj => wE_stR hj) hd (k _ rfl)
theorem g_alen (C : Cx p s m args meth c D cy ad b0 y cc nL ret) {q : Nat} (hq : 11 ≤ q ∧ q < NW ∧ aK q < 4) (hd : decode cc pc = .ok (.arraylength, 1)) (k : gw p l e R s m args below meth c D cy ad b0 cl sl Q nL (pc + 1) σ loc (.int (nI (aN q)) :: st)) : gw p l e R s m args below meth c D cy ad b0 cl sl Q nL pc σ loc (.ref (ad q) :: st) := fun H locs ls hP hS hl => by
  have he := wld_get (ad := ad) (cy := cy) (σ := σ) hq.2.1
  by_cases h2 : aK q = 2
  · rw [wE_long hq.1 h2] at he
    exact va_alen C.x C.b C.K hP q 2 he (tys_at (by decide)) rfl hd (k H locs ls hP hS hl)
  · rw [wE_int hq.1 h2] at he
    exact va_alen C.x C.b C.K hP q (aK q) he (tys_at hq.2.2) rfl hd (k H locs ls hP hS hl)
theorem g_iald (C : Cx p s m args meth c D cy ad b0 y cc nL ret) {q : Nat} {i : Int32} (hq : 11 ≤ q ∧ q < NW ∧ aK q = 0) (hi : vp_in i (aN q)) (hd : decode cc pc = .ok (.iaload, 1)) (k : gw p l e R s m args below meth c D cy ad b0 cl sl Q nL (pc + 1) σ loc (.int (gA σ q i.toNatClampNeg) :: st)) : gw p l e R s m args below meth c D cy ad b0 cl sl Q nL pc σ loc (.int i :: .ref (ad q) :: st) := fun H locs ls hP hS hl => by
  have he := wld_get (ad := ad) (cy := cy) (σ := σ) hq.2.1
  rw [wE_int hq.1 (by rw [hq.2.2]; decide), hq.2.2] at he
  exact va_iald C.x C.b C.K hP q 0 he (tys_at (cy := cy) (k := 0) (by decide)) hi hd (k H locs ls hP hS hl)
theorem g_iast (C : Cx p s m args meth c D cy ad b0 y cc nL ret) {q : Nat} {i x : Int32} (hq : 11 ≤ q ∧ q < NW ∧ aK q = 0) (hi : vp_in i (aN q)) (hd : decode cc pc = .ok (.iastore, 1)) (k : ∀ σ2, σ2 = stA σ q i.toNatClampNeg x → gw p l e R s m args below meth c D cy ad b0 cl sl Q nL (pc + 1) σ2 loc st) : gw p l e R s m args below meth c D cy ad b0 cl sl Q nL pc σ loc (.int x :: .int i :: .ref (ad q) :: st) := fun H locs ls hP hS hl => by
  have he := wld_get (ad := ad) (cy := cy) (σ := σ) hq.2.1
  rw [wE_int hq.1 (by rw [hq.2.2]; decide), hq.2.2] at he
  refine va_iast C.x C.b C.K hP (wld_D C.A σ) hS q 0 he (tys_at (cy := cy) (k := 0) (by decide)) hi hd (fun H1 locs1 hP1 _ hS1 => k _ rfl H1 locs1 ls ?_ hS1 hl)
  have e1 : (wld ad cy σ).set q (ad q, .inl (cy 0, aN q, .inl (upd (gA σ q) i.toNatClampNeg x))) = wld ad cy (stA σ q i.toNatClampNeg x) := wld_set (by
    rw [wE_int hq.1 (by rw [hq.2.2]; decide), hq.2.2]
    show Sum.inl (cy 0, aN q, Sum.inl (up2 σ.2.1 q i.toNatClampNeg x q)) = _
    rw [up2_upd]
    rfl) (fun j _ hj => wE_stA hj)
  rw [← e1]
  exact hP1
theorem g_zald (C : Cx p s m args meth c D cy ad b0 y cc nL ret) {q : Nat} {i : Int32} (hq : 11 ≤ q ∧ q < NW ∧ aK q = 1) (hi : vp_in i (aN q)) (hd : decode cc pc = .ok (.baload, 1)) (k : gw p l e R s m args below meth c D cy ad b0 cl sl Q nL (pc + 1) σ loc (.int (gA σ q i.toNatClampNeg) :: st)) : gw p l e R s m args below meth c D cy ad b0 cl sl Q nL pc σ loc (.int i :: .ref (ad q) :: st) := fun H locs ls hP hS hl => by
  have he := wld_get (ad := ad) (cy := cy) (σ := σ) hq.2.1
  rw [wE_int hq.1 (by rw [hq.2.2]; decide), hq.2.2] at he
  exact va_zald C.x C.b C.K hP q 1 he (tys_at (cy := cy) (k := 1) (by decide)) hi hd (k H locs ls hP hS hl)
theorem g_zast (C : Cx p s m args meth c D cy ad b0 y cc nL ret) {q : Nat} {i x : Int32} (hq : 11 ≤ q ∧ q < NW ∧ aK q = 1) (hi : vp_in i (aN q)) (hd : decode cc pc = .ok (.bastore, 1)) (k : ∀ σ2, σ2 = stA σ q i.toNatClampNeg (vp_nar .boolean x) → gw p l e R s m args below meth c D cy ad b0 cl sl Q nL (pc + 1) σ2 loc st) : gw p l e R s m args below meth c D cy ad b0 cl sl Q nL pc σ loc (.int x :: .int i :: .ref (ad q) :: st) := fun H locs ls hP hS hl => by
  have he := wld_get (ad := ad) (cy := cy) (σ := σ) hq.2.1
  rw [wE_int hq.1 (by rw [hq.2.2]; decide), hq.2.2] at he
  refine va_zast C.x C.b C.K hP (wld_D C.A σ) hS q 1 he (tys_at (cy := cy) (k := 1) (by decide)) hi hd (fun H1 locs1 hP1 _ hS1 => k _ rfl H1 locs1 ls ?_ hS1 hl)
  have e1 : (wld ad cy σ).set q (ad q, .inl (cy 1, aN q, .inl (upd (gA σ q) i.toNatClampNeg (vp_nar .boolean x)))) = wld ad cy (stA σ q i.toNatClampNeg (vp_nar .boolean x)) := wld_set (by
    rw [wE_int hq.1 (by rw [hq.2.2]; decide), hq.2.2]
    show Sum.inl (cy 1, aN q, Sum.inl (up2 σ.2.1 q i.toNatClampNeg (vp_nar .boolean x) q)) = _
    rw [up2_upd]
    rfl) (fun j _ hj => wE_stA hj)
  rw [← e1]
  exact hP1
theorem g_bald (C : Cx p s m args meth c D cy ad b0 y cc nL ret) {q : Nat} {i : Int32} (hq : 11 ≤ q ∧ q < NW ∧ aK q = 3) (hi : vp_in i (aN q)) (hd : decode cc pc = .ok (.baload, 1)) (k : gw p l e R s m args below meth c D cy ad b0 cl sl Q nL (pc + 1) σ loc (.int (gA σ q i.toNatClampNeg) :: st)) : gw p l e R s m args below meth c D cy ad b0 cl sl Q nL pc σ loc (.int i :: .ref (ad q) :: st) := fun H locs ls hP hS hl => by
  have he := wld_get (ad := ad) (cy := cy) (σ := σ) hq.2.1
  rw [wE_int hq.1 (by rw [hq.2.2]; decide), hq.2.2] at he
  exact va_bald C.x C.b C.K hP q 3 he (tys_at (cy := cy) (k := 3) (by decide)) hi hd (k H locs ls hP hS hl)
theorem g_bast (C : Cx p s m args meth c D cy ad b0 y cc nL ret) {q : Nat} {i x : Int32} (hq : 11 ≤ q ∧ q < NW ∧ aK q = 3) (hi : vp_in i (aN q)) (hd : decode cc pc = .ok (.bastore, 1)) (k : ∀ σ2, σ2 = stA σ q i.toNatClampNeg (vp_nar .byte x) → gw p l e R s m args below meth c D cy ad b0 cl sl Q nL (pc + 1) σ2 loc st) : gw p l e R s m args below meth c D cy ad b0 cl sl Q nL pc σ loc (.int x :: .int i :: .ref (ad q) :: st) := fun H locs ls hP hS hl => by
  have he := wld_get (ad := ad) (cy := cy) (σ := σ) hq.2.1
  rw [wE_int hq.1 (by rw [hq.2.2]; decide), hq.2.2] at he
  refine va_bast C.x C.b C.K hP (wld_D C.A σ) hS q 3 he (tys_at (cy := cy) (k := 3) (by decide)) hi hd (fun H1 locs1 hP1 _ hS1 => k _ rfl H1 locs1 ls ?_ hS1 hl)
  have e1 : (wld ad cy σ).set q (ad q, .inl (cy 3, aN q, .inl (upd (gA σ q) i.toNatClampNeg (vp_nar .byte x)))) = wld ad cy (stA σ q i.toNatClampNeg (vp_nar .byte x)) := wld_set (by
    rw [wE_int hq.1 (by rw [hq.2.2]; decide), hq.2.2]
    show Sum.inl (cy 3, aN q, Sum.inl (up2 σ.2.1 q i.toNatClampNeg (vp_nar .byte x) q)) = _
    rw [up2_upd]
    rfl) (fun j _ hj => wE_stA hj)
  rw [← e1]
  exact hP1
theorem g_lald (C : Cx p s m args meth c D cy ad b0 y cc nL ret) {q : Nat} {i : Int32} (hq : 11 ≤ q ∧ q < NW ∧ aK q = 2) (hi : vp_in i (aN q)) (hd : decode cc pc = .ok (.laload, 1)) (k : gw p l e R s m args below meth c D cy ad b0 cl sl Q nL (pc + 1) σ loc (.long (gL σ q i.toNatClampNeg) :: st)) : gw p l e R s m args below meth c D cy ad b0 cl sl Q nL pc σ loc (.int i :: .ref (ad q) :: st) := fun H locs ls hP hS hl => by
  have he := wld_get (ad := ad) (cy := cy) (σ := σ) hq.2.1
  rw [wE_long hq.1 hq.2.2] at he
  exact va_lald C.x C.b C.K hP q 2 he (tys_at (cy := cy) (k := 2) (by decide)) hi hd (k H locs ls hP hS hl)
theorem g_last (C : Cx p s m args meth c D cy ad b0 y cc nL ret) {q : Nat} {i : Int32} {x : Int64} (hq : 11 ≤ q ∧ q < NW ∧ aK q = 2) (hi : vp_in i (aN q)) (hd : decode cc pc = .ok (.lastore, 1)) (k : ∀ σ2, σ2 = stL σ q i.toNatClampNeg x → gw p l e R s m args below meth c D cy ad b0 cl sl Q nL (pc + 1) σ2 loc st) : gw p l e R s m args below meth c D cy ad b0 cl sl Q nL pc σ loc (.long x :: .int i :: .ref (ad q) :: st) := fun H locs ls hP hS hl => by
  have he := wld_get (ad := ad) (cy := cy) (σ := σ) hq.2.1
  rw [wE_long hq.1 hq.2.2] at he
  refine va_last C.x C.b C.K hP (wld_D C.A σ) hS q 2 he (tys_at (cy := cy) (k := 2) (by decide)) hi hd (fun H1 locs1 hP1 _ hS1 => k _ rfl H1 locs1 ls ?_ hS1 hl)
  have e1 : (wld ad cy σ).set q (ad q, .inl (cy 2, aN q, .inr (.inl (vp_updL (gL σ q) i.toNatClampNeg x)))) = wld ad cy (stL σ q i.toNatClampNeg x) := wld_set (by
    rw [wE_long hq.1 hq.2.2]
    show Sum.inl (cy 2, aN q, Sum.inr (Sum.inl (up2 σ.2.2.1 q i.toNatClampNeg x q))) = _
    rw [up2_updL]
    rfl) (fun j _ hj => wE_stL hj)
  rw [← e1]
  exact hP1
theorem g_mmin (C : Cx p s m args meth c D cy ad b0 y cc nL ret) {i : Nat} {x z : Int32} (hw : Cond.methodLink y.cls i Lib.Math.min.name ∈ wsG) (hs : Cond.static Lib.Math.min.name ∈ wsG) (hi : Cond.initialized "java/lang/Math" ∈ wsG) (hc : Cond.code Lib.Math.min.name Lib.Math.min.code 2 (some .int) ∈ wsG) (hR : 1 ≤ R.frames ∧ (st.map fun v => v.category).sum + 13 ≤ R.locals ∧ cl ≤ R.cells ∧ sl ≤ R.slots) (hd : decode cc pc = .ok (.invokestatic i, 3)) (k : gw p l e R s m args below meth c D cy ad b0 cl sl Q nL (pc + 3) σ loc (.int (if z < x then z else x) :: st)) : gw p l e R s m args below meth c D cy ad b0 cl sl Q nL pc σ loc (.int z :: .int x :: st) := fun H locs ls hP hS hl =>
  va_mmin C.x C.b (by rw [C.ml, hl.1]) C.o (C.ts _ hw) (C.ts _ hs) (C.ts _ hi) (C.ts _ hc) hR.1 hR.2.1 hR.2.2.1 hR.2.2.2 hd (k H locs ls hP hS hl)
end GW
