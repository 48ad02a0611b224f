/-! ===== what the walks stand on: numbers, small facts, field rows, callees ===== -/
def bl (v : Int32) : Prop := v = nI 0 ∨ v = nI 1
theorem bl_0 : bl (nI 0) := Or.inl rfl
theorem bl_1 : bl (nI 1) := Or.inr rfl
theorem narrow_bl {v : Int32} (h : bl v) : narrow .boolean (.int v) = .int v := by
  rcases h with rfl | rfl <;> rfl
theorem fits_bl {v : Int32} (h : bl v) : fits .boolean (.int v) = true := by
  rcases h with rfl | rfl <;> rfl
def isK (q k : Nat) : Prop := 11 ≤ q ∧ q < NW ∧ aK q = k
theorem dite_case (c : Prop) {A : Prop} (f : c → A) (g : ¬ c → A) : A := (Classical.em c).elim f g
def tsel (dflt lo hi : Int) (offs : Array Int) (x : Int) : Int := if x < lo ∨ hi < x then dflt else (offs[(x - lo).toNat]?).getD 0
theorem sw_at {α : Type} {f : Int32 → α} {x k : Int32} {o : α} (h : x = k) (hk : f k = o) : f x = o := by rw [h]; exact hk
section
variable {p : Program} {l : Launch} {e : Env} {R : Room} {s : State} {m : MethodId} {args : Array Value} {below : List Frame} {meth : Method} {c : Code} {D : va_G} {cy : Nat → ClassId} {ad : Nat → Nat} {b0 cl sl : Nat} {Q : State → Prop} {nL pc : Nat} {σ : Sg} {loc : List (Option Value)} {st : List Value} {y : MethodName} {cc : ByteArray} {ret : Option FieldType}
theorem g_lsw (C : Cx p s m args meth c D cy ad b0 y cc nL ret) {x : Int32} {dflt : Int} {ps : Array (Int × Int)} {len : Nat} {off : Int} (tgt : Nat) (hd : decode cc pc = .ok (.lookupswitch dflt ps, len)) (hp : (ps.toList.zip (ps.toList.drop 1)).all (fun (a, next) => a.1 < next.1) = true) (ho : Op.lookupswitch.offset ps.toList dflt x.toInt = off) (ht : (pc : Int) + off = (tgt : Int)) (k : gw p l e R s m args below meth c D cy ad b0 cl sl Q nL tgt σ loc st) : gw p l e R s m args below meth c D cy ad b0 cl sl Q nL pc σ loc (.int x :: st) := fun H locs ls hP hS hl => lv_lookup C.x C.b hd hp ho ht (k H locs ls hP hS hl)
end
abbrev gI (p : Program) (l : Launch) (e : Env) (R : Room) (s : State) (m : MethodId) (args : Array Value) (below : List Frame) (meth : Method) (c : Code) (D : va_G) (cy : Nat → ClassId) (ad : Nat → Nat) (b0 : Nat) (Q : Int32 → Sg → Prop) (nL pc : Nat) (σ : Sg) (loc : List (Option Value)) (st : List Value) : Prop := gw p l e R s m args below meth c D cy ad b0 0 0 (MQ below (va_Qi Q (Wd D cy ad) (fun q => b0 ≤ q)) args s 0 0 (fun q => b0 ≤ q)) nL pc σ loc st
abbrev gL' (p : Program) (l : Launch) (e : Env) (R : Room) (s : State) (m : MethodId) (args : Array Value) (below : List Frame) (meth : Method) (c : Code) (D : va_G) (cy : Nat → ClassId) (ad : Nat → Nat) (b0 : Nat) (Q : Int64 → Sg → Prop) (nL pc : Nat) (σ : Sg) (loc : List (Option Value)) (st : List Value) : Prop := gw p l e R s m args below meth c D cy ad b0 0 0 (MQ below (va_Ql Q (Wd D cy ad) (fun q => b0 ≤ q)) args s 0 0 (fun q => b0 ≤ q)) nL pc σ loc st
abbrev gV (p : Program) (l : Launch) (e : Env) (R : Room) (s : State) (m : MethodId) (args : Array Value) (below : List Frame) (meth : Method) (c : Code) (D : va_G) (cy : Nat → ClassId) (ad : Nat → Nat) (b0 : Nat) (Q : Sg → Prop) (nL pc : Nat) (σ : Sg) (loc : List (Option Value)) (st : List Value) : Prop := gw p l e R s m args below meth c D cy ad b0 0 0 (MQ below (va_Qv Q (Wd D cy ad) (fun q => b0 ≤ q)) args s 0 0 (fun q => b0 ≤ q)) nL pc σ loc st
abbrev gRf (p : Program) (l : Launch) (e : Env) (R : Room) (s : State) (m : MethodId) (args : Array Value) (below : List Frame) (meth : Method) (c : Code) (D : va_G) (cy : Nat → ClassId) (ad : Nat → Nat) (b0 : Nat) (Q : Sg → Prop) (r nL pc : Nat) (σ : Sg) (loc : List (Option Value)) (st : List Value) : Prop := gw p l e R s m args below meth c D cy ad b0 0 0 (MQ below (va_Qr Q (fun σ' a t => a = ad r ∧ Wd D cy ad σ' t) (fun q => b0 ≤ q)) args s 0 0 (fun q => b0 ≤ q)) nL pc σ loc st
/-- a copied stretch of a row -/
def stC (σ : Sg) (a b : Nat) (sp dp n : Int32) : Sg := (σ.1, (fun x => if x = b then va_cpy (σ.2.1 a) (σ.2.1 b) sp.toNatClampNeg dp.toNatClampNeg n.toNatClampNeg else σ.2.1 x), σ.2.2)
theorem kb_m9 : (Int8.ofInt (-9)).toInt32 = (-9 : Int32) := by decide
theorem kb_8 : (Int8.ofInt (8)).toInt32 = (nI 8) := by decide
theorem kb_16 : (Int8.ofInt (16)).toInt32 = (nI 16) := by decide
theorem kb_25 : (Int8.ofInt (25)).toInt32 = (nI 25) := by decide
theorem kc_0 : Int32.ofInt (0) = (nI 0) := by decide
theorem kc_1 : Int32.ofInt (1) = (nI 1) := by decide
theorem kc_4 : Int32.ofInt (4) = (nI 4) := by decide
theorem kl_0 : Int64.ofNat ((0 : Fin 2) : Nat) = (lN 0) := by decide
theorem kl_1 : Int64.ofNat ((1 : Fin 2) : Nat) = (lN 1) := by decide
theorem ks_255 : (Int16.ofInt (255)).toInt32 = (nI 255) := by decide
section
variable {p : Program} {l : Launch} {e : Env} {R : Room} {s : State} {m : MethodId} {args : Array Value} {below : List Frame} {meth : Method} {c : Code} {D : va_G} {cy : Nat → ClassId} {ad : Nat → Nat} {b0 cl sl : Nat} {Q : State → Prop} {nL pc : Nat} {σ : Sg} {loc : List (Option Value)} {st : List Value}
end
theorem cal_X8_byteOf : CalS yX8_byteOf cX8_byteOf 3 (some .int) 2 := ⟨mw_192, mw_2, mw_193, by decide, by decide, by decide +kernel⟩
