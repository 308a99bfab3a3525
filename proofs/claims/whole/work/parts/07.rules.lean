section VR
variable {G : Gl} {y : MethodName} {cc : ByteArray} {nL : Nat} {ret : Option FieldType} {dep bc bs : Nat} {Φ : List Value → Sg → Dt → Prop} {pc : Nat} {lv : List (Nat × Value)} {st : List Value} {σ : Sg} {d : Dt}
theorem V_iadd {x z : Int32} (hd : decode cc pc = .ok (.iadd, 1))  (k : V G y cc nL ret dep bc bs Φ (pc + 1) lv (.int (x + z) :: st) σ d) : V G y cc nL ret dep bc bs Φ pc lv (.int z :: .int x :: st) σ d := by
  intro p e R s m args below meth c H locs cells slots Q ls gk cx h1 h2 hr hl hv kk
  exact lv_iadd cx.1 cx.2.1 hd (k p e R s m args below meth c H locs cells slots Q ls gk cx h1 h2 hr hl hv kk)
theorem V_isub {x z : Int32} (hd : decode cc pc = .ok (.isub, 1))  (k : V G y cc nL ret dep bc bs Φ (pc + 1) lv (.int (x - z) :: st) σ d) : V G y cc nL ret dep bc bs Φ pc lv (.int z :: .int x :: st) σ d := by
  intro p e R s m args below meth c H locs cells slots Q ls gk cx h1 h2 hr hl hv kk
  exact lv_isub cx.1 cx.2.1 hd (k p e R s m args below meth c H locs cells slots Q ls gk cx h1 h2 hr hl hv kk)
theorem V_imul {x z : Int32} (hd : decode cc pc = .ok (.imul, 1))  (k : V G y cc nL ret dep bc bs Φ (pc + 1) lv (.int (x * z) :: st) σ d) : V G y cc nL ret dep bc bs Φ pc lv (.int z :: .int x :: st) σ d := by
  intro p e R s m args below meth c H locs cells slots Q ls gk cx h1 h2 hr hl hv kk
  exact lv_imul cx.1 cx.2.1 hd (k p e R s m args below meth c H locs cells slots Q ls gk cx h1 h2 hr hl hv kk)
theorem V_iand {x z : Int32} (hd : decode cc pc = .ok (.iand, 1))  (k : V G y cc nL ret dep bc bs Φ (pc + 1) lv (.int (x &&& z) :: st) σ d) : V G y cc nL ret dep bc bs Φ pc lv (.int z :: .int x :: st) σ d := by
  intro p e R s m args below meth c H locs cells slots Q ls gk cx h1 h2 hr hl hv kk
  exact lv_iand cx.1 cx.2.1 hd (k p e R s m args below meth c H locs cells slots Q ls gk cx h1 h2 hr hl hv kk)
theorem V_ior {x z : Int32} (hd : decode cc pc = .ok (.ior, 1))  (k : V G y cc nL ret dep bc bs Φ (pc + 1) lv (.int (x ||| z) :: st) σ d) : V G y cc nL ret dep bc bs Φ pc lv (.int z :: .int x :: st) σ d := by
  intro p e R s m args below meth c H locs cells slots Q ls gk cx h1 h2 hr hl hv kk
  exact lv_ior cx.1 cx.2.1 hd (k p e R s m args below meth c H locs cells slots Q ls gk cx h1 h2 hr hl hv kk)
theorem V_ladd {x z : Int64} (hd : decode cc pc = .ok (.ladd, 1))  (k : V G y cc nL ret dep bc bs Φ (pc + 1) lv (.long (x + z) :: st) σ d) : V G y cc nL ret dep bc bs Φ pc lv (.long z :: .long x :: st) σ d := by
  intro p e R s m args below meth c H locs cells slots Q ls gk cx h1 h2 hr hl hv kk
  exact lv_ladd cx.1 cx.2.1 hd (k p e R s m args below meth c H locs cells slots Q ls gk cx h1 h2 hr hl hv kk)
theorem V_lsub {x z : Int64} (hd : decode cc pc = .ok (.lsub, 1))  (k : V G y cc nL ret dep bc bs Φ (pc + 1) lv (.long (x - z) :: st) σ d) : V G y cc nL ret dep bc bs Φ pc lv (.long z :: .long x :: st) σ d := by
  intro p e R s m args below meth c H locs cells slots Q ls gk cx h1 h2 hr hl hv kk
  exact lv_lsub cx.1 cx.2.1 hd (k p e R s m args below meth c H locs cells slots Q ls gk cx h1 h2 hr hl hv kk)
theorem V_lmul {x z : Int64} (hd : decode cc pc = .ok (.lmul, 1))  (k : V G y cc nL ret dep bc bs Φ (pc + 1) lv (.long (x * z) :: st) σ d) : V G y cc nL ret dep bc bs Φ pc lv (.long z :: .long x :: st) σ d := by
  intro p e R s m args below meth c H locs cells slots Q ls gk cx h1 h2 hr hl hv kk
  exact lv_lmul cx.1 cx.2.1 hd (k p e R s m args below meth c H locs cells slots Q ls gk cx h1 h2 hr hl hv kk)
theorem V_land {x z : Int64} (hd : decode cc pc = .ok (.land, 1))  (k : V G y cc nL ret dep bc bs Φ (pc + 1) lv (.long (x &&& z) :: st) σ d) : V G y cc nL ret dep bc bs Φ pc lv (.long z :: .long x :: st) σ d := by
  intro p e R s m args below meth c H locs cells slots Q ls gk cx h1 h2 hr hl hv kk
  exact lv_land cx.1 cx.2.1 hd (k p e R s m args below meth c H locs cells slots Q ls gk cx h1 h2 hr hl hv kk)
theorem V_lor {x z : Int64} (hd : decode cc pc = .ok (.lor, 1))  (k : V G y cc nL ret dep bc bs Φ (pc + 1) lv (.long (x ||| z) :: st) σ d) : V G y cc nL ret dep bc bs Φ pc lv (.long z :: .long x :: st) σ d := by
  intro p e R s m args below meth c H locs cells slots Q ls gk cx h1 h2 hr hl hv kk
  exact lv_lor cx.1 cx.2.1 hd (k p e R s m args below meth c H locs cells slots Q ls gk cx h1 h2 hr hl hv kk)
theorem V_idiv {x z : Int32} (hd : decode cc pc = .ok (.idiv, 1)) (hn : ¬ z = 0) (k : V G y cc nL ret dep bc bs Φ (pc + 1) lv (.int (x / z) :: st) σ d) : V G y cc nL ret dep bc bs Φ pc lv (.int z :: .int x :: st) σ d := by
  intro p e R s m args below meth c H locs cells slots Q ls gk cx h1 h2 hr hl hv kk
  exact lv_idiv cx.1 cx.2.1 hd hn (k p e R s m args below meth c H locs cells slots Q ls gk cx h1 h2 hr hl hv kk)
theorem V_irem {x z : Int32} (hd : decode cc pc = .ok (.irem, 1)) (hn : ¬ z = 0) (k : V G y cc nL ret dep bc bs Φ (pc + 1) lv (.int (x - x / z * z) :: st) σ d) : V G y cc nL ret dep bc bs Φ pc lv (.int z :: .int x :: st) σ d := by
  intro p e R s m args below meth c H locs cells slots Q ls gk cx h1 h2 hr hl hv kk
  exact lv_irem cx.1 cx.2.1 hd hn (k p e R s m args below meth c H locs cells slots Q ls gk cx h1 h2 hr hl hv kk)
theorem V_ineg {x : Int32} (hd : decode cc pc = .ok (.ineg, 1))  (k : V G y cc nL ret dep bc bs Φ (pc + 1) lv (.int (-x) :: st) σ d) : V G y cc nL ret dep bc bs Φ pc lv (.int x :: st) σ d := by
  intro p e R s m args below meth c H locs cells slots Q ls gk cx h1 h2 hr hl hv kk
  exact lv_ineg cx.1 cx.2.1 hd (k p e R s m args below meth c H locs cells slots Q ls gk cx h1 h2 hr hl hv kk)
theorem V_ishl {x z : Int32} (hd : decode cc pc = .ok (.ishl, 1))  (k : V G y cc nL ret dep bc bs Φ (pc + 1) lv (.int (x <<< (z &&& 31)) :: st) σ d) : V G y cc nL ret dep bc bs Φ pc lv (.int z :: .int x :: st) σ d := by
  intro p e R s m args below meth c H locs cells slots Q ls gk cx h1 h2 hr hl hv kk
  exact lv_ishl cx.1 cx.2.1 hd (k p e R s m args below meth c H locs cells slots Q ls gk cx h1 h2 hr hl hv kk)
theorem V_ishr {x z : Int32} (hd : decode cc pc = .ok (.ishr, 1))  (k : V G y cc nL ret dep bc bs Φ (pc + 1) lv (.int (x >>> (z &&& 31)) :: st) σ d) : V G y cc nL ret dep bc bs Φ pc lv (.int z :: .int x :: st) σ d := by
  intro p e R s m args below meth c H locs cells slots Q ls gk cx h1 h2 hr hl hv kk
  exact lv_ishr cx.1 cx.2.1 hd (k p e R s m args below meth c H locs cells slots Q ls gk cx h1 h2 hr hl hv kk)
theorem V_iushr {x z : Int32} (hd : decode cc pc = .ok (.iushr, 1))  (k : V G y cc nL ret dep bc bs Φ (pc + 1) lv (.int ((x.toUInt32 >>> (z.toUInt32 &&& Int32.toUInt32 31)).toInt32) :: st) σ d) : V G y cc nL ret dep bc bs Φ pc lv (.int z :: .int x :: st) σ d := by
  intro p e R s m args below meth c H locs cells slots Q ls gk cx h1 h2 hr hl hv kk
  exact lv_iushr cx.1 cx.2.1 hd rfl (k p e R s m args below meth c H locs cells slots Q ls gk cx h1 h2 hr hl hv kk)
theorem V_lshl {x : Int64} {z : Int32} (hd : decode cc pc = .ok (.lshl, 1))  (k : V G y cc nL ret dep bc bs Φ (pc + 1) lv (.long (x <<< (z.toInt64 &&& 63)) :: st) σ d) : V G y cc nL ret dep bc bs Φ pc lv (.int z :: .long x :: st) σ d := by
  intro p e R s m args below meth c H locs cells slots Q ls gk cx h1 h2 hr hl hv kk
  exact lv_lshl cx.1 cx.2.1 hd rfl (k p e R s m args below meth c H locs cells slots Q ls gk cx h1 h2 hr hl hv kk)
theorem V_i2l {x : Int32} (hd : decode cc pc = .ok (.i2l, 1))  (k : V G y cc nL ret dep bc bs Φ (pc + 1) lv (.long x.toInt64 :: st) σ d) : V G y cc nL ret dep bc bs Φ pc lv (.int x :: st) σ d := by
  intro p e R s m args below meth c H locs cells slots Q ls gk cx h1 h2 hr hl hv kk
  exact lv_i2l cx.1 cx.2.1 hd rfl (k p e R s m args below meth c H locs cells slots Q ls gk cx h1 h2 hr hl hv kk)
theorem V_l2i {x : Int64} (hd : decode cc pc = .ok (.l2i, 1))  (k : V G y cc nL ret dep bc bs Φ (pc + 1) lv (.int x.toInt32 :: st) σ d) : V G y cc nL ret dep bc bs Φ pc lv (.long x :: st) σ d := by
  intro p e R s m args below meth c H locs cells slots Q ls gk cx h1 h2 hr hl hv kk
  exact lv_l2i cx.1 cx.2.1 hd rfl (k p e R s m args below meth c H locs cells slots Q ls gk cx h1 h2 hr hl hv kk)
theorem V_i2b {x : Int32} (hd : decode cc pc = .ok (.i2b, 1))  (k : V G y cc nL ret dep bc bs Φ (pc + 1) lv (.int x.toInt8.toInt32 :: st) σ d) : V G y cc nL ret dep bc bs Φ pc lv (.int x :: st) σ d := by
  intro p e R s m args below meth c H locs cells slots Q ls gk cx h1 h2 hr hl hv kk
  exact lv_i2b cx.1 cx.2.1 hd rfl (k p e R s m args below meth c H locs cells slots Q ls gk cx h1 h2 hr hl hv kk)
theorem V_i2c {x : Int32} (hd : decode cc pc = .ok (.i2c, 1))  (k : V G y cc nL ret dep bc bs Φ (pc + 1) lv (.int (x.toUInt32 % 65536).toInt32 :: st) σ d) : V G y cc nL ret dep bc bs Φ pc lv (.int x :: st) σ d := by
  intro p e R s m args below meth c H locs cells slots Q ls gk cx h1 h2 hr hl hv kk
  exact lv_i2c cx.1 cx.2.1 hd rfl (k p e R s m args below meth c H locs cells slots Q ls gk cx h1 h2 hr hl hv kk)
theorem V_iconst {n : Int} {x : Int32} (hd : decode cc pc = .ok (.iconst n, 1)) (hv0 : Int32.ofInt n = x) (k : V G y cc nL ret dep bc bs Φ (pc + 1) lv (.int x :: st) σ d) : V G y cc nL ret dep bc bs Φ pc lv st σ d := by
  intro p e R s m args below meth c H locs cells slots Q ls gk cx h1 h2 hr hl hv kk
  exact lv_iconst cx.1 cx.2.1 hd hv0 (k p e R s m args below meth c H locs cells slots Q ls gk cx h1 h2 hr hl hv kk)
theorem V_bipush {n : Int} {x : Int32} (hd : decode cc pc = .ok (.bipush n, 2)) (hv0 : (Int8.ofInt n).toInt32 = x) (k : V G y cc nL ret dep bc bs Φ (pc + 2) lv (.int x :: st) σ d) : V G y cc nL ret dep bc bs Φ pc lv st σ d := by
  intro p e R s m args below meth c H locs cells slots Q ls gk cx h1 h2 hr hl hv kk
  exact lv_bipush cx.1 cx.2.1 hd hv0 (k p e R s m args below meth c H locs cells slots Q ls gk cx h1 h2 hr hl hv kk)
theorem V_sipush {n : Int} {x : Int32} (hd : decode cc pc = .ok (.sipush n, 3)) (hv0 : (Int16.ofInt n).toInt32 = x) (k : V G y cc nL ret dep bc bs Φ (pc + 3) lv (.int x :: st) σ d) : V G y cc nL ret dep bc bs Φ pc lv st σ d := by
  intro p e R s m args below meth c H locs cells slots Q ls gk cx h1 h2 hr hl hv kk
  exact lv_sipush cx.1 cx.2.1 hd hv0 (k p e R s m args below meth c H locs cells slots Q ls gk cx h1 h2 hr hl hv kk)
theorem V_lconst {n : Fin 2} {x : Int64} (hd : decode cc pc = .ok (.lconst n, 1)) (hv0 : Int64.ofNat (n : Nat) = x) (k : V G y cc nL ret dep bc bs Φ (pc + 1) lv (.long x :: st) σ d) : V G y cc nL ret dep bc bs Φ pc lv st σ d := by
  intro p e R s m args below meth c H locs cells slots Q ls gk cx h1 h2 hr hl hv kk
  exact lv_lconst cx.1 cx.2.1 hd hv0 (k p e R s m args below meth c H locs cells slots Q ls gk cx h1 h2 hr hl hv kk)
theorem V_ldc {i : Nat} {x : Int32} (hd : decode cc pc = .ok (.ldc i, 2)) (hw : Cond.constant y.cls i x ∈ lw_g) (k : V G y cc nL ret dep bc bs Φ (pc + 2) lv (.int x :: st) σ d) : V G y cc nL ret dep bc bs Φ pc lv st σ d := by
  intro p e R s m args below meth c H locs cells slots Q ls gk cx h1 h2 hr hl hv kk
  exact lv_ldc cx.1 cx.2.1 cx.2.2.2.2.1 (cx.2.2.2.2.2.1 _ hw) hd (k p e R s m args below meth c H locs cells slots Q ls gk cx h1 h2 hr hl hv kk)
theorem V_ldcw {i : Nat} {x : Int32} (hd : decode cc pc = .ok (.ldc_w i, 3)) (hw : Cond.constant y.cls i x ∈ lw_g) (k : V G y cc nL ret dep bc bs Φ (pc + 3) lv (.int x :: st) σ d) : V G y cc nL ret dep bc bs Φ pc lv st σ d := by
  intro p e R s m args below meth c H locs cells slots Q ls gk cx h1 h2 hr hl hv kk
  exact lv_ldcw cx.1 cx.2.1 cx.2.2.2.2.1 (cx.2.2.2.2.2.1 _ hw) hd (k p e R s m args below meth c H locs cells slots Q ls gk cx h1 h2 hr hl hv kk)
theorem V_ldc2 {i : Nat} {x : Int64} (hd : decode cc pc = .ok (.ldc2_w i, 3)) (hw : Cond.constantLong y.cls i x ∈ lw_g) (k : V G y cc nL ret dep bc bs Φ (pc + 3) lv (.long x :: st) σ d) : V G y cc nL ret dep bc bs Φ pc lv st σ d := by
  intro p e R s m args below meth c H locs cells slots Q ls gk cx h1 h2 hr hl hv kk
  exact lv_ldc2 cx.1 cx.2.1 cx.2.2.2.2.1 (cx.2.2.2.2.2.1 _ hw) hd (k p e R s m args below meth c H locs cells slots Q ls gk cx h1 h2 hr hl hv kk)
theorem V_iload_n {j : Fin 4} {x : Int32} {i : Nat} (k0 : Nat) (hd : decode cc pc = .ok (.iload_n j, 1)) (hi : (j : Nat) = i) (hk : lv[k0]? = some (i, .int x)) (k : V G y cc nL ret dep bc bs Φ (pc + 1) lv (.int x :: st) σ d) : V G y cc nL ret dep bc bs Φ pc lv st σ d := by
  intro p e R s m args below meth c H locs cells slots Q ls gk cx h1 h2 hr hl hv kk
  exact lv_iload_n cx.1 cx.2.1 hd hi (lv_at hv k0 hk) (k p e R s m args below meth c H locs cells slots Q ls gk cx h1 h2 hr hl hv kk)
theorem V_iload {x : Int32} {i : Nat} (k0 : Nat) (hd : decode cc pc = .ok (.iload i, 2)) (hk : lv[k0]? = some (i, .int x)) (k : V G y cc nL ret dep bc bs Φ (pc + 2) lv (.int x :: st) σ d) : V G y cc nL ret dep bc bs Φ pc lv st σ d := by
  intro p e R s m args below meth c H locs cells slots Q ls gk cx h1 h2 hr hl hv kk
  exact lv_iload cx.1 cx.2.1 hd (lv_at hv k0 hk) (k p e R s m args below meth c H locs cells slots Q ls gk cx h1 h2 hr hl hv kk)
theorem V_istore_n {j : Fin 4} {x : Int32} {i : Nat} {lv1 : List (Nat × Value)} (hd : decode cc pc = .ok (.istore_n j, 1)) (hi : (j : Nat) = i) (hn : i < nL) (hw : (i, Value.int x) :: lv.filter (fun q => !(q.1 == i) && !(q.1 + 1 == i && q.2.category == 2)) = lv1) (k : V G y cc nL ret dep bc bs Φ (pc + 1) lv1 st σ d) : V G y cc nL ret dep bc bs Φ pc lv (.int x :: st) σ d := by
  intro p e R s m args below meth c H locs cells slots Q ls gk cx h1 h2 hr hl hv kk
  exact lv_istore_n cx.1 cx.2.1 hd hi hv hn hw (fun ls1 hl1 => (k p e R s m args below meth c H locs cells slots Q ls1 gk cx h1 h2 hr hl hl1 kk))
theorem V_istore {x : Int32} {i : Nat} {lv1 : List (Nat × Value)} (hd : decode cc pc = .ok (.istore i, 2)) (hn : i < nL) (hw : (i, Value.int x) :: lv.filter (fun q => !(q.1 == i) && !(q.1 + 1 == i && q.2.category == 2)) = lv1) (k : V G y cc nL ret dep bc bs Φ (pc + 2) lv1 st σ d) : V G y cc nL ret dep bc bs Φ pc lv (.int x :: st) σ d := by
  intro p e R s m args below meth c H locs cells slots Q ls gk cx h1 h2 hr hl hv kk
  exact lv_istore cx.1 cx.2.1 hd hv hn hw (fun ls1 hl1 => (k p e R s m args below meth c H locs cells slots Q ls1 gk cx h1 h2 hr hl hl1 kk))
theorem V_lload_n {j : Fin 4} {x : Int64} {i : Nat} (k0 : Nat) (hd : decode cc pc = .ok (.lload_n j, 1)) (hi : (j : Nat) = i) (hk : lv[k0]? = some (i, .long x)) (k : V G y cc nL ret dep bc bs Φ (pc + 1) lv (.long x :: st) σ d) : V G y cc nL ret dep bc bs Φ pc lv st σ d := by
  intro p e R s m args below meth c H locs cells slots Q ls gk cx h1 h2 hr hl hv kk
  exact lv_lload_n cx.1 cx.2.1 hd hi (lv_at hv k0 hk) (k p e R s m args below meth c H locs cells slots Q ls gk cx h1 h2 hr hl hv kk)
theorem V_lload {x : Int64} {i : Nat} (k0 : Nat) (hd : decode cc pc = .ok (.lload i, 2)) (hk : lv[k0]? = some (i, .long x)) (k : V G y cc nL ret dep bc bs Φ (pc + 2) lv (.long x :: st) σ d) : V G y cc nL ret dep bc bs Φ pc lv st σ d := by
  intro p e R s m args below meth c H locs cells slots Q ls gk cx h1 h2 hr hl hv kk
  exact lv_lload cx.1 cx.2.1 hd (lv_at hv k0 hk) (k p e R s m args below meth c H locs cells slots Q ls gk cx h1 h2 hr hl hv kk)
theorem V_lstore_n {j : Fin 4} {x : Int64} {i : Nat} {lv1 : List (Nat × Value)} (hd : decode cc pc = .ok (.lstore_n j, 1)) (hi : (j : Nat) = i) (hn : i + 1 < nL) (hw : (i, Value.long x) :: lv.filter (fun q => !(q.1 == i) && (!(q.1 == i + 1) && !(q.1 + 1 == i && q.2.category == 2))) = lv1) (k : V G y cc nL ret dep bc bs Φ (pc + 1) lv1 st σ d) : V G y cc nL ret dep bc bs Φ pc lv (.long x :: st) σ d := by
  intro p e R s m args below meth c H locs cells slots Q ls gk cx h1 h2 hr hl hv kk
  exact lv_lstore_n cx.1 cx.2.1 hd hi hv hn hw (fun ls1 hl1 => (k p e R s m args below meth c H locs cells slots Q ls1 gk cx h1 h2 hr hl hl1 kk))
theorem V_lstore {x : Int64} {i : Nat} {lv1 : List (Nat × Value)} (hd : decode cc pc = .ok (.lstore i, 2)) (hn : i + 1 < nL) (hw : (i, Value.long x) :: lv.filter (fun q => !(q.1 == i) && (!(q.1 == i + 1) && !(q.1 + 1 == i && q.2.category == 2))) = lv1) (k : V G y cc nL ret dep bc bs Φ (pc + 2) lv1 st σ d) : V G y cc nL ret dep bc bs Φ pc lv (.long x :: st) σ d := by
  intro p e R s m args below meth c H locs cells slots Q ls gk cx h1 h2 hr hl hv kk
  exact lv_lstore cx.1 cx.2.1 hd hv hn hw (fun ls1 hl1 => (k p e R s m args below meth c H locs cells slots Q ls1 gk cx h1 h2 hr hl hl1 kk))
theorem V_aload_n {j : Fin 4} {x : Nat} {i : Nat} (k0 : Nat) (hd : decode cc pc = .ok (.aload_n j, 1)) (hi : (j : Nat) = i) (hk : lv[k0]? = some (i, .ref x)) (k : V G y cc nL ret dep bc bs Φ (pc + 1) lv (.ref x :: st) σ d) : V G y cc nL ret dep bc bs Φ pc lv st σ d := by
  intro p e R s m args below meth c H locs cells slots Q ls gk cx h1 h2 hr hl hv kk
  exact lv_aload_n cx.1 cx.2.1 hd hi (lv_at hv k0 hk) (k p e R s m args below meth c H locs cells slots Q ls gk cx h1 h2 hr hl hv kk)
theorem V_aload {x : Nat} {i : Nat} (k0 : Nat) (hd : decode cc pc = .ok (.aload i, 2)) (hk : lv[k0]? = some (i, .ref x)) (k : V G y cc nL ret dep bc bs Φ (pc + 2) lv (.ref x :: st) σ d) : V G y cc nL ret dep bc bs Φ pc lv st σ d := by
  intro p e R s m args below meth c H locs cells slots Q ls gk cx h1 h2 hr hl hv kk
  exact lv_aload cx.1 cx.2.1 hd (lv_at hv k0 hk) (k p e R s m args below meth c H locs cells slots Q ls gk cx h1 h2 hr hl hv kk)
theorem V_astore_n {j : Fin 4} {x : Nat} {i : Nat} {lv1 : List (Nat × Value)} (hd : decode cc pc = .ok (.astore_n j, 1)) (hi : (j : Nat) = i) (hn : i < nL) (hw : (i, Value.ref x) :: lv.filter (fun q => !(q.1 == i) && !(q.1 + 1 == i && q.2.category == 2)) = lv1) (k : V G y cc nL ret dep bc bs Φ (pc + 1) lv1 st σ d) : V G y cc nL ret dep bc bs Φ pc lv (.ref x :: st) σ d := by
  intro p e R s m args below meth c H locs cells slots Q ls gk cx h1 h2 hr hl hv kk
  exact lv_astore_n cx.1 cx.2.1 hd hi hv hn hw (fun ls1 hl1 => (k p e R s m args below meth c H locs cells slots Q ls1 gk cx h1 h2 hr hl hl1 kk))
theorem V_astore {x : Nat} {i : Nat} {lv1 : List (Nat × Value)} (hd : decode cc pc = .ok (.astore i, 2)) (hn : i < nL) (hw : (i, Value.ref x) :: lv.filter (fun q => !(q.1 == i) && !(q.1 + 1 == i && q.2.category == 2)) = lv1) (k : V G y cc nL ret dep bc bs Φ (pc + 2) lv1 st σ d) : V G y cc nL ret dep bc bs Φ pc lv (.ref x :: st) σ d := by
  intro p e R s m args below meth c H locs cells slots Q ls gk cx h1 h2 hr hl hv kk
  exact lv_astore cx.1 cx.2.1 hd hv hn hw (fun ls1 hl1 => (k p e R s m args below meth c H locs cells slots Q ls1 gk cx h1 h2 hr hl hl1 kk))
theorem V_iinc {i : Nat} {n : Int} {x z : Int32} {lv1 : List (Nat × Value)} (k0 : Nat) (hd : decode cc pc = .ok (.iinc i n, 3)) (hk : lv[k0]? = some (i, .int x)) (hz : x + Int32.ofInt n = z) (hn : i < nL) (hw : (i, Value.int z) :: lv.filter (fun q => !(q.1 == i) && !(q.1 + 1 == i && q.2.category == 2)) = lv1) (k : V G y cc nL ret dep bc bs Φ (pc + 3) lv1 st σ d) : V G y cc nL ret dep bc bs Φ pc lv st σ d := by
  intro p e R s m args below meth c H locs cells slots Q ls gk cx h1 h2 hr hl hv kk
  exact lv_iinc cx.1 cx.2.1 hd hv hk hz hn hw (fun ls1 hl1 => (k p e R s m args below meth c H locs cells slots Q ls1 gk cx h1 h2 hr hl hl1 kk))
theorem V_dup {a : Value} (hd : decode cc pc = .ok (.dup, 1)) (ha : a.category = 1) (k : V G y cc nL ret dep bc bs Φ (pc + 1) lv (a :: a :: st) σ d) : V G y cc nL ret dep bc bs Φ pc lv (a :: st) σ d := by
  intro p e R s m args below meth c H locs cells slots Q ls gk cx h1 h2 hr hl hv kk
  exact lv_dup cx.1 cx.2.1 hd ha (k p e R s m args below meth c H locs cells slots Q ls gk cx h1 h2 hr hl hv kk)
theorem V_pop {a : Value} (hd : decode cc pc = .ok (.pop, 1)) (ha : a.category = 1) (k : V G y cc nL ret dep bc bs Φ (pc + 1) lv st σ d) : V G y cc nL ret dep bc bs Φ pc lv (a :: st) σ d := by
  intro p e R s m args below meth c H locs cells slots Q ls gk cx h1 h2 hr hl hv kk
  exact lv_pop cx.1 cx.2.1 hd ha (k p e R s m args below meth c H locs cells slots Q ls gk cx h1 h2 hr hl hv kk)
theorem V_dup2 {a b : Value} (hd : decode cc pc = .ok (.dup2, 1)) (ha : a.category = 1) (hb0 : b.category = 1) (k : V G y cc nL ret dep bc bs Φ (pc + 1) lv (a :: b :: a :: b :: st) σ d) : V G y cc nL ret dep bc bs Φ pc lv (a :: b :: st) σ d := by
  intro p e R s m args below meth c H locs cells slots Q ls gk cx h1 h2 hr hl hv kk
  exact lv_dup2_11 cx.1 cx.2.1 hd ha hb0 (k p e R s m args below meth c H locs cells slots Q ls gk cx h1 h2 hr hl hv kk)
theorem V_dup_x1 {a b : Value} (hd : decode cc pc = .ok (.dup_x1, 1)) (ha : a.category = 1) (hb0 : b.category = 1) (k : V G y cc nL ret dep bc bs Φ (pc + 1) lv (a :: b :: a :: st) σ d) : V G y cc nL ret dep bc bs Φ pc lv (a :: b :: st) σ d := by
  intro p e R s m args below meth c H locs cells slots Q ls gk cx h1 h2 hr hl hv kk
  exact lv_dup_x1 cx.1 cx.2.1 hd ha hb0 (k p e R s m args below meth c H locs cells slots Q ls gk cx h1 h2 hr hl hv kk)
theorem V_dup2L {a : Value} (hd : decode cc pc = .ok (.dup2, 1)) (ha : a.category = 2) (k : V G y cc nL ret dep bc bs Φ (pc + 1) lv (a :: a :: st) σ d) : V G y cc nL ret dep bc bs Φ pc lv (a :: st) σ d := by
  intro p e R s m args below meth c H locs cells slots Q ls gk cx h1 h2 hr hl hv kk
  exact lv_dup2_2 cx.1 cx.2.1 hd ha (k p e R s m args below meth c H locs cells slots Q ls gk cx h1 h2 hr hl hv kk)
theorem V_icmp_eq {x z : Int32} {off : Int} {tgt : Nat} (hd : decode cc pc = .ok (.if_icmp .eq off, 3)) (ht : (pc : Int) + off = (tgt : Int)) (kt : x = z → V G y cc nL ret dep bc bs Φ tgt lv st σ d) (kf : ¬ (x = z) → V G y cc nL ret dep bc bs Φ (pc + 3) lv st σ d) : V G y cc nL ret dep bc bs Φ pc lv (.int z :: .int x :: st) σ d := by
  intro p e R s m args below meth c H locs cells slots Q ls gk cx h1 h2 hr hl hv kk
  exact lv_icmp_eq cx.1 cx.2.1 hd ht (fun h => (kt h p e R s m args below meth c H locs cells slots Q ls gk cx h1 h2 hr hl hv kk)) (fun h => (kf h p e R s m args below meth c H locs cells slots Q ls gk cx h1 h2 hr hl hv kk))
theorem V_if_eq {x : Int32} {off : Int} {tgt : Nat} (hd : decode cc pc = .ok (.ifCond .eq off, 3)) (ht : (pc : Int) + off = (tgt : Int)) (kt : x = 0 → V G y cc nL ret dep bc bs Φ tgt lv st σ d) (kf : ¬ (x = 0) → V G y cc nL ret dep bc bs Φ (pc + 3) lv st σ d) : V G y cc nL ret dep bc bs Φ pc lv (.int x :: st) σ d := by
  intro p e R s m args below meth c H locs cells slots Q ls gk cx h1 h2 hr hl hv kk
  exact lv_if_eq cx.1 cx.2.1 hd ht (fun h => (kt h p e R s m args below meth c H locs cells slots Q ls gk cx h1 h2 hr hl hv kk)) (fun h => (kf h p e R s m args below meth c H locs cells slots Q ls gk cx h1 h2 hr hl hv kk))
theorem V_icmp_ne {x z : Int32} {off : Int} {tgt : Nat} (hd : decode cc pc = .ok (.if_icmp .ne off, 3)) (ht : (pc : Int) + off = (tgt : Int)) (kt : x ≠ z → V G y cc nL ret dep bc bs Φ tgt lv st σ d) (kf : x = z → V G y cc nL ret dep bc bs Φ (pc + 3) lv st σ d) : V G y cc nL ret dep bc bs Φ pc lv (.int z :: .int x :: st) σ d := by
  intro p e R s m args below meth c H locs cells slots Q ls gk cx h1 h2 hr hl hv kk
  exact lv_icmp_ne cx.1 cx.2.1 hd ht (fun h => (kt h p e R s m args below meth c H locs cells slots Q ls gk cx h1 h2 hr hl hv kk)) (fun h => (kf h p e R s m args below meth c H locs cells slots Q ls gk cx h1 h2 hr hl hv kk))
theorem V_if_ne {x : Int32} {off : Int} {tgt : Nat} (hd : decode cc pc = .ok (.ifCond .ne off, 3)) (ht : (pc : Int) + off = (tgt : Int)) (kt : x ≠ 0 → V G y cc nL ret dep bc bs Φ tgt lv st σ d) (kf : x = 0 → V G y cc nL ret dep bc bs Φ (pc + 3) lv st σ d) : V G y cc nL ret dep bc bs Φ pc lv (.int x :: st) σ d := by
  intro p e R s m args below meth c H locs cells slots Q ls gk cx h1 h2 hr hl hv kk
  exact lv_if_ne cx.1 cx.2.1 hd ht (fun h => (kt h p e R s m args below meth c H locs cells slots Q ls gk cx h1 h2 hr hl hv kk)) (fun h => (kf h p e R s m args below meth c H locs cells slots Q ls gk cx h1 h2 hr hl hv kk))
theorem V_icmp_lt {x z : Int32} {off : Int} {tgt : Nat} (hd : decode cc pc = .ok (.if_icmp .lt off, 3)) (ht : (pc : Int) + off = (tgt : Int)) (kt : x < z → V G y cc nL ret dep bc bs Φ tgt lv st σ d) (kf : ¬ (x < z) → V G y cc nL ret dep bc bs Φ (pc + 3) lv st σ d) : V G y cc nL ret dep bc bs Φ pc lv (.int z :: .int x :: st) σ d := by
  intro p e R s m args below meth c H locs cells slots Q ls gk cx h1 h2 hr hl hv kk
  exact lv_icmp_lt cx.1 cx.2.1 hd ht (fun h => (kt h p e R s m args below meth c H locs cells slots Q ls gk cx h1 h2 hr hl hv kk)) (fun h => (kf h p e R s m args below meth c H locs cells slots Q ls gk cx h1 h2 hr hl hv kk))
theorem V_if_lt {x : Int32} {off : Int} {tgt : Nat} (hd : decode cc pc = .ok (.ifCond .lt off, 3)) (ht : (pc : Int) + off = (tgt : Int)) (kt : x < 0 → V G y cc nL ret dep bc bs Φ tgt lv st σ d) (kf : ¬ (x < 0) → V G y cc nL ret dep bc bs Φ (pc + 3) lv st σ d) : V G y cc nL ret dep bc bs Φ pc lv (.int x :: st) σ d := by
  intro p e R s m args below meth c H locs cells slots Q ls gk cx h1 h2 hr hl hv kk
  exact lv_if_lt cx.1 cx.2.1 hd ht (fun h => (kt h p e R s m args below meth c H locs cells slots Q ls gk cx h1 h2 hr hl hv kk)) (fun h => (kf h p e R s m args below meth c H locs cells slots Q ls gk cx h1 h2 hr hl hv kk))
theorem V_icmp_ge {x z : Int32} {off : Int} {tgt : Nat} (hd : decode cc pc = .ok (.if_icmp .ge off, 3)) (ht : (pc : Int) + off = (tgt : Int)) (kt : z ≤ x → V G y cc nL ret dep bc bs Φ tgt lv st σ d) (kf : ¬ (z ≤ x) → V G y cc nL ret dep bc bs Φ (pc + 3) lv st σ d) : V G y cc nL ret dep bc bs Φ pc lv (.int z :: .int x :: st) σ d := by
  intro p e R s m args below meth c H locs cells slots Q ls gk cx h1 h2 hr hl hv kk
  exact lv_icmp_ge cx.1 cx.2.1 hd ht (fun h => (kt h p e R s m args below meth c H locs cells slots Q ls gk cx h1 h2 hr hl hv kk)) (fun h => (kf h p e R s m args below meth c H locs cells slots Q ls gk cx h1 h2 hr hl hv kk))
theorem V_if_ge {x : Int32} {off : Int} {tgt : Nat} (hd : decode cc pc = .ok (.ifCond .ge off, 3)) (ht : (pc : Int) + off = (tgt : Int)) (kt : 0 ≤ x → V G y cc nL ret dep bc bs Φ tgt lv st σ d) (kf : ¬ (0 ≤ x) → V G y cc nL ret dep bc bs Φ (pc + 3) lv st σ d) : V G y cc nL ret dep bc bs Φ pc lv (.int x :: st) σ d := by
  intro p e R s m args below meth c H locs cells slots Q ls gk cx h1 h2 hr hl hv kk
  exact lv_if_ge cx.1 cx.2.1 hd ht (fun h => (kt h p e R s m args below meth c H locs cells slots Q ls gk cx h1 h2 hr hl hv kk)) (fun h => (kf h p e R s m args below meth c H locs cells slots Q ls gk cx h1 h2 hr hl hv kk))
theorem V_icmp_gt {x z : Int32} {off : Int} {tgt : Nat} (hd : decode cc pc = .ok (.if_icmp .gt off, 3)) (ht : (pc : Int) + off = (tgt : Int)) (kt : z < x → V G y cc nL ret dep bc bs Φ tgt lv st σ d) (kf : ¬ (z < x) → V G y cc nL ret dep bc bs Φ (pc + 3) lv st σ d) : V G y cc nL ret dep bc bs Φ pc lv (.int z :: .int x :: st) σ d := by
  intro p e R s m args below meth c H locs cells slots Q ls gk cx h1 h2 hr hl hv kk
  exact lv_icmp_gt cx.1 cx.2.1 hd ht (fun h => (kt h p e R s m args below meth c H locs cells slots Q ls gk cx h1 h2 hr hl hv kk)) (fun h => (kf h p e R s m args below meth c H locs cells slots Q ls gk cx h1 h2 hr hl hv kk))
theorem V_if_gt {x : Int32} {off : Int} {tgt : Nat} (hd : decode cc pc = .ok (.ifCond .gt off, 3)) (ht : (pc : Int) + off = (tgt : Int)) (kt : 0 < x → V G y cc nL ret dep bc bs Φ tgt lv st σ d) (kf : ¬ (0 < x) → V G y cc nL ret dep bc bs Φ (pc + 3) lv st σ d) : V G y cc nL ret dep bc bs Φ pc lv (.int x :: st) σ d := by
  intro p e R s m args below meth c H locs cells slots Q ls gk cx h1 h2 hr hl hv kk
  exact lv_if_gt cx.1 cx.2.1 hd ht (fun h => (kt h p e R s m args below meth c H locs cells slots Q ls gk cx h1 h2 hr hl hv kk)) (fun h => (kf h p e R s m args below meth c H locs cells slots Q ls gk cx h1 h2 hr hl hv kk))
theorem V_icmp_le {x z : Int32} {off : Int} {tgt : Nat} (hd : decode cc pc = .ok (.if_icmp .le off, 3)) (ht : (pc : Int) + off = (tgt : Int)) (kt : x ≤ z → V G y cc nL ret dep bc bs Φ tgt lv st σ d) (kf : ¬ (x ≤ z) → V G y cc nL ret dep bc bs Φ (pc + 3) lv st σ d) : V G y cc nL ret dep bc bs Φ pc lv (.int z :: .int x :: st) σ d := by
  intro p e R s m args below meth c H locs cells slots Q ls gk cx h1 h2 hr hl hv kk
  exact lv_icmp_le cx.1 cx.2.1 hd ht (fun h => (kt h p e R s m args below meth c H locs cells slots Q ls gk cx h1 h2 hr hl hv kk)) (fun h => (kf h p e R s m args below meth c H locs cells slots Q ls gk cx h1 h2 hr hl hv kk))
theorem V_if_le {x : Int32} {off : Int} {tgt : Nat} (hd : decode cc pc = .ok (.ifCond .le off, 3)) (ht : (pc : Int) + off = (tgt : Int)) (kt : x ≤ 0 → V G y cc nL ret dep bc bs Φ tgt lv st σ d) (kf : ¬ (x ≤ 0) → V G y cc nL ret dep bc bs Φ (pc + 3) lv st σ d) : V G y cc nL ret dep bc bs Φ pc lv (.int x :: st) σ d := by
  intro p e R s m args below meth c H locs cells slots Q ls gk cx h1 h2 hr hl hv kk
  exact lv_if_le cx.1 cx.2.1 hd ht (fun h => (kt h p e R s m args below meth c H locs cells slots Q ls gk cx h1 h2 hr hl hv kk)) (fun h => (kf h p e R s m args below meth c H locs cells slots Q ls gk cx h1 h2 hr hl hv kk))
theorem V_goto {off : Int} {tgt : Nat} (hd : decode cc pc = .ok (.goto off, 3)) (ht : (pc : Int) + off = (tgt : Int)) (k : V G y cc nL ret dep bc bs Φ tgt lv st σ d) : V G y cc nL ret dep bc bs Φ pc lv st σ d := by
  intro p e R s m args below meth c H locs cells slots Q ls gk cx h1 h2 hr hl hv kk
  exact lv_goto cx.1 cx.2.1 hd ht (k p e R s m args below meth c H locs cells slots Q ls gk cx h1 h2 hr hl hv kk)
theorem V_tin {dflt lo hi : Int} {offs : Array Int} {len : Nat} {x : Int32} {off : Int} {tgt : Nat} (hd : decode cc pc = .ok (.tableswitch dflt lo hi offs, len)) (g1 : ¬ x.toInt < lo) (g2 : ¬ hi < x.toInt) (ho : offs[(x.toInt - lo).toNat]? = some off) (ht : (pc : Int) + off = (tgt : Int)) (k : V G y cc nL ret dep bc bs Φ tgt lv st σ d) : V G y cc nL ret dep bc bs Φ pc lv (.int x :: st) σ d := by
  intro p e R s m args below meth c H locs cells slots Q ls gk cx h1 h2 hr hl hv kk
  exact lv_tableIn cx.1 cx.2.1 hd g1 g2 ho ht (k p e R s m args below meth c H locs cells slots Q ls gk cx h1 h2 hr hl hv kk)
theorem V_tout {dflt lo hi : Int} {offs : Array Int} {len : Nat} {x : Int32} {tgt : Nat} (hd : decode cc pc = .ok (.tableswitch dflt lo hi offs, len)) (g : x.toInt < lo ∨ hi < x.toInt) (ht : (pc : Int) + dflt = (tgt : Int)) (k : V G y cc nL ret dep bc bs Φ tgt lv st σ d) : V G y cc nL ret dep bc bs Φ pc lv (.int x :: st) σ d := by
  intro p e R s m args below meth c H locs cells slots Q ls gk cx h1 h2 hr hl hv kk
  exact lv_tableOut cx.1 cx.2.1 hd g ht (k p e R s m args below meth c H locs cells slots Q ls gk cx h1 h2 hr hl hv kk)
theorem lcmp_0 (x z : Int64) : lg_cmp x z = 0 ↔ x = z := by
  unfold lg_cmp
  simp only [gt_iff_lt, Int64.lt_iff_toInt_lt, ← Int64.toInt_inj]
  by_cases h1 : z.toInt < x.toInt
  · simp only [h1, if_true]
    exact ⟨fun h => absurd h (by decide), fun h => by omega⟩
  · by_cases h2 : x.toInt = z.toInt
    · simp [h1, h2]
    · simp only [h1, h2, if_false]
      exact ⟨fun h => absurd h (by decide), fun h => h.elim⟩
theorem V_lcmp_eq {x z : Int64} {off : Int} {tgt : Nat} (hd : decode cc pc = .ok (.lcmp, 1)) (hd2 : decode cc (pc + 1) = .ok (.ifCond .eq off, 3)) (ht : ((pc + 1 : Nat) : Int) + off = (tgt : Int)) (kt : x = z → V G y cc nL ret dep bc bs Φ tgt lv st σ d) (kf : ¬ (x = z) → V G y cc nL ret dep bc bs Φ (pc + 1 + 3) lv st σ d) : V G y cc nL ret dep bc bs Φ pc lv (.long z :: .long x :: st) σ d := by
  intro p e R s m args below meth c H locs cells slots Q ls gk cx h1 h2 hr hl hv kk
  exact W.lcmp cx.1 cx.2.1 hd (lv_if_eq cx.1 cx.2.1 hd2 ht (fun h => (kt ((lcmp_0 _ _).mp h) p e R s m args below meth c H locs cells slots Q ls gk cx h1 h2 hr hl hv kk)) (fun h => (kf (fun q => h ((lcmp_0 _ _).mpr q)) p e R s m args below meth c H locs cells slots Q ls gk cx h1 h2 hr hl hv kk)))
theorem V_lcmp_ne {x z : Int64} {off : Int} {tgt : Nat} (hd : decode cc pc = .ok (.lcmp, 1)) (hd2 : decode cc (pc + 1) = .ok (.ifCond .ne off, 3)) (ht : ((pc + 1 : Nat) : Int) + off = (tgt : Int)) (kt : x ≠ z → V G y cc nL ret dep bc bs Φ tgt lv st σ d) (kf : x = z → V G y cc nL ret dep bc bs Φ (pc + 1 + 3) lv st σ d) : V G y cc nL ret dep bc bs Φ pc lv (.long z :: .long x :: st) σ d := by
  intro p e R s m args below meth c H locs cells slots Q ls gk cx h1 h2 hr hl hv kk
  exact W.lcmp cx.1 cx.2.1 hd (lv_if_ne cx.1 cx.2.1 hd2 ht (fun h => (kt (fun q => h ((lcmp_0 _ _).mpr q)) p e R s m args below meth c H locs cells slots Q ls gk cx h1 h2 hr hl hv kk)) (fun h => (kf ((lcmp_0 _ _).mp h) p e R s m args below meth c H locs cells slots Q ls gk cx h1 h2 hr hl hv kk)))
theorem V_sub {lv1 : List (Nat × Value)} (ks : List Nat) (hk : lv_pick lv ks = lv1) (k : V G y cc nL ret dep bc bs Φ pc lv1 st σ d) : V G y cc nL ret dep bc bs Φ pc lv st σ d := by
  intro p e R s m args below meth c H locs cells slots Q ls gk cx h1 h2 hr hl hv kk
  exact (k p e R s m args below meth c H locs cells slots Q ls gk cx h1 h2 hr hl (lv_sub hv ks hk) kk)
theorem V_post {Ψ : List Value → Sg → Dt → Prop} (h : ∀ a b c, Ψ a b c → Φ a b c) (k : V G y cc nL ret dep bc bs Ψ pc lv st σ d) : V G y cc nL ret dep bc bs Φ pc lv st σ d := by
  intro p e R s m args below meth c H locs cells slots Q ls gk cx h1 h2 hr hl hv kk
  exact k p e R s m args below meth c H locs cells slots Q ls gk cx h1 h2 hr hl hv (fun pc1 ls1 st1 ins s1 d1 H1 l1 c1 n1 a1 a2 a3 => kk pc1 ls1 st1 ins s1 d1 H1 l1 c1 n1 a1 a2 (h _ _ _ a3))
theorem V_room {bc1 bs1 dep1 : Nat} (h : dep1 ≤ dep ∧ bc1 ≤ bc ∧ bs1 ≤ bs) (k : V G y cc nL ret dep1 bc1 bs1 Φ pc lv st σ d) : V G y cc nL ret dep bc bs Φ pc lv st σ d := by
  intro p e R s m args below meth c H locs cells slots Q ls gk cx h1 h2 hr hl hv kk
  exact k p e R s m args below meth c H locs cells slots Q ls gk cx ⟨by omega, by omega⟩ ⟨by omega, by omega⟩ hr hl hv (fun pc1 ls1 st1 ins s1 d1 H1 l1 c1 n1 a1 a2 a3 a4 a5 a6 => kk pc1 ls1 st1 ins s1 d1 H1 l1 c1 n1 a1 a2 a3 a4 a5 ⟨by omega, by omega⟩)
theorem V_ret {ins : Instr} (hd : decode cc pc = .ok (ins, 1)) (h : RT ret ins st) (hp : Φ st σ d) : V G y cc nL ret dep bc bs Φ pc lv st σ d := by
  intro p e R s m args below meth c H locs cells slots Q ls gk cx h1 h2 hr hl hv kk
  exact kk pc ls st ins σ d H locs cells slots hd h hp hr hl ⟨by omega, by omega⟩
end VR
