/-! what lies outside the world: String constants, constant rows, statics -/
section VE
variable {G : Gl} {y : MethodName} {cc : ByteArray} {nL : Nat} {ret : Option FieldType} {dep bc bs : Nat} {Φ : List Value → Sg → Dt → Prop} {pc : Nat} {lv : List (Nat × Value)} {st : List Value} {σ : Sg} {d : Dt}
theorem rep_kept {G : Gl} {σ : Sg} {d : Dt} {H : Heap} (hr : Rep G σ d H) : ∀ a : Nat, a < G.2.1.heap.size → ¬ gB G ≤ a → H[a]? = G.2.1.heap[a]? := fun a ha _ => hr.2.1 a ha
theorem gk_nF {G : Gl} (gk : GK G) : ∀ q ∈ nestF, va_Nw (.fieldLinkNest q.1 q.2.1 q.2.2.1 q.2.2.2.1 q.2.2.2.2.1 q.2.2.2.2.2) G.2.1 := gk.2.2.2.2.2.2.1
theorem gk_S {G : Gl} (gk : GK G) : vk_S strN strL strB (gK G) (gV G) (fun q => gB G ≤ q) G.2.1 G.2.1.heap := gk.2.2.2.2.2.2.2.1
theorem gk_R {G : Gl} (gk : GK G) : ∀ q ∈ strR, vk_R q.1 q.2.1 q.2.2.1 (gK G q.2.2.2) G.2.1 := gk.2.2.2.2.2.2.2.2.1
theorem gk_A {G : Gl} (gk : GK G) : ∀ q ∈ statA, va_Z q.1 q.2.1 "[I" (.ref (gC G q.2.2.1)) (fun a => gB G ≤ a) G.2.1 G.2.1.heap ∧ va_T .int (gC G q.2.2.1) q.2.2.2.length (fun j => .int (q.2.2.2.getD j 0)) (fun a => gB G ≤ a) G.2.1 G.2.1.heap := gk.2.2.2.2.2.2.2.2.2.1
theorem gk_C {G : Gl} (gk : GK G) : va_Z "java/lang/String" "COMPACT_STRINGS" "Z" (.int 1) (fun a => gB G ≤ a) G.2.1 G.2.1.heap := gk.2.2.2.2.2.2.2.2.2.2.1
theorem gk_Q {G : Gl} (gk : GK G) : va_Zq "jdk/internal/util/Preconditions" "SIOOBE_FORMATTER" "Ljava/util/function/BiFunction;" (fun a => gB G ≤ a) G.2.1 G.2.1.heap := gk.2.2.2.2.2.2.2.2.2.2.2
theorem V_gets0 {idx : Nat} {C n dsc : String} {v : Value} (hd : decode cc pc = .ok (.getstatic idx, 3)) (hw : Cond.fieldLink y.cls idx C n dsc ∈ lw_g) (hz : GK G → va_Z C n dsc v (fun a => gB G ≤ a) G.2.1 G.2.1.heap)
    (k0 : V G y cc nL ret dep bc bs Φ (pc + 3) lv (v :: st) σ d) : V G y cc nL ret dep bc bs Φ pc lv st σ d := by
  intro p e R s m args below meth c0 H locs cells slots Q ls gk cx h1 h2 hr hl hv kk
  obtain ⟨cf, kf, fi, f, a, cell, g1, g2, g3, g4, g5, g6, g7, g8⟩ := ((hz gk).moved cx.2.2.2.2.2.2.2.2.alike).kept (rep_kept hr)
  exact W.gets cx.1 cx.2.1 cx.2.2.2.2.1 (cx.2.2.2.2.2.1 _ hw) g1 g2 g3 g4 g5 (fun e => by rw [e] at g6; cases g6) g7 rfl hd (k0 p e R s m args below meth c0 H locs cells slots Q ls gk cx h1 h2 hr hl hv kk)
theorem V_getsC {idx : Nat} (hd : decode cc pc = .ok (.getstatic idx, 3)) (hw : Cond.fieldLink y.cls idx "java/lang/String" "COMPACT_STRINGS" "Z" ∈ lw_g)
    (k0 : V G y cc nL ret dep bc bs Φ (pc + 3) lv (.int 1 :: st) σ d) : V G y cc nL ret dep bc bs Φ pc lv st σ d := V_gets0 hd hw gk_C k0
theorem V_getsQ {idx : Nat} (hd : decode cc pc = .ok (.getstatic idx, 3)) (hw : Cond.fieldLink y.cls idx "jdk/internal/util/Preconditions" "SIOOBE_FORMATTER" "Ljava/util/function/BiFunction;" ∈ lw_g)
    (k0 : ∀ v : Value, (v = .null ∨ ∃ t, v = .ref t) → V G y cc nL ret dep bc bs Φ (pc + 3) lv (v :: st) σ d) : V G y cc nL ret dep bc bs Φ pc lv st σ d := by
  intro p e R s m args below meth c0 H locs cells slots Q ls gk cx h1 h2 hr hl hv kk
  rcases gk_Q gk with h | ⟨t, h⟩
  · exact V_gets0 hd hw (fun _ => h) (k0 _ (Or.inl rfl)) p e R s m args below meth c0 H locs cells slots Q ls gk cx h1 h2 hr hl hv kk
  · exact V_gets0 hd hw (fun _ => h) (k0 _ (Or.inr ⟨t, rfl⟩)) p e R s m args below meth c0 H locs cells slots Q ls gk cx h1 h2 hr hl hv kk
theorem V_getsA {idx : Nat} {C n host : String} {i : Nat} {l : List Int32} (hd : decode cc pc = .ok (.getstatic idx, 3)) (hw : (y.cls, idx, C, n, "[I", host) ∈ nestF) (hs : (C, n, i, l) ∈ statA)
    (k0 : V G y cc nL ret dep bc bs Φ (pc + 3) lv (.ref (gC G i) :: st) σ d) : V G y cc nL ret dep bc bs Φ pc lv st σ d := by
  intro p e R s m args below meth c0 H locs cells slots Q ls gk cx h1 h2 hr hl hv kk
  obtain ⟨cf, kf, fi, f, a, cell, g1, g2, g3, g4, g5, g6, g7, g8⟩ := (((gk_A gk) _ hs).1.moved cx.2.2.2.2.2.2.2.2.alike).kept (rep_kept hr)
  have hn := va_Nw.warmF cx.2.2.2.2.2.2.2.2 (gk_nF gk _ hw)
  exact va_WgetsN cx.1 cx.2.1 cx.2.2.2.2.1 (va_Nw.use rfl hn) g1 g2 g3 g4 g5 (fun e => by rw [e] at g6; cases g6) g7 rfl hd (k0 p e R s m args below meth c0 H locs cells slots Q ls gk cx h1 h2 hr hl hv kk)
theorem vp_lt {x : Int32} {n : Nat} (h : vp_in x n) : x.toNatClampNeg < n := Nat.not_le.mp fun q => h (Or.inr q)
theorem va_Tin {ty : FieldType} {t N : Nat} {f : Nat → Value} {A : Nat → Prop} {U : State} {H : Heap} (h : va_T ty t N f A U H) {x : Int32} (hi : vp_in x N) : ∃ cell : Cell, H[t]? = some cell ∧ U.isArrayOf cell ty ∧ cell.vm ≠ .unknown ∧ ¬ (x < 0 ∨ cell.slots.size ≤ x.toNatClampNeg) ∧ cell.slots[x.toNatClampNeg]? = some (f x.toNatClampNeg) := by
  obtain ⟨cell, g1, g2, g3, g4, g5, g6, g7⟩ := h
  have hlt := vp_lt hi
  exact ⟨cell, g1, g2, g3, fun q => q.elim (fun h => hi (Or.inl h)) (fun h => absurd hlt (by omega)), g6 _ hlt⟩
theorem V_ialdC {C n : String} {i : Nat} {l : List Int32} {x : Int32} (hd : decode cc pc = .ok (.iaload, 1)) (hs : (C, n, i, l) ∈ statA) (hi : vp_in x l.length)
    (k0 : V G y cc nL ret dep bc bs Φ (pc + 1) lv (.int (l.getD x.toNatClampNeg 0) :: st) σ d) : V G y cc nL ret dep bc bs Φ pc lv (.int x :: .ref (gC G i) :: st) σ d := by
  intro p e R s m args below meth c0 H locs cells slots Q ls gk cx h1 h2 hr hl hv kk
  obtain ⟨cell, g1, g2, g3, g4, g5⟩ := va_Tin ((((gk_A gk) _ hs).2.moved cx.2.2.2.2.2.2.2.2.alike).kept (rep_kept hr)) hi
  exact W.iald (v := .int (l.getD x.toNatClampNeg 0)) cx.1 cx.2.1 g1 g2 g3 g4 g5 rfl rfl hd (k0 p e R s m args below meth c0 H locs cells slots Q ls gk cx h1 h2 hr hl hv kk)
/-- the law's script -/
theorem V_ialdX {b L : Nat} {xs : Nat → Int32} {x : Int32} (hd : decode cc pc = .ok (.iaload, 1)) (hs : va_X b L xs G.2.1 G.2.1.heap) (hi : vp_in x L)
    (k0 : V G y cc nL ret dep bc bs Φ (pc + 1) lv (.int (xs x.toNatClampNeg) :: st) σ d) : V G y cc nL ret dep bc bs Φ pc lv (.int x :: .ref b :: st) σ d := by
  intro p e R s m args below meth c0 H locs cells slots Q ls gk cx h1 h2 hr hl hv kk
  obtain ⟨scr, g1, g2, g3, g4, g5⟩ := hs
  have hb : b < gB G := (Array.getElem?_eq_some_iff.mp g1).1
  exact W.iald (v := .int (xs x.toNatClampNeg)) cx.1 cx.2.1 ((hr.2.1 b hb).trans g1) (State.isArrayOf_alike cx.2.2.2.2.2.2.2.2.alike g2) g3 (by rw [g4]; exact hi) (g5 _ (vp_lt hi)) rfl rfl hd (k0 p e R s m args below meth c0 H locs cells slots Q ls gk cx h1 h2 hr hl hv kk)
theorem V_alenX {b L : Nat} {xs : Nat → Int32} (hd : decode cc pc = .ok (.arraylength, 1)) (hs : va_X b L xs G.2.1 G.2.1.heap)
    (k0 : V G y cc nL ret dep bc bs Φ (pc + 1) lv (.int (nI L) :: st) σ d) : V G y cc nL ret dep bc bs Φ pc lv (.ref b :: st) σ d := by
  intro p e R s m args below meth c0 H locs cells slots Q ls gk cx h1 h2 hr hl hv kk
  obtain ⟨scr, g1, g2, g3, g4, g5⟩ := hs
  have hb : b < gB G := (Array.getElem?_eq_some_iff.mp g1).1
  exact W.alen (ty := .int) cx.1 cx.2.1 ((hr.2.1 b hb).trans g1) (State.isArrayOf_alike cx.2.2.2.2.2.2.2.2.alike g2) (by rw [g4]; rfl) rfl rfl hd (k0 p e R s m args below meth c0 H locs cells slots Q ls gk cx h1 h2 hr hl hv kk)
-- Strings
theorem V_ldcS {idx i : Nat} {tx : String} (hd : decode cc pc = .ok (.ldc idx, 2)) (hs : (y.cls, idx, tx, i) ∈ strR)
    (k0 : V G y cc nL ret dep bc bs Φ (pc + 2) lv (.ref (gK G i) :: st) σ d) : V G y cc nL ret dep bc bs Φ pc lv st σ d := by
  intro p e R s m args below meth c0 H locs cells slots Q ls gk cx h1 h2 hr hl hv kk
  exact va_ldcS cx.1 cx.2.1 cx.2.2.2.2.1 ((gk_R gk _ hs).warm cx.2.2.2.2.2.2.2.2) hd (k0 p e R s m args below meth c0 H locs cells slots Q ls gk cx h1 h2 hr hl hv kk)
theorem V_kget {idx i : Nat} {o n dsc : String} {v : Value} (hd : decode cc pc = .ok (.getfield idx, 3)) (hw : Cond.fieldLink y.cls idx o n dsc ∈ lw_g) (hz : GK G → va_OF o n dsc v (gK G i) (fun a => gB G ≤ a) G.2.1 G.2.1.heap)
    (k0 : V G y cc nL ret dep bc bs Φ (pc + 3) lv (v :: st) σ d) : V G y cc nL ret dep bc bs Φ pc lv (.ref (gK G i) :: st) σ d := by
  intro p e R s m args below meth c0 H locs cells slots Q ls gk cx h1 h2 hr hl hv kk
  obtain ⟨cf, k, fi, f, cell, g1, g2, g3, g4, g5, g6⟩ := ((hz gk).moved cx.2.2.2.2.2.2.2.2.alike).kept (rep_kept hr)
  exact W.getf cx.1 cx.2.1 cx.2.2.2.2.1 (cx.2.2.2.2.2.1 _ hw) g1 g2 g3 g4 (v := v) g5 rfl rfl hd (k0 p e R s m args below meth c0 H locs cells slots Q ls gk cx h1 h2 hr hl hv kk)
theorem V_kcod {idx i : Nat} (hd : decode cc pc = .ok (.getfield idx, 3)) (hw : Cond.fieldLink y.cls idx "java/lang/String" "coder" "B" ∈ lw_g) (hi : i < strN)
    (k0 : V G y cc nL ret dep bc bs Φ (pc + 3) lv (.int 0 :: st) σ d) : V G y cc nL ret dep bc bs Φ pc lv (.ref (gK G i) :: st) σ d := V_kget hd hw (fun gk => ((gk_S gk).1 i hi).2.1) k0
theorem V_kval {idx i : Nat} (hd : decode cc pc = .ok (.getfield idx, 3)) (hw : Cond.fieldLink y.cls idx "java/lang/String" "value" "[B" ∈ lw_g) (hi : i < strN)
    (k0 : V G y cc nL ret dep bc bs Φ (pc + 3) lv (.ref (gV G i) :: st) σ d) : V G y cc nL ret dep bc bs Φ pc lv (.ref (gK G i) :: st) σ d := V_kget hd hw (fun gk => ((gk_S gk).1 i hi).2.2.1) k0
theorem V_klen {i : Nat} (hd : decode cc pc = .ok (.arraylength, 1)) (hi : i < strN)
    (k0 : V G y cc nL ret dep bc bs Φ (pc + 1) lv (.int (nI (strL.getD i 0)) :: st) σ d) : V G y cc nL ret dep bc bs Φ pc lv (.ref (gV G i) :: st) σ d := by
  intro p e R s m args below meth c0 H locs cells slots Q ls gk cx h1 h2 hr hl hv kk
  obtain ⟨cell, g1, g2, g3, g4, g5, g6, g7⟩ := (((gk_S gk).1 i hi).2.2.2.moved cx.2.2.2.2.2.2.2.2.alike).kept (rep_kept hr)
  exact W.alen (ty := .byte) cx.1 cx.2.1 g1 g2 g5 rfl rfl hd (k0 p e R s m args below meth c0 H locs cells slots Q ls gk cx h1 h2 hr hl hv kk)
theorem V_kld {i : Nat} {x : Int32} (hd : decode cc pc = .ok (.baload, 1)) (hi : i < strN) (hx : vp_in x (strL.getD i 0))
    (k0 : V G y cc nL ret dep bc bs Φ (pc + 1) lv (.int ((sTx i).getD x.toNatClampNeg 0) :: st) σ d) : V G y cc nL ret dep bc bs Φ pc lv (.int x :: .ref (gV G i) :: st) σ d := by
  intro p e R s m args below meth c0 H locs cells slots Q ls gk cx h1 h2 hr hl hv kk
  obtain ⟨cell, g1, g2, g3, g4, g5⟩ := va_Tin ((((gk_S gk).1 i hi).2.2.2.moved cx.2.2.2.2.2.2.2.2.alike).kept (rep_kept hr)) hx
  exact W.bald (v := .int ((sTx i).getD x.toNatClampNeg 0)) cx.1 cx.2.1 g1 g2 g3 g4 g5 rfl rfl hd (k0 p e R s m args below meth c0 H locs cells slots Q ls gk cx h1 h2 hr hl hv kk)
theorem V_callK {y2 : MethodName} {cc2 : ByteArray} {nL2 : Nat} {ret2 : Option FieldType} {dep2 n idx i : Nat} {As : List Value} {rv : List Value} {d1 : Dt} (hd : decode cc pc = .ok (.invokevirtual idx, 3)) (hm : Cond.methodLink y.cls idx y2 ∈ lw_g) (hcal : Cal y2 cc2 nL2 ret2 n) (hin : Cond.instanceMethod y2 ∈ lw_g) (hs : Cond.selects y2.cls y2 y2 ∈ lw_g) (hi : i < strN) (hcl : y2.cls = "java/lang/String") (hdp : dep2 + 1 ≤ dep ∧ 19 + nL2 + 40 * dep2 ≤ 40 * dep) (hst : (st.map fun v => v.category).sum ≤ 8) (hlen : As.length = n) (hC : CTv G y2 cc2 nL2 ret2 dep2 (.ref (gK G i) :: As) σ d rv d1)
    (k : V G y cc nL ret dep bc bs Φ (pc + 3) lv (rv ++ st) σ d1) : V G y cc nL ret dep bc bs Φ pc lv (As.reverse ++ .ref (gK G i) :: st) σ d := by
  intro p e R s m args below meth c0 H locs cells slots Q ls gk cx h1 h2 hr hl hv kk
  have hts := cx.2.2.2.2.2.1
  have hini := hts _ hcal.2.1
  obtain ⟨cell, q1, q2, q3, -⟩ := (((gk_S gk).1 i hi).1.moved cx.2.2.2.2.2.2.2.2.alike).kept (rep_kept hr)
  have cw : CallW R s args y.cls y2.cls idx y2 cc2 nL2 ret2 (Cond.code y2 cc2 nL2 ret2 :: lw_g) (rmD dep2 0 0) 0 0 n := ⟨callB_of n hts (good_in hcal) rfl rfl rfl hini (hts _ hm) hcal.2.2 ⟨by show dep2 + 1 ≤ _; omega, by show 8 + (nL2 + 11) + 40 * dep2 ≤ _; omega⟩, hts _ hin, hts _ hs⟩
  refine w_call (va_runV (As := As) (rest := st) ⟨cx.1, cx.2.1, cx.2.2.2.1, cx.2.2.2.2.1, hts⟩ (hC gk) cw ⟨ct_blind, ⟨cell, q1, q2, by rw [hcl]; exact q3⟩, fun U hU hW => ⟨rfl, cx.2.2.2.2.2.2.2.2.trans hW, by rw [hU]; exact hr⟩⟩ rfl hlen hv.1 rfl (by show 2 * 0 + _ ≤ _; omega) hd ⟨by omega, by omega⟩) fun v st1 t H1 L ht hq hL => ?_
  obtain ⟨v', σ1, d2, hv1, ⟨e1, e2, e3⟩, hrep⟩ := hq
  cases hv1
  subst e2; subst e3
  rw [ht] at hrep
  rw [e1]
  exact k p e R s m args below meth c0 H1 (locs ++ L) (cells + 0) (slots + 0) Q ls gk cx h1 ⟨by omega, by omega⟩ hrep (bas_app hl hL) hv (fun a1 a2 a3 a4 a5 a6 a7 a8 a9 a10 b1 b2 b3 b4 b5 b6 => kk a1 a2 a3 a4 a5 a6 a7 a8 a9 a10 b1 b2 b3 b4 b5 ⟨by omega, by omega⟩)
end VE
