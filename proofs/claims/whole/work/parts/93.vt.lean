/-! the way to a throw: rules as those of V, but with another end: the place xp, nothing on the stack (copies of rows of mine) -/
def VT (xp : Nat) (G : Gl) (y : MethodName) (cc : ByteArray) (nL : Nat) (ret : Option FieldType) (dep bc bs : Nat) (Φ : List Value → Sg → Dt → Prop) (pc : Nat) (lv : List (Nat × Value)) (st : List Value) (σ : Sg) (d : Dt) : Prop :=
  ∀ (p : Program) (e : Env) (R : Room) (s : State) (m : MethodId) (args : Array Value) (below : List Frame) (meth : Method) (c : Code) (H : Heap) (locs : List Loc) (cells slots : Nat) (Q : State → Prop) (ls : Array Slot),
    GK G → CX G y cc nL ret p s m args meth c → dep ≤ R.frames ∧ 40 * dep ≤ R.locals → cells + bc ≤ R.cells ∧ slots + bs ≤ R.slots → Rep G σ d H → (∀ q ∈ locs, gB G ≤ q.base) → lv_has ls nL lv →
    (∀ (pc' : Nat) (ls' : Array Slot) (st' : List Value) (σ' : Sg) (d' : Dt) (H' : Heap) (locs' : List Loc) (cells' slots' : Nat), pc' = xp → st' = [] → ls'.size = nL → Φ st' σ' d' → Rep G σ' d' H' → (∀ q ∈ locs', gB G ≤ q.base) → cells' ≤ cells + bc ∧ slots' ≤ slots + bs → W p G.1 e R s m args below meth c H' locs' cells' slots' Q (F0 m pc' ls' st')) →
    W p G.1 e R s m args below meth c H locs cells slots Q (F0 m pc ls st)
section VTS
variable {xp : Nat} {G : Gl} {y : MethodName} {cc : ByteArray} {nL : Nat} {ret : Option FieldType} {dep bc bs : Nat} {Φ : List Value → Sg → Dt → Prop} {pc : Nat} {lv : List (Nat × Value)} {st : List Value} {σ : Sg} {d : Dt}
theorem VT_iconst {n : Int} {x : Int32} (hd : decode cc pc = .ok (.iconst n, 1)) (hv0 : Int32.ofInt n = x) (k : VT xp G y cc nL ret dep bc bs Φ (pc + 1) lv (.int x :: st) σ d) : VT xp G y cc nL ret dep bc bs Φ pc lv st σ d := by
  intro p e R s m args below meth c H locs cells slots Q ls gk cx h1 h2 hr hl hv kk
  exact lv_iconst cx.1 cx.2.1 hd hv0 (k p e R s m args below meth c H locs cells slots Q ls gk cx h1 h2 hr hl hv kk)
theorem VT_iload_n {j : Fin 4} {x : Int32} {i : Nat} (k0 : Nat) (hd : decode cc pc = .ok (.iload_n j, 1)) (hi : (j : Nat) = i) (hk : lv[k0]? = some (i, .int x)) (k : VT xp G y cc nL ret dep bc bs Φ (pc + 1) lv (.int x :: st) σ d) : VT xp G y cc nL ret dep bc bs Φ pc lv st σ d := by
  intro p e R s m args below meth c H locs cells slots Q ls gk cx h1 h2 hr hl hv kk
  exact lv_iload_n cx.1 cx.2.1 hd hi (lv_at hv k0 hk) (k p e R s m args below meth c H locs cells slots Q ls gk cx h1 h2 hr hl hv kk)
theorem VT_istore_n {j : Fin 4} {x : Int32} {i : Nat} {lv1 : List (Nat × Value)} (hd : decode cc pc = .ok (.istore_n j, 1)) (hi : (j : Nat) = i) (hn : i < nL) (hw : (i, Value.int x) :: lv.filter (fun q => !(q.1 == i) && !(q.1 + 1 == i && q.2.category == 2)) = lv1) (k : VT xp G y cc nL ret dep bc bs Φ (pc + 1) lv1 st σ d) : VT xp G y cc nL ret dep bc bs Φ pc lv (.int x :: st) σ d := by
  intro p e R s m args below meth c H locs cells slots Q ls gk cx h1 h2 hr hl hv kk
  exact lv_istore_n cx.1 cx.2.1 hd hi hv hn hw (fun ls1 hl1 => (k p e R s m args below meth c H locs cells slots Q ls1 gk cx h1 h2 hr hl hl1 kk))
theorem VT_aload_n {j : Fin 4} {x : Nat} {i : Nat} (k0 : Nat) (hd : decode cc pc = .ok (.aload_n j, 1)) (hi : (j : Nat) = i) (hk : lv[k0]? = some (i, .ref x)) (k : VT xp G y cc nL ret dep bc bs Φ (pc + 1) lv (.ref x :: st) σ d) : VT xp G y cc nL ret dep bc bs Φ pc lv st σ d := by
  intro p e R s m args below meth c H locs cells slots Q ls gk cx h1 h2 hr hl hv kk
  exact lv_aload_n cx.1 cx.2.1 hd hi (lv_at hv k0 hk) (k p e R s m args below meth c H locs cells slots Q ls gk cx h1 h2 hr hl hv kk)
theorem VT_iinc {i : Nat} {n : Int} {x z : Int32} {lv1 : List (Nat × Value)} (k0 : Nat) (hd : decode cc pc = .ok (.iinc i n, 3)) (hk : lv[k0]? = some (i, .int x)) (hz : x + Int32.ofInt n = z) (hn : i < nL) (hw : (i, Value.int z) :: lv.filter (fun q => !(q.1 == i) && !(q.1 + 1 == i && q.2.category == 2)) = lv1) (k : VT xp G y cc nL ret dep bc bs Φ (pc + 3) lv1 st σ d) : VT xp G y cc nL ret dep bc bs Φ pc lv st σ d := by
  intro p e R s m args below meth c H locs cells slots Q ls gk cx h1 h2 hr hl hv kk
  exact lv_iinc cx.1 cx.2.1 hd hv hk hz hn hw (fun ls1 hl1 => (k p e R s m args below meth c H locs cells slots Q ls1 gk cx h1 h2 hr hl hl1 kk))
theorem VT_goto {off : Int} {tgt : Nat} (hd : decode cc pc = .ok (.goto off, 3)) (ht : (pc : Int) + off = (tgt : Int)) (k : VT xp G y cc nL ret dep bc bs Φ tgt lv st σ d) : VT xp G y cc nL ret dep bc bs Φ pc lv st σ d := by
  intro p e R s m args below meth c H locs cells slots Q ls gk cx h1 h2 hr hl hv kk
  exact lv_goto cx.1 cx.2.1 hd ht (k p e R s m args below meth c H locs cells slots Q ls gk cx h1 h2 hr hl hv kk)
theorem VT_icmp_ge {x z : Int32} {off : Int} {tgt : Nat} (hd : decode cc pc = .ok (.if_icmp .ge off, 3)) (ht : (pc : Int) + off = (tgt : Int)) (kt : z ≤ x → VT xp G y cc nL ret dep bc bs Φ tgt lv st σ d) (kf : ¬ (z ≤ x) → VT xp G y cc nL ret dep bc bs Φ (pc + 3) lv st σ d) : VT xp G y cc nL ret dep bc bs Φ pc lv (.int z :: .int x :: st) σ d := by
  intro p e R s m args below meth c H locs cells slots Q ls gk cx h1 h2 hr hl hv kk
  exact lv_icmp_ge cx.1 cx.2.1 hd ht (fun h => (kt h p e R s m args below meth c H locs cells slots Q ls gk cx h1 h2 hr hl hv kk)) (fun h => (kf h p e R s m args below meth c H locs cells slots Q ls gk cx h1 h2 hr hl hv kk))
theorem VT_icmp_ne {x z : Int32} {off : Int} {tgt : Nat} (hd : decode cc pc = .ok (.if_icmp .ne off, 3)) (ht : (pc : Int) + off = (tgt : Int)) (kt : x ≠ z → VT xp G y cc nL ret dep bc bs Φ tgt lv st σ d) (kf : x = z → VT xp G y cc nL ret dep bc bs Φ (pc + 3) lv st σ d) : VT xp G y cc nL ret dep bc bs Φ pc lv (.int z :: .int x :: st) σ d := by
  intro p e R s m args below meth c H locs cells slots Q ls gk cx h1 h2 hr hl hv kk
  exact lv_icmp_ne cx.1 cx.2.1 hd ht (fun h => (kt h p e R s m args below meth c H locs cells slots Q ls gk cx h1 h2 hr hl hv kk)) (fun h => (kf h p e R s m args below meth c H locs cells slots Q ls gk cx h1 h2 hr hl hv kk))
theorem VT_if_ne {x : Int32} {off : Int} {tgt : Nat} (hd : decode cc pc = .ok (.ifCond .ne off, 3)) (ht : (pc : Int) + off = (tgt : Int)) (kt : x ≠ 0 → VT xp G y cc nL ret dep bc bs Φ tgt lv st σ d) (kf : x = 0 → VT xp G y cc nL ret dep bc bs Φ (pc + 3) lv st σ d) : VT xp G y cc nL ret dep bc bs Φ pc lv (.int x :: st) σ d := by
  intro p e R s m args below meth c H locs cells slots Q ls gk cx h1 h2 hr hl hv kk
  exact lv_if_ne cx.1 cx.2.1 hd ht (fun h => (kt h p e R s m args below meth c H locs cells slots Q ls gk cx h1 h2 hr hl hv kk)) (fun h => (kf h p e R s m args below meth c H locs cells slots Q ls gk cx h1 h2 hr hl hv kk))
theorem VT_get {idx c k o : Nat} {ref : String} {v : Value} (hd : decode cc pc = .ok (.getfield idx, 3)) (hc : c < 12) (hk : k < clN c) (hw : Cond.fieldLink y.cls idx ref (clT c k).2.1 (clT c k).2.2.1 ∈ lw_g) (hrf : ref = (clT c k).1) (ho : σ.2.1 o = some (0, c)) (hv0 : fv G σ d (clTy c k) o k = v)
    (k0 : VT xp G y cc nL ret dep bc bs Φ (pc + 3) lv (v :: st) σ d) : VT xp G y cc nL ret dep bc bs Φ pc lv (.ref (gB G + o) :: st) σ d := by
  intro p e R s m args below meth c0 H locs cells slots Q ls gk cx h1 h2 hr hl hv kk
  subst hrf
  obtain ⟨-, -, cell, q1, q2, q3, q4⟩ := hr.2.2.1 o _ ho
  have hts := cx.2.2.2.2.2.1
  obtain ⟨hS, hfc, kC, hkC, hkind⟩ := cx_kn gk cx hc
  obtain ⟨cf, kf, fi, f, hi, hsl⟩ := hS k hk
  refine W.getf cx.1 cx.2.1 cx.2.2.2.2.1 (hts _ hw) hi (u_facts hfc hkC (u_lays hts (cl_in c hc) hk) hi).1 q1 (by rw [q3]; exact fun h => by cases h) (v := v) ?_ rfl rfl hd (k0 p e R s m args below meth c0 H locs cells slots Q ls gk cx h1 h2 hr hl hv kk)
  rw [hsl]
  exact (q4 k hk).trans (congrArg some hv0)
theorem VT_getI {idx c k o : Nat} {ref : String} (hd : decode cc pc = .ok (.getfield idx, 3)) (hc : c < 12) (hk : k < clN c) (hw : Cond.fieldLink y.cls idx ref (clT c k).2.1 (clT c k).2.2.1 ∈ lw_g) (hrf : ref = (clT c k).1) (ht : tyI (clTy c k) = true) (ho : σ.2.1 o = some (0, c))
    (k0 : VT xp G y cc nL ret dep bc bs Φ (pc + 3) lv (.int (d.1 o k) :: st) σ d) : VT xp G y cc nL ret dep bc bs Φ pc lv (.ref (gB G + o) :: st) σ d := VT_get hd hc hk hw hrf ho (fv_I ht) k0
theorem VT_getR {idx c k o r : Nat} {ref : String} (hd : decode cc pc = .ok (.getfield idx, 3)) (hc : c < 12) (hk : k < clN c) (hw : Cond.fieldLink y.cls idx ref (clT c k).2.1 (clT c k).2.2.1 ∈ lw_g) (hrf : ref = (clT c k).1) (ht : tyR (clTy c k) = true) (ho : σ.2.1 o = some (0, c)) (hrr : σ.2.2 o k = some r)
    (k0 : VT xp G y cc nL ret dep bc bs Φ (pc + 3) lv (.ref (gB G + r) :: st) σ d) : VT xp G y cc nL ret dep bc bs Φ pc lv (.ref (gB G + o) :: st) σ d := VT_get hd hc hk hw hrf ho (by rw [fv_R ht, hrr]; rfl) k0
theorem VT_callS {y2 : MethodName} {cc2 : ByteArray} {nL2 : Nat} {ret2 : Option FieldType} {dep2 bc2 bs2 bc1 bs1 n idx : Nat} {As : List Value} {Φ2 : List Value → Sg → Dt → Prop} (hd : decode cc pc = .ok (.invokestatic idx, 3)) (hm : Cond.methodLink y.cls idx y2 ∈ lw_g) (hcal : Cal y2 cc2 nL2 ret2 n) (hi : Cond.static y2 ∈ lw_g) (hdp : dep2 + 1 ≤ dep ∧ 19 + nL2 + 40 * dep2 ≤ 40 * dep) (hst : (st.map fun v => v.category).sum ≤ 8) (hlen : As.length = n) (hC : CT G y2 cc2 nL2 ret2 dep2 bc2 bs2 (As) σ d Φ2)
    (k : ∀ v σ1 d1, Φ2 v σ1 d1 → VT xp G y cc nL ret dep bc1 bs1 Φ (pc + 3) lv (v ++ st) σ1 d1) : VT xp G y cc nL ret dep (bc2 + bc1) (bs2 + bs1) Φ pc lv (As.reverse ++ st) σ d := by
  intro p e R s m args below meth c0 H locs cells slots Q ls gk cx h1 h2 hr hl hv kk
  have hts := cx.2.2.2.2.2.1
  have hin := hts _ hcal.2.1
  have cw : CallB R s args y.cls idx y2 cc2 nL2 ret2 (Cond.code y2 cc2 nL2 ret2 :: lw_g) (rmD dep2 bc2 bs2) bc2 bs2 n := callB_of n hts (good_in hcal) rfl rfl rfl hin (hts _ hm) hcal.2.2 ⟨by show dep2 + 1 ≤ _; omega, by show 8 + (nL2 + 11) + 40 * dep2 ≤ _; omega⟩
  refine w_call (va_runS (As := As) (rest := st) ⟨cx.1, cx.2.1, cx.2.2.2.1, cx.2.2.2.2.1, hts⟩ (hC gk) ⟨cw, hts _ hi⟩ ⟨ct_blind, fun U hU hW => ⟨rfl, cx.2.2.2.2.2.2.2.2.trans hW, by rw [hU]; exact hr⟩⟩ rfl hlen hv.1 rfl (by show 2 * 0 + _ ≤ _; omega) hd ⟨by omega, by omega⟩) fun v st1 t H1 L ht hq hL => ?_
  obtain ⟨v', σ1, d1, hv1, hp, hrep⟩ := hq
  cases hv1
  rw [ht] at hrep
  exact k _ σ1 d1 hp p e R s m args below meth c0 H1 (locs ++ L) (cells + bc2) (slots + bs2) Q ls gk cx h1 ⟨by omega, by omega⟩ hrep (bas_app hl hL) hv (fun a1 a2 a3 a4 a5 a6 a7 a8 a9 a10 b1 b2 b3 b4 b5 b6 => kk a1 a2 a3 a4 a5 a6 a7 a8 a9 a10 b1 b2 b3 b4 b5 ⟨by omega, by omega⟩)
theorem VT_cS2 {y2 : MethodName} {cc2 : ByteArray} {nL2 : Nat} {ret2 : Option FieldType} {dep2 idx : Nat} {a0 a1 : Value} {rv : List Value} {d1 : Dt} (hd : decode cc pc = .ok (.invokestatic idx, 3)) (hm : Cond.methodLink y.cls idx y2 ∈ lw_g) (hcal : Cal y2 cc2 nL2 ret2 2) (hi : Cond.static y2 ∈ lw_g) (hdp : dep2 + 1 ≤ dep ∧ 19 + nL2 + 40 * dep2 ≤ 40 * dep) (hst : (st.map fun v => v.category).sum ≤ 8) (hC : CTv G y2 cc2 nL2 ret2 dep2 ([a0, a1]) σ d rv d1)
    (k : VT xp G y cc nL ret dep bc bs Φ (pc + 3) lv (rv ++ st) σ d1) : VT xp G y cc nL ret dep bc bs Φ pc lv (a1 :: a0 :: st) σ d := by
  have h : VT xp G y cc nL ret dep (0 + bc) (0 + bs) Φ pc lv (a1 :: a0 :: st) σ d := VT_callS (bc2 := 0) (bs2 := 0) (As := [a0, a1]) hd hm hcal hi hdp hst rfl hC (fun v σ1 d1 h => by rw [h.1, h.2.1, h.2.2]; exact k)
  rw [Nat.zero_add, Nat.zero_add] at h
  exact h
theorem VT_ifB_ne {b : Bool} {off : Int} {tgt : Nat} (hd : decode cc pc = .ok (.ifCond .ne off, 3)) (ht : (pc : Int) + off = (tgt : Int)) (kt : b = true → VT xp G y cc nL ret dep bc bs Φ tgt lv st σ d) (kf : b = false → VT xp G y cc nL ret dep bc bs Φ (pc + 3) lv st σ d) : VT xp G y cc nL ret dep bc bs Φ pc lv (.int (b2i b) :: st) σ d := by
  refine VT_if_ne hd ht (fun h => kt ?_) (fun h => kf ?_)
  · cases b
    · exact absurd rfl h
    · rfl
  · cases b
    · rfl
    · exact absurd h (by decide)
theorem VT_end (hx : pc = xp) (hp : Φ [] σ d) : VT xp G y cc nL ret dep bc bs Φ pc lv [] σ d := by
  intro p e R s m args below meth c H locs cells slots Q ls gk cx h1 h2 hr hl hv kk
  exact kk pc ls [] σ d H locs cells slots hx rfl hv.1 hp hr hl ⟨by omega, by omega⟩
end VTS
