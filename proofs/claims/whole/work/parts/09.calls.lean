/-! contracts and calls -/
section VC
variable {G : Gl} {y : MethodName} {cc : ByteArray} {nL : Nat} {ret : Option FieldType} {dep bc bs : Nat} {Φ : List Value → Sg → Dt → Prop} {pc : Nat} {lv : List (Nat × Value)} {st : List Value} {σ : Sg} {d : Dt}
theorem CT_of {av : List Value} (hy : plainName y.cls = true) (hn : (lg_sl av).length ≤ nL) (h : V G y cc nL ret dep bc bs Φ 0 (lv_args 0 av) [] σ d) : CT G y cc nL ret dep bc bs av σ d Φ := by
  intro gk
  refine Met.ofW (cc := cc) (maxL := nL) (ret := ret) hy rfl ?_
  intro p e s m args below meth c s₁ B hml hv
  obtain ⟨rfl, hw, hrep⟩ := hv
  have hts := atoms_spec (ws := Cond.code y cc nL ret :: lw_g) B.pre
  have hl0 := lv_entry av (n := nL) hn
  have hlk := B.notSynchronized
  rw [lg_entry_eq]
  generalize (lg_sl av ++ List.replicate (nL - (lg_sl av).length) Slot.unset).toArray = ls at hl0 ⊢
  refine h p e _ s m _ below meth c s.heap [] 0 0 _ ls gk ⟨B.exec, B.bytes, B.returns, hml, findClass_of_methodNamed B.named, fun w hw => hts w (List.mem_cons_of_mem _ hw), hlk, (name_of_methodNamed B.named B.method).1, hw⟩ ⟨Nat.le_refl _, Nat.le_refl _⟩ ⟨Nat.le_of_eq (Nat.zero_add _), Nat.le_of_eq (Nat.zero_add _)⟩ hrep (fun _ h => nomatch h) hl0 ?_
  intro pc' ls' st' ins σ' d' H' locs' cells' slots' hd hR hP hrep' hl' hcs
  refine W.widen (k := bc) (n := bs) (by omega) (by omega) ?_
  have fin : ∀ (v : Option Value) (t : State), v.toList = st' → t.heap = H' → ∃ (v' : Option Value) (σ'' : Sg) (d'' : Dt), Outcome.returned v = .returned v' ∧ Φ v'.toList σ'' d'' ∧ Rep G σ'' d'' t.heap := fun v t hv ht => ⟨v, σ', d', rfl, by rw [hv]; exact hP, by rw [ht]; exact hrep'⟩
  have hr := B.returns
  have hx := B.exec
  have hb := B.bytes
  rcases ret with _ | ty
  · obtain ⟨rfl, rfl⟩ := hR
    exact W.vret hx hb hr (fun t ht _ => fin none t rfl ht) hl' hd
  · by_cases h1 : ty = .long
    · subst h1
      obtain ⟨rfl, v, rfl⟩ := hR
      exact W.lret hx hb hr (fun t ht _ => fin _ t rfl ht) hl' hd
    · have h3 : ins = .ireturn ∧ ∃ v, st' = [.int v] ∧ narrow ty (.int v) = .int v := by
        cases ty <;> first | exact hR | (exact absurd rfl h1) | exact ⟨hR.1, hR.2.choose, hR.2.choose_spec, rfl⟩
      obtain ⟨rfl, v, rfl, h4⟩ := h3
      exact W.zret hx hb hr h4 (fun t ht _ => fin _ t rfl ht) hl' hd
theorem w_call {p : Program} {l : Launch} {e : Env} {R : Room} {s : State} {m : MethodId} {args : Array Value} {below : List Frame} {meth : Method} {c : Code} {H : Heap} {locs : List Loc} {cells slots mc ms : Nat} {Q : State → Prop} {ls : Array Slot} {st0 rest : List Value} {Qa : State → Outcome → State → Prop} {free : Addr → Prop}
    (hr : va_Run p l e R s m args below meth c H locs cells slots mc ms (F0 m pc ls st0) rest Qa free)
    (kk : ∀ (v : Option Value) (st t : State) (H1 : Heap) (L : List Loc), t.heap = H1 → Qa st (.returned v) t → (∀ q ∈ L, free q.base) → W p l e R s m args below meth c H1 (locs ++ L) (cells + mc) (slots + ms) Q (F0 m (pc + 3) ls (v.toList ++ rest))) : W p l e R s m args below meth c H locs cells slots Q (F0 m pc ls st0) := by
  intro T hT X
  obtain ⟨v, st₀, t, T', L, h0, X', hL, e1, e2, hq, hst⟩ := hr T hT X
  obtain ⟨t2, a1, b1⟩ := kk v st₀ t T'.heap L e1.symm hq hL T' rfl X'
  exact ⟨t2, hst t2 a1, b1⟩
/-- what a callee is, by the tables -/
def Cal (y2 : MethodName) (cc2 : ByteArray) (nL2 : Nat) (ret2 : Option FieldType) (n : Nat) : Prop :=
  Cond.code y2 cc2 nL2 ret2 ∈ lw_g ∧ Cond.initialized y2.cls ∈ lw_g ∧ (y2.cls ≠ "java/lang/invoke/MethodHandle" ∧ y2.cls ≠ "java/lang/invoke/VarHandle" ∧ (parseMethodDescriptor y2.desc).map (fun d => d.parameters.length) = some n)
theorem good_in {y2 : MethodName} {cc2 : ByteArray} {nL2 : Nat} {ret2 : Option FieldType} {n : Nat} (h : Cal y2 cc2 nL2 ret2 n) : GoodIn lw_g (Cond.code y2 cc2 nL2 ret2 :: lw_g) := fun w hw => by
  have hm : w ∈ lw_g := by
    rcases List.mem_cons.mp hw with e | e
    · rw [e]; exact h.1
    · exact e
  exact ⟨hm, good_of_word (List.mem_filter.mp hm).2⟩
theorem bas_app {G : Gl} {l1 l2 : List Loc} (h1 : ∀ q ∈ l1, gB G ≤ q.base) (h2 : ∀ q ∈ l2, gB G ≤ q.base) : ∀ q ∈ l1 ++ l2, gB G ≤ q.base := fun q hq => (List.mem_append.mp hq).elim (h1 q) (h2 q)
theorem ct_blind {G : Gl} {σ : Sg} {d : Dt} {av : List Value} : FrameBlind (fun a U => a = av.toArray ∧ G.2.1.WarmedH U.vm ∧ Rep G σ d U.heap) := fun _ _ _ _ q => q
theorem V_callV {y2 : MethodName} {cc2 : ByteArray} {nL2 : Nat} {ret2 : Option FieldType} {dep2 bc2 bs2 bc1 bs1 n idx o ci : Nat} {As : List Value} {Φ2 : List Value → Sg → Dt → Prop} (hd : decode cc pc = .ok (.invokevirtual idx, 3)) (hm : Cond.methodLink y.cls idx y2 ∈ lw_g) (hcal : Cal y2 cc2 nL2 ret2 n) (hi : Cond.instanceMethod y2 ∈ lw_g) (hs : Cond.selects y2.cls y2 y2 ∈ lw_g) (ho : σ.2.1 o = some (0, ci)) (hcl : y2.cls = clC ci) (hdp : dep2 + 1 ≤ dep ∧ 19 + nL2 + 40 * dep2 ≤ 40 * dep) (hst : (st.map fun v => v.category).sum ≤ 8) (hlen : As.length = n) (hC : CT G y2 cc2 nL2 ret2 dep2 bc2 bs2 (.ref (gB G + o) :: As) σ d Φ2)
    (k : ∀ v σ1 d1, Φ2 v σ1 d1 → V G y cc nL ret dep bc1 bs1 Φ (pc + 3) lv (v ++ st) σ1 d1) : V G y cc nL ret dep (bc2 + bc1) (bs2 + bs1) Φ pc lv (As.reverse ++ .ref (gB G + o) :: st) σ d := by
  intro p e R s m args below meth c0 H locs cells slots Q ls gk cx h1 h2 hr hl hv kk
  have hts := cx.2.2.2.2.2.1
  have hin := hts _ hcal.2.1
  obtain ⟨hc12, cell, q1, q2, q3, -⟩ := hr.2.2.1 o _ ho |>.2
  have cw : CallW R s args y.cls y2.cls idx y2 cc2 nL2 ret2 (Cond.code y2 cc2 nL2 ret2 :: lw_g) (rmD dep2 bc2 bs2) bc2 bs2 n := ⟨callB_of n hts (good_in hcal) rfl rfl rfl hin (hts _ hm) hcal.2.2 ⟨by show dep2 + 1 ≤ _; omega, by show 8 + (nL2 + 11) + 40 * dep2 ≤ _; omega⟩, hts _ hi, hts _ hs⟩
  have hcell : ∃ cellB : Cell, H[gB G + o]? = some cellB ∧ cellB.vm.isStatics = false ∧ s.vm.findClass y2.cls = some cellB.cls := ⟨cell, q1, by rw [q3]; rfl, by rw [q2, hcl]; exact (cx_kn gk cx hc12).2.1⟩
  refine w_call (va_runV (As := As) (rest := st) ⟨cx.1, cx.2.1, cx.2.2.2.1, cx.2.2.2.2.1, hts⟩ (hC gk) cw ⟨ct_blind, hcell, fun U hU hW => ⟨rfl, cx.2.2.2.2.2.2.2.2.trans hW, by rw [hU]; exact hr⟩⟩ rfl hlen hv.1 rfl (by show 2 * 0 + _ ≤ _; omega) hd ⟨by omega, by omega⟩) fun v st1 t H1 L ht hq hL => ?_
  obtain ⟨v', σ1, d1, hv1, hp, hrep⟩ := hq
  cases hv1
  rw [ht] at hrep
  exact k _ σ1 d1 hp p e R s m args below meth c0 H1 (locs ++ L) (cells + bc2) (slots + bs2) Q ls gk cx h1 ⟨by omega, by omega⟩ hrep (bas_app hl hL) hv (fun a1 a2 a3 a4 a5 a6 a7 a8 a9 a10 b1 b2 b3 b4 b5 b6 => kk a1 a2 a3 a4 a5 a6 a7 a8 a9 a10 b1 b2 b3 b4 b5 ⟨by omega, by omega⟩)
theorem V_callS {y2 : MethodName} {cc2 : ByteArray} {nL2 : Nat} {ret2 : Option FieldType} {dep2 bc2 bs2 bc1 bs1 n idx : Nat} {As : List Value} {Φ2 : List Value → Sg → Dt → Prop} (hd : decode cc pc = .ok (.invokestatic idx, 3)) (hm : Cond.methodLink y.cls idx y2 ∈ lw_g) (hcal : Cal y2 cc2 nL2 ret2 n) (hi : Cond.static y2 ∈ lw_g) (hdp : dep2 + 1 ≤ dep ∧ 19 + nL2 + 40 * dep2 ≤ 40 * dep) (hst : (st.map fun v => v.category).sum ≤ 8) (hlen : As.length = n) (hC : CT G y2 cc2 nL2 ret2 dep2 bc2 bs2 (As) σ d Φ2)
    (k : ∀ v σ1 d1, Φ2 v σ1 d1 → V G y cc nL ret dep bc1 bs1 Φ (pc + 3) lv (v ++ st) σ1 d1) : V G y cc nL ret dep (bc2 + bc1) (bs2 + bs1) Φ pc lv (As.reverse ++ st) σ d := by
  intro p e R s m args below meth c0 H locs cells slots Q ls gk cx h1 h2 hr hl hv kk
  have hts := cx.2.2.2.2.2.1
  have hin := hts _ hcal.2.1
  have cw : CallB R s args y.cls idx y2 cc2 nL2 ret2 (Cond.code y2 cc2 nL2 ret2 :: lw_g) (rmD dep2 bc2 bs2) bc2 bs2 n := callB_of n hts (good_in hcal) rfl rfl rfl hin (hts _ hm) hcal.2.2 ⟨by show dep2 + 1 ≤ _; omega, by show 8 + (nL2 + 11) + 40 * dep2 ≤ _; omega⟩
  refine w_call (va_runS (As := As) (rest := st) ⟨cx.1, cx.2.1, cx.2.2.2.1, cx.2.2.2.2.1, hts⟩ (hC gk) ⟨cw, hts _ hi⟩ ⟨ct_blind, fun U hU hW => ⟨rfl, cx.2.2.2.2.2.2.2.2.trans hW, by rw [hU]; exact hr⟩⟩ rfl hlen hv.1 rfl (by show 2 * 0 + _ ≤ _; omega) hd ⟨by omega, by omega⟩) fun v st1 t H1 L ht hq hL => ?_
  obtain ⟨v', σ1, d1, hv1, hp, hrep⟩ := hq
  cases hv1
  rw [ht] at hrep
  exact k _ σ1 d1 hp p e R s m args below meth c0 H1 (locs ++ L) (cells + bc2) (slots + bs2) Q ls gk cx h1 ⟨by omega, by omega⟩ hrep (bas_app hl hL) hv (fun a1 a2 a3 a4 a5 a6 a7 a8 a9 a10 b1 b2 b3 b4 b5 b6 => kk a1 a2 a3 a4 a5 a6 a7 a8 a9 a10 b1 b2 b3 b4 b5 ⟨by omega, by omega⟩)
theorem V_callI {y2 : MethodName} {cc2 : ByteArray} {nL2 : Nat} {dep2 bc2 bs2 bc1 bs1 n idx o : Nat} {As : List Value} {Φ2 : List Value → Sg → Dt → Prop} (hd : decode cc pc = .ok (.invokespecial idx, 3)) (hm : Cond.methodLink y.cls idx y2 ∈ lw_g) (hcal : Cal y2 cc2 nL2 none n) (hi : Cond.instanceMethod y2 ∈ lw_g) (hy1 : y2.name = "<init>") (hdp : dep2 + 1 ≤ dep ∧ 19 + nL2 + 40 * dep2 ≤ 40 * dep) (hst : (st.map fun v => v.category).sum ≤ 8) (hlen : As.length = n) (hC : CT G y2 cc2 nL2 none dep2 bc2 bs2 (.ref (gB G + o) :: As) σ d Φ2)
    (k : ∀ v σ1 d1, Φ2 v σ1 d1 → V G y cc nL ret dep bc1 bs1 Φ (pc + 3) lv (v ++ st) σ1 d1) : V G y cc nL ret dep (bc2 + bc1) (bs2 + bs1) Φ pc lv (As.reverse ++ .ref (gB G + o) :: st) σ d := by
  intro p e R s m args below meth c0 H locs cells slots Q ls gk cx h1 h2 hr hl hv kk
  have hts := cx.2.2.2.2.2.1
  have hin := hts _ hcal.2.1
  have cw : CallB R s args y.cls idx y2 cc2 nL2 none (Cond.code y2 cc2 nL2 none :: lw_g) (rmD dep2 bc2 bs2) bc2 bs2 n := callB_of n hts (good_in hcal) rfl rfl rfl hin (hts _ hm) hcal.2.2 ⟨by show dep2 + 1 ≤ _; omega, by show 8 + (nL2 + 11) + 40 * dep2 ≤ _; omega⟩
  refine w_call (va_runI (As := As) (rest := st) ⟨cx.1, cx.2.1, cx.2.2.2.1, cx.2.2.2.2.1, hts⟩ (hC gk) ⟨cw, hy1, hts _ hi⟩ ⟨ct_blind, fun U hU hW => ⟨rfl, cx.2.2.2.2.2.2.2.2.trans hW, by rw [hU]; exact hr⟩⟩ rfl hlen hv.1 rfl (by show 2 * 0 + _ ≤ _; omega) hd ⟨by omega, by omega⟩) fun v st1 t H1 L ht hq hL => ?_
  obtain ⟨v', σ1, d1, hv1, hp, hrep⟩ := hq
  cases hv1
  rw [ht] at hrep
  exact k _ σ1 d1 hp p e R s m args below meth c0 H1 (locs ++ L) (cells + bc2) (slots + bs2) Q ls gk cx h1 ⟨by omega, by omega⟩ hrep (bas_app hl hL) hv (fun a1 a2 a3 a4 a5 a6 a7 a8 a9 a10 b1 b2 b3 b4 b5 b6 => kk a1 a2 a3 a4 a5 a6 a7 a8 a9 a10 b1 b2 b3 b4 b5 ⟨by omega, by omega⟩)
theorem V_callIN {y2 : MethodName} {cc2 : ByteArray} {nL2 : Nat} {dep2 bc2 bs2 bc1 bs1 n idx o : Nat} {As : List Value} {Φ2 : List Value → Sg → Dt → Prop} {host : String} (hd : decode cc pc = .ok (.invokespecial idx, 3)) (hm : (y.cls, idx, y2, host) ∈ nestM) (hcal : Cal y2 cc2 nL2 none n) (hi : Cond.instanceMethod y2 ∈ lw_g) (hy1 : y2.name = "<init>") (hdp : dep2 + 1 ≤ dep ∧ 19 + nL2 + 40 * dep2 ≤ 40 * dep) (hst : (st.map fun v => v.category).sum ≤ 8) (hlen : As.length = n) (hC : CT G y2 cc2 nL2 none dep2 bc2 bs2 (.ref (gB G + o) :: As) σ d Φ2)
    (k : ∀ v σ1 d1, Φ2 v σ1 d1 → V G y cc nL ret dep bc1 bs1 Φ (pc + 3) lv (v ++ st) σ1 d1) : V G y cc nL ret dep (bc2 + bc1) (bs2 + bs1) Φ pc lv (As.reverse ++ .ref (gB G + o) :: st) σ d := by
  intro p e R s m args below meth c0 H locs cells slots Q ls gk cx h1 h2 hr hl hv kk
  have hts := cx.2.2.2.2.2.1
  have hin := hts _ hcal.2.1
  have hnw : va_Nw (.methodLinkNest y.cls idx y2 host) s := va_Nw.warmM cx.2.2.2.2.2.2.2.2 (gk.2.2.2.2.2.1 _ hm)
  have cw : va_CN R s args y.cls idx y2 host cc2 nL2 none (Cond.code y2 cc2 nL2 none :: lw_g) (rmD dep2 bc2 bs2) bc2 bs2 n := va_cnB n hts (good_in hcal) rfl rfl rfl hnw hin hcal.2.2 ⟨by show dep2 + 1 ≤ _; omega, by show 8 + (nL2 + 11) + 40 * dep2 ≤ _; omega⟩
  refine w_call (va_runIN (As := As) (rest := st) ⟨cx.1, cx.2.1, cx.2.2.2.1, cx.2.2.2.2.1, hts⟩ (hC gk) ⟨cw, hy1, hts _ hi⟩ ⟨ct_blind, fun U hU hW => ⟨rfl, cx.2.2.2.2.2.2.2.2.trans hW, by rw [hU]; exact hr⟩⟩ rfl hlen hv.1 rfl (by show 2 * 0 + _ ≤ _; omega) hd ⟨by omega, by omega⟩) fun v st1 t H1 L ht hq hL => ?_
  obtain ⟨v', σ1, d1, hv1, hp, hrep⟩ := hq
  cases hv1
  rw [ht] at hrep
  exact k _ σ1 d1 hp p e R s m args below meth c0 H1 (locs ++ L) (cells + bc2) (slots + bs2) Q ls gk cx h1 ⟨by omega, by omega⟩ hrep (bas_app hl hL) hv (fun a1 a2 a3 a4 a5 a6 a7 a8 a9 a10 b1 b2 b3 b4 b5 b6 => kk a1 a2 a3 a4 a5 a6 a7 a8 a9 a10 b1 b2 b3 b4 b5 ⟨by omega, by omega⟩)
/-- the answer r, the world's shape as it was, contents d' -/
def CTv (G : Gl) (y : MethodName) (cc : ByteArray) (nL : Nat) (ret : Option FieldType) (dep : Nat) (av : List Value) (σ : Sg) (d : Dt) (rv : List Value) (d' : Dt) : Prop := CT G y cc nL ret dep 0 0 av σ d (fun v σ1 d1 => v = rv ∧ σ1 = σ ∧ d1 = d')
def b2i (b : Bool) : Int32 := if b then 1 else 0
theorem V_cV0 {y2 : MethodName} {cc2 : ByteArray} {nL2 : Nat} {ret2 : Option FieldType} {dep2 idx o ci : Nat} {rv : List Value} {d1 : Dt} (hd : decode cc pc = .ok (.invokevirtual idx, 3)) (hm : Cond.methodLink y.cls idx y2 ∈ lw_g) (hcal : Cal y2 cc2 nL2 ret2 0) (hi : Cond.instanceMethod y2 ∈ lw_g) (hs : Cond.selects y2.cls y2 y2 ∈ lw_g) (ho : σ.2.1 o = some (0, ci)) (hcl : y2.cls = clC ci) (hdp : dep2 + 1 ≤ dep ∧ 19 + nL2 + 40 * dep2 ≤ 40 * dep) (hst : (st.map fun v => v.category).sum ≤ 8) (hC : CTv G y2 cc2 nL2 ret2 dep2 (.ref (gB G + o) :: []) σ d rv d1)
    (k : V G y cc nL ret dep bc bs Φ (pc + 3) lv (rv ++ st) σ d1) : V G y cc nL ret dep bc bs Φ pc lv (.ref (gB G + o) :: st) σ d := by
  have h : V G y cc nL ret dep (0 + bc) (0 + bs) Φ pc lv (.ref (gB G + o) :: st) σ d := V_callV (bc2 := 0) (bs2 := 0) (As := []) hd hm hcal hi hs ho hcl hdp hst rfl hC (fun v σ1 d1 h => by rw [h.1, h.2.1, h.2.2]; exact k)
  rw [Nat.zero_add, Nat.zero_add] at h
  exact h
theorem V_cV1 {y2 : MethodName} {cc2 : ByteArray} {nL2 : Nat} {ret2 : Option FieldType} {dep2 idx o ci : Nat} {a0 : Value} {rv : List Value} {d1 : Dt} (hd : decode cc pc = .ok (.invokevirtual idx, 3)) (hm : Cond.methodLink y.cls idx y2 ∈ lw_g) (hcal : Cal y2 cc2 nL2 ret2 1) (hi : Cond.instanceMethod y2 ∈ lw_g) (hs : Cond.selects y2.cls y2 y2 ∈ lw_g) (ho : σ.2.1 o = some (0, ci)) (hcl : y2.cls = clC ci) (hdp : dep2 + 1 ≤ dep ∧ 19 + nL2 + 40 * dep2 ≤ 40 * dep) (hst : (st.map fun v => v.category).sum ≤ 8) (hC : CTv G y2 cc2 nL2 ret2 dep2 (.ref (gB G + o) :: [a0]) σ d rv d1)
    (k : V G y cc nL ret dep bc bs Φ (pc + 3) lv (rv ++ st) σ d1) : V G y cc nL ret dep bc bs Φ pc lv (a0 :: .ref (gB G + o) :: st) σ d := by
  have h : V G y cc nL ret dep (0 + bc) (0 + bs) Φ pc lv (a0 :: .ref (gB G + o) :: st) σ d := V_callV (bc2 := 0) (bs2 := 0) (As := [a0]) hd hm hcal hi hs ho hcl hdp hst rfl hC (fun v σ1 d1 h => by rw [h.1, h.2.1, h.2.2]; exact k)
  rw [Nat.zero_add, Nat.zero_add] at h
  exact h
theorem V_cV2 {y2 : MethodName} {cc2 : ByteArray} {nL2 : Nat} {ret2 : Option FieldType} {dep2 idx o ci : Nat} {a0 a1 : Value} {rv : List Value} {d1 : Dt} (hd : decode cc pc = .ok (.invokevirtual idx, 3)) (hm : Cond.methodLink y.cls idx y2 ∈ lw_g) (hcal : Cal y2 cc2 nL2 ret2 2) (hi : Cond.instanceMethod y2 ∈ lw_g) (hs : Cond.selects y2.cls y2 y2 ∈ lw_g) (ho : σ.2.1 o = some (0, ci)) (hcl : y2.cls = clC ci) (hdp : dep2 + 1 ≤ dep ∧ 19 + nL2 + 40 * dep2 ≤ 40 * dep) (hst : (st.map fun v => v.category).sum ≤ 8) (hC : CTv G y2 cc2 nL2 ret2 dep2 (.ref (gB G + o) :: [a0, a1]) σ d rv d1)
    (k : V G y cc nL ret dep bc bs Φ (pc + 3) lv (rv ++ st) σ d1) : V G y cc nL ret dep bc bs Φ pc lv (a1 :: a0 :: .ref (gB G + o) :: st) σ d := by
  have h : V G y cc nL ret dep (0 + bc) (0 + bs) Φ pc lv (a1 :: a0 :: .ref (gB G + o) :: st) σ d := V_callV (bc2 := 0) (bs2 := 0) (As := [a0, a1]) hd hm hcal hi hs ho hcl hdp hst rfl hC (fun v σ1 d1 h => by rw [h.1, h.2.1, h.2.2]; exact k)
  rw [Nat.zero_add, Nat.zero_add] at h
  exact h
theorem V_cV3 {y2 : MethodName} {cc2 : ByteArray} {nL2 : Nat} {ret2 : Option FieldType} {dep2 idx o ci : Nat} {a0 a1 a2 : Value} {rv : List Value} {d1 : Dt} (hd : decode cc pc = .ok (.invokevirtual idx, 3)) (hm : Cond.methodLink y.cls idx y2 ∈ lw_g) (hcal : Cal y2 cc2 nL2 ret2 3) (hi : Cond.instanceMethod y2 ∈ lw_g) (hs : Cond.selects y2.cls y2 y2 ∈ lw_g) (ho : σ.2.1 o = some (0, ci)) (hcl : y2.cls = clC ci) (hdp : dep2 + 1 ≤ dep ∧ 19 + nL2 + 40 * dep2 ≤ 40 * dep) (hst : (st.map fun v => v.category).sum ≤ 8) (hC : CTv G y2 cc2 nL2 ret2 dep2 (.ref (gB G + o) :: [a0, a1, a2]) σ d rv d1)
    (k : V G y cc nL ret dep bc bs Φ (pc + 3) lv (rv ++ st) σ d1) : V G y cc nL ret dep bc bs Φ pc lv (a2 :: a1 :: a0 :: .ref (gB G + o) :: st) σ d := by
  have h : V G y cc nL ret dep (0 + bc) (0 + bs) Φ pc lv (a2 :: a1 :: a0 :: .ref (gB G + o) :: st) σ d := V_callV (bc2 := 0) (bs2 := 0) (As := [a0, a1, a2]) hd hm hcal hi hs ho hcl hdp hst rfl hC (fun v σ1 d1 h => by rw [h.1, h.2.1, h.2.2]; exact k)
  rw [Nat.zero_add, Nat.zero_add] at h
  exact h
theorem V_cV4 {y2 : MethodName} {cc2 : ByteArray} {nL2 : Nat} {ret2 : Option FieldType} {dep2 idx o ci : Nat} {a0 a1 a2 a3 : Value} {rv : List Value} {d1 : Dt} (hd : decode cc pc = .ok (.invokevirtual idx, 3)) (hm : Cond.methodLink y.cls idx y2 ∈ lw_g) (hcal : Cal y2 cc2 nL2 ret2 4) (hi : Cond.instanceMethod y2 ∈ lw_g) (hs : Cond.selects y2.cls y2 y2 ∈ lw_g) (ho : σ.2.1 o = some (0, ci)) (hcl : y2.cls = clC ci) (hdp : dep2 + 1 ≤ dep ∧ 19 + nL2 + 40 * dep2 ≤ 40 * dep) (hst : (st.map fun v => v.category).sum ≤ 8) (hC : CTv G y2 cc2 nL2 ret2 dep2 (.ref (gB G + o) :: [a0, a1, a2, a3]) σ d rv d1)
    (k : V G y cc nL ret dep bc bs Φ (pc + 3) lv (rv ++ st) σ d1) : V G y cc nL ret dep bc bs Φ pc lv (a3 :: a2 :: a1 :: a0 :: .ref (gB G + o) :: st) σ d := by
  have h : V G y cc nL ret dep (0 + bc) (0 + bs) Φ pc lv (a3 :: a2 :: a1 :: a0 :: .ref (gB G + o) :: st) σ d := V_callV (bc2 := 0) (bs2 := 0) (As := [a0, a1, a2, a3]) hd hm hcal hi hs ho hcl hdp hst rfl hC (fun v σ1 d1 h => by rw [h.1, h.2.1, h.2.2]; exact k)
  rw [Nat.zero_add, Nat.zero_add] at h
  exact h
theorem V_cV5 {y2 : MethodName} {cc2 : ByteArray} {nL2 : Nat} {ret2 : Option FieldType} {dep2 idx o ci : Nat} {a0 a1 a2 a3 a4 : Value} {rv : List Value} {d1 : Dt} (hd : decode cc pc = .ok (.invokevirtual idx, 3)) (hm : Cond.methodLink y.cls idx y2 ∈ lw_g) (hcal : Cal y2 cc2 nL2 ret2 5) (hi : Cond.instanceMethod y2 ∈ lw_g) (hs : Cond.selects y2.cls y2 y2 ∈ lw_g) (ho : σ.2.1 o = some (0, ci)) (hcl : y2.cls = clC ci) (hdp : dep2 + 1 ≤ dep ∧ 19 + nL2 + 40 * dep2 ≤ 40 * dep) (hst : (st.map fun v => v.category).sum ≤ 8) (hC : CTv G y2 cc2 nL2 ret2 dep2 (.ref (gB G + o) :: [a0, a1, a2, a3, a4]) σ d rv d1)
    (k : V G y cc nL ret dep bc bs Φ (pc + 3) lv (rv ++ st) σ d1) : V G y cc nL ret dep bc bs Φ pc lv (a4 :: a3 :: a2 :: a1 :: a0 :: .ref (gB G + o) :: st) σ d := by
  have h : V G y cc nL ret dep (0 + bc) (0 + bs) Φ pc lv (a4 :: a3 :: a2 :: a1 :: a0 :: .ref (gB G + o) :: st) σ d := V_callV (bc2 := 0) (bs2 := 0) (As := [a0, a1, a2, a3, a4]) hd hm hcal hi hs ho hcl hdp hst rfl hC (fun v σ1 d1 h => by rw [h.1, h.2.1, h.2.2]; exact k)
  rw [Nat.zero_add, Nat.zero_add] at h
  exact h
theorem V_cV6 {y2 : MethodName} {cc2 : ByteArray} {nL2 : Nat} {ret2 : Option FieldType} {dep2 idx o ci : Nat} {a0 a1 a2 a3 a4 a5 : Value} {rv : List Value} {d1 : Dt} (hd : decode cc pc = .ok (.invokevirtual idx, 3)) (hm : Cond.methodLink y.cls idx y2 ∈ lw_g) (hcal : Cal y2 cc2 nL2 ret2 6) (hi : Cond.instanceMethod y2 ∈ lw_g) (hs : Cond.selects y2.cls y2 y2 ∈ lw_g) (ho : σ.2.1 o = some (0, ci)) (hcl : y2.cls = clC ci) (hdp : dep2 + 1 ≤ dep ∧ 19 + nL2 + 40 * dep2 ≤ 40 * dep) (hst : (st.map fun v => v.category).sum ≤ 8) (hC : CTv G y2 cc2 nL2 ret2 dep2 (.ref (gB G + o) :: [a0, a1, a2, a3, a4, a5]) σ d rv d1)
    (k : V G y cc nL ret dep bc bs Φ (pc + 3) lv (rv ++ st) σ d1) : V G y cc nL ret dep bc bs Φ pc lv (a5 :: a4 :: a3 :: a2 :: a1 :: a0 :: .ref (gB G + o) :: st) σ d := by
  have h : V G y cc nL ret dep (0 + bc) (0 + bs) Φ pc lv (a5 :: a4 :: a3 :: a2 :: a1 :: a0 :: .ref (gB G + o) :: st) σ d := V_callV (bc2 := 0) (bs2 := 0) (As := [a0, a1, a2, a3, a4, a5]) hd hm hcal hi hs ho hcl hdp hst rfl hC (fun v σ1 d1 h => by rw [h.1, h.2.1, h.2.2]; exact k)
  rw [Nat.zero_add, Nat.zero_add] at h
  exact h
theorem V_cS0 {y2 : MethodName} {cc2 : ByteArray} {nL2 : Nat} {ret2 : Option FieldType} {dep2 idx : Nat} {rv : List Value} {d1 : Dt} (hd : decode cc pc = .ok (.invokestatic idx, 3)) (hm : Cond.methodLink y.cls idx y2 ∈ lw_g) (hcal : Cal y2 cc2 nL2 ret2 0) (hi : Cond.static y2 ∈ lw_g) (hdp : dep2 + 1 ≤ dep ∧ 19 + nL2 + 40 * dep2 ≤ 40 * dep) (hst : (st.map fun v => v.category).sum ≤ 8) (hC : CTv G y2 cc2 nL2 ret2 dep2 ([]) σ d rv d1)
    (k : V G y cc nL ret dep bc bs Φ (pc + 3) lv (rv ++ st) σ d1) : V G y cc nL ret dep bc bs Φ pc lv (st) σ d := by
  have h : V G y cc nL ret dep (0 + bc) (0 + bs) Φ pc lv (st) σ d := V_callS (bc2 := 0) (bs2 := 0) (As := []) hd hm hcal hi hdp hst rfl hC (fun v σ1 d1 h => by rw [h.1, h.2.1, h.2.2]; exact k)
  rw [Nat.zero_add, Nat.zero_add] at h
  exact h
theorem V_cS1 {y2 : MethodName} {cc2 : ByteArray} {nL2 : Nat} {ret2 : Option FieldType} {dep2 idx : Nat} {a0 : Value} {rv : List Value} {d1 : Dt} (hd : decode cc pc = .ok (.invokestatic idx, 3)) (hm : Cond.methodLink y.cls idx y2 ∈ lw_g) (hcal : Cal y2 cc2 nL2 ret2 1) (hi : Cond.static y2 ∈ lw_g) (hdp : dep2 + 1 ≤ dep ∧ 19 + nL2 + 40 * dep2 ≤ 40 * dep) (hst : (st.map fun v => v.category).sum ≤ 8) (hC : CTv G y2 cc2 nL2 ret2 dep2 ([a0]) σ d rv d1)
    (k : V G y cc nL ret dep bc bs Φ (pc + 3) lv (rv ++ st) σ d1) : V G y cc nL ret dep bc bs Φ pc lv (a0 :: st) σ d := by
  have h : V G y cc nL ret dep (0 + bc) (0 + bs) Φ pc lv (a0 :: st) σ d := V_callS (bc2 := 0) (bs2 := 0) (As := [a0]) hd hm hcal hi hdp hst rfl hC (fun v σ1 d1 h => by rw [h.1, h.2.1, h.2.2]; exact k)
  rw [Nat.zero_add, Nat.zero_add] at h
  exact h
theorem V_cS2 {y2 : MethodName} {cc2 : ByteArray} {nL2 : Nat} {ret2 : Option FieldType} {dep2 idx : Nat} {a0 a1 : Value} {rv : List Value} {d1 : Dt} (hd : decode cc pc = .ok (.invokestatic idx, 3)) (hm : Cond.methodLink y.cls idx y2 ∈ lw_g) (hcal : Cal y2 cc2 nL2 ret2 2) (hi : Cond.static y2 ∈ lw_g) (hdp : dep2 + 1 ≤ dep ∧ 19 + nL2 + 40 * dep2 ≤ 40 * dep) (hst : (st.map fun v => v.category).sum ≤ 8) (hC : CTv G y2 cc2 nL2 ret2 dep2 ([a0, a1]) σ d rv d1)
    (k : V G y cc nL ret dep bc bs Φ (pc + 3) lv (rv ++ st) σ d1) : V G y cc nL ret dep bc bs Φ pc lv (a1 :: a0 :: st) σ d := by
  have h : V G y cc nL ret dep (0 + bc) (0 + bs) Φ pc lv (a1 :: a0 :: st) σ d := V_callS (bc2 := 0) (bs2 := 0) (As := [a0, a1]) hd hm hcal hi hdp hst rfl hC (fun v σ1 d1 h => by rw [h.1, h.2.1, h.2.2]; exact k)
  rw [Nat.zero_add, Nat.zero_add] at h
  exact h
theorem V_cS3 {y2 : MethodName} {cc2 : ByteArray} {nL2 : Nat} {ret2 : Option FieldType} {dep2 idx : Nat} {a0 a1 a2 : Value} {rv : List Value} {d1 : Dt} (hd : decode cc pc = .ok (.invokestatic idx, 3)) (hm : Cond.methodLink y.cls idx y2 ∈ lw_g) (hcal : Cal y2 cc2 nL2 ret2 3) (hi : Cond.static y2 ∈ lw_g) (hdp : dep2 + 1 ≤ dep ∧ 19 + nL2 + 40 * dep2 ≤ 40 * dep) (hst : (st.map fun v => v.category).sum ≤ 8) (hC : CTv G y2 cc2 nL2 ret2 dep2 ([a0, a1, a2]) σ d rv d1)
    (k : V G y cc nL ret dep bc bs Φ (pc + 3) lv (rv ++ st) σ d1) : V G y cc nL ret dep bc bs Φ pc lv (a2 :: a1 :: a0 :: st) σ d := by
  have h : V G y cc nL ret dep (0 + bc) (0 + bs) Φ pc lv (a2 :: a1 :: a0 :: st) σ d := V_callS (bc2 := 0) (bs2 := 0) (As := [a0, a1, a2]) hd hm hcal hi hdp hst rfl hC (fun v σ1 d1 h => by rw [h.1, h.2.1, h.2.2]; exact k)
  rw [Nat.zero_add, Nat.zero_add] at h
  exact h
theorem V_cS4 {y2 : MethodName} {cc2 : ByteArray} {nL2 : Nat} {ret2 : Option FieldType} {dep2 idx : Nat} {a0 a1 a2 a3 : Value} {rv : List Value} {d1 : Dt} (hd : decode cc pc = .ok (.invokestatic idx, 3)) (hm : Cond.methodLink y.cls idx y2 ∈ lw_g) (hcal : Cal y2 cc2 nL2 ret2 4) (hi : Cond.static y2 ∈ lw_g) (hdp : dep2 + 1 ≤ dep ∧ 19 + nL2 + 40 * dep2 ≤ 40 * dep) (hst : (st.map fun v => v.category).sum ≤ 8) (hC : CTv G y2 cc2 nL2 ret2 dep2 ([a0, a1, a2, a3]) σ d rv d1)
    (k : V G y cc nL ret dep bc bs Φ (pc + 3) lv (rv ++ st) σ d1) : V G y cc nL ret dep bc bs Φ pc lv (a3 :: a2 :: a1 :: a0 :: st) σ d := by
  have h : V G y cc nL ret dep (0 + bc) (0 + bs) Φ pc lv (a3 :: a2 :: a1 :: a0 :: st) σ d := V_callS (bc2 := 0) (bs2 := 0) (As := [a0, a1, a2, a3]) hd hm hcal hi hdp hst rfl hC (fun v σ1 d1 h => by rw [h.1, h.2.1, h.2.2]; exact k)
  rw [Nat.zero_add, Nat.zero_add] at h
  exact h
theorem V_cS5 {y2 : MethodName} {cc2 : ByteArray} {nL2 : Nat} {ret2 : Option FieldType} {dep2 idx : Nat} {a0 a1 a2 a3 a4 : Value} {rv : List Value} {d1 : Dt} (hd : decode cc pc = .ok (.invokestatic idx, 3)) (hm : Cond.methodLink y.cls idx y2 ∈ lw_g) (hcal : Cal y2 cc2 nL2 ret2 5) (hi : Cond.static y2 ∈ lw_g) (hdp : dep2 + 1 ≤ dep ∧ 19 + nL2 + 40 * dep2 ≤ 40 * dep) (hst : (st.map fun v => v.category).sum ≤ 8) (hC : CTv G y2 cc2 nL2 ret2 dep2 ([a0, a1, a2, a3, a4]) σ d rv d1)
    (k : V G y cc nL ret dep bc bs Φ (pc + 3) lv (rv ++ st) σ d1) : V G y cc nL ret dep bc bs Φ pc lv (a4 :: a3 :: a2 :: a1 :: a0 :: st) σ d := by
  have h : V G y cc nL ret dep (0 + bc) (0 + bs) Φ pc lv (a4 :: a3 :: a2 :: a1 :: a0 :: st) σ d := V_callS (bc2 := 0) (bs2 := 0) (As := [a0, a1, a2, a3, a4]) hd hm hcal hi hdp hst rfl hC (fun v σ1 d1 h => by rw [h.1, h.2.1, h.2.2]; exact k)
  rw [Nat.zero_add, Nat.zero_add] at h
  exact h
theorem V_ifB_eq {b : Bool} {off : Int} {tgt : Nat} (hd : decode cc pc = .ok (.ifCond .eq off, 3)) (ht : (pc : Int) + off = (tgt : Int)) (kt : b = false → V G y cc nL ret dep bc bs Φ tgt lv st σ d) (kf : b = true → V G y cc nL ret dep bc bs Φ (pc + 3) lv st σ d) : V G y cc nL ret dep bc bs Φ pc lv (.int (b2i b) :: st) σ d := by
  refine V_if_eq hd ht (fun h => kt ?_) (fun h => kf ?_)
  · cases b
    · rfl
    · exact absurd h (by decide)
  · cases b
    · exact absurd rfl h
    · rfl
theorem V_ifB_ne {b : Bool} {off : Int} {tgt : Nat} (hd : decode cc pc = .ok (.ifCond .ne off, 3)) (ht : (pc : Int) + off = (tgt : Int)) (kt : b = true → V G y cc nL ret dep bc bs Φ tgt lv st σ d) (kf : b = false → V G y cc nL ret dep bc bs Φ (pc + 3) lv st σ d) : V G y cc nL ret dep bc bs Φ pc lv (.int (b2i b) :: st) σ d := by
  refine V_if_ne hd ht (fun h => kt ?_) (fun h => kf ?_)
  · cases b
    · exact absurd rfl h
    · rfl
  · cases b
    · rfl
    · exact absurd h (by decide)
theorem b2i_nar (b : Bool) : narrow .boolean (.int (b2i b)) = .int (b2i b) := by cases b <;> rfl
theorem b2i_fit (b : Bool) : narrow .boolean (.int (b2i b)) = .int (b2i b) ∧ fits .boolean (.int (b2i b)) = true := by cases b <;> exact ⟨rfl, rfl⟩
end VC
