/-! the law's own method unused: it calls, and catches -/
theorem w_callX {p : Program} {l : Launch} {e : Env} {R : Room} {s : State} {m : MethodId} {args : Array Value} {below : List Frame} {meth : Method} {c : Code} {H : Heap} {locs : List Loc} {cells slots mc ms pc : Nat} {Q : State → Prop} {ls : Array Slot} {st0 rest : List Value} {Qa : State → Outcome → State → Prop} {XC : String → State → State → Prop} {free : Addr → Prop}
    (hr : vx_Run p l e R s m args below meth c H locs cells slots mc ms (F0 m pc ls st0) rest Qa XC free)
    (kx : ∀ (q : Addr) (E : String) (ce : Cell) (st t : State) (H1 : Heap) (L : List Loc), t.heap = H1 → XC E st t → (∀ q ∈ L, free q.base) → H1[q]? = some ce → ce.vm = .none → s.vm.findClass E = some ce.cls → vx_W p l e R s m args below meth c H1 (locs ++ L) (cells + mc) (slots + ms) Q (F0 m pc ls rest) q)
    (kk : ∀ (v : Option Value) (st t : State) (H1 : Heap) (L : List Loc), t.heap = H1 → Qa st (.returned v) t → (∀ q ∈ L, free q.base) → W p l e R s m args below meth c H1 (locs ++ L) (cells + mc) (slots + ms) Q (F0 m (pc + 3) ls (v.toList ++ rest))) : W p l e R s m args below meth c H locs cells slots Q (F0 m pc ls st0) := by
  intro T hT X
  rcases hr T hT X with ⟨v, st₀, t, T', L, h0, X', hL, e1, e2, hq, hst⟩ | ⟨q, st₀, t, T', L, E, ce, h0, X', hL, e1, e2, hx, hce, hcv, hcl, hst⟩
  · obtain ⟨t2, a1, b1⟩ := kk v st₀ t T'.heap L e1.symm hq hL T' rfl X'
    exact ⟨t2, hst t2 a1, b1⟩
  · obtain ⟨t2, a1, b1⟩ := kx q E ce st₀ t T'.heap L e1.symm hx hL (by rw [e1]; exact hce) hcv hcl T' rfl X'
    exact ⟨t2, hst.trans a1, b1⟩
theorem kwLU : Cond.codeWith yL_unused cL_unused 4 (some .int) [(0, 9, 12, 13)] ∈ lw_g := km5 (List.mem_of_getElem? (i := 203) (by decide +kernel)) rfl
theorem pn_L : plainName RL = true := by decide +kernel
def UQ (G : Gl) (σ : Sg) (d : Dt) (o : Option Int32) (oc : Outcome) (t : State) : Prop := ∃ c d2 k, oc = .returned (some (.int c)) ∧ Rep G (σ.1 + k, σ.2.1, σ.2.2) d2 t.heap ∧ (∀ r, o = some r → c = 0 ∧ d2 = uL d 182 0 r.toInt64) ∧ (o = none → c = 1 ∧ d2 = d)
theorem mt_lawun {G : Gl} {σ : Sg} {d : Dt} {h p : Nat} {v : Int32} (tx : TX G) (gk : GK G) (H0 : L10 σ 0 h p) (hout : σ.2.1 182 = some (2, 1)) (o : Option Int32) (hh : uX h v FUEL 0 0 d = some o) :
    vx_Met G.1 yL_unused (Cond.codeWith yL_unused cL_unused 4 (some .int) [(0, 9, 12, 13)] :: lw_g) (rmD 7 1 6) (fun a U => a = [Value.ref (gB G + 0), .int v, .ref (gB G + 182)].toArray ∧ G.2.1.WarmedH U.vm ∧ Rep G σ d U.heap) (fun _ _ oc t => UQ G σ d o oc t) (fun _ _ _ => False) 1 6 (fun q => gB G ≤ q) := by
  refine vx_ofWH (cc := cL_unused) (maxL := 4) (ret := some .int) (hh := [(0, 9, 12, 13)]) pn_L rfl ?_
  intro p e s m args below meth c s₁ B hml hv
  obtain ⟨rfl, hw, hrep⟩ := hv
  have hts := atoms_spec (ws := Cond.codeWith yL_unused cL_unused 4 (some .int) [(0, 9, 12, 13)] :: lw_g) B.pre
  have htb := vx_table (x := yL_unused) B (hts _ List.mem_cons_self)
  have hl0 := lv_entry [Value.ref (gB G + 0), .int v, .ref (gB G + 182)] (n := 4) (Nat.le_of_ble_eq_true rfl)
  have hlk := B.notSynchronized
  rw [lg_entry_eq]
  generalize (lg_sl [Value.ref (gB G + 0), .int v, .ref (gB G + 182)] ++ List.replicate (4 - (lg_sl [Value.ref (gB G + 0), .int v, .ref (gB G + 182)]).length) Slot.unset).toArray = ls at hl0 ⊢
  have hg : ∀ w ∈ lw_g, w.before [Value.ref (gB G + 0), .int v, .ref (gB G + 182)].toArray s = true := fun w hw => hts w (List.mem_cons_of_mem _ hw)
  have cx : CX G yL_unused cL_unused 4 (some .int) p s m [Value.ref (gB G + 0), .int v, .ref (gB G + 182)].toArray meth c := ⟨B.exec, B.bytes, B.returns, hml, findClass_of_methodNamed B.named, hg, hlk, (name_of_methodNamed B.named B.method).1, hw⟩
  have hl1 : lv_has ls 4 [(0, Value.ref (gB G + 0)), (1, .int v), (2, .ref (gB G + 182))] := hl0
  have fin : ∀ (cd : Int32) (d2 : Dt) (k : Nat) (pc' : Nat) (ls' : Array Slot) (H' : Heap) (locs' : List Loc) (cells' slots' : Nat), decode cL_unused pc' = .ok (.ireturn, 1) → Rep G (σ.1 + k, σ.2.1, σ.2.2) d2 H' → (∀ r, o = some r → cd = 0 ∧ d2 = uL d 182 0 r.toInt64) → (o = none → cd = 1 ∧ d2 = d) → (∀ q ∈ locs', gB G ≤ q.base) → cells' ≤ 1 ∧ slots' ≤ 6 → W p G.1 e (headSpec (Cond.codeWith yL_unused cL_unused 4 (some .int) [(0, 9, 12, 13)] :: lw_g) (rmD 7 1 6)).room s m [Value.ref (gB G + 0), .int v, .ref (gB G + 182)].toArray below meth c H' locs' cells' slots' (vx_MQ below (fun _ _ oc t => UQ G σ d o oc t) (fun _ _ _ => False) [Value.ref (gB G + 0), .int v, .ref (gB G + 182)].toArray s 1 6 (fun q => gB G ≤ q)) (F0 m pc' ls' [.int cd]) := by
    intro cd d2 k pc' ls' H' locs' cells' slots' hd hrep' a1 a2 hl' hcs
    refine vx_ret (W.widen (k := 1) (n := 6) (by omega) (by omega) ?_)
    exact W.zret cx.1 cx.2.1 cx.2.2.1 rfl (fun t ht _ => ⟨cd, d2, k, rfl, by rw [ht]; exact hrep', a1, a2⟩) hl' hd
  refine lv_aload_n cx.1 cx.2.1 dL_unused_0 rfl (lv_at hl1 2 rfl) ?_
  refine lv_iconst cx.1 cx.2.1 dL_unused_1 (v := 0) (by decide) ?_
  refine lv_aload_n cx.1 cx.2.1 dL_unused_2 rfl (lv_at hl1 0 rfl) ?_
  refine lv_iload_n cx.1 cx.2.1 dL_unused_3 rfl (lv_at hl1 1 rfl) ?_
  obtain ⟨hc12, cell, q1, q2, q3, -⟩ := hrep.2.2.1 0 _ H0.1 |>.2
  have cw : CallW (headSpec (Cond.codeWith yL_unused cL_unused 4 (some .int) [(0, 9, 12, 13)] :: lw_g) (rmD 7 1 6)).room s [Value.ref (gB G + 0), .int v, .ref (gB G + 182)].toArray RL RX11 7 yX11_unused cX11_unused 4 (some .int) (Cond.code yX11_unused cX11_unused 4 (some .int) :: lw_g) (rmD 6 1 6) 1 6 1 := ⟨callB_of 1 hg (fun w hw => by
      have hm : w ∈ lw_g := by
        rcases List.mem_cons.mp hw with e | e
        · rw [e]; exact kw1168
        · exact e
      exact ⟨hm, good_of_word (List.mem_filter.mp hm).2⟩) rfl rfl rfl (hg _ kw1) (hg _ kw1165) (by decide +kernel) ⟨by decide, by decide⟩, hg _ kw1166, hg _ kw1167⟩
  have hcell : ∃ cellB : Cell, s.heap[gB G + 0]? = some cellB ∧ cellB.vm.isStatics = false ∧ s.vm.findClass RX11 = some cellB.cls := ⟨cell, q1, by rw [q3]; rfl, by rw [q2]; exact (cx_kn gk cx hc12).2.1⟩
  refine w_callX (vx_runV (As := [.int v]) (rest := [.int 0, .ref (gB G + 182)]) ⟨cx.1, cx.2.1, cx.2.2.2.1, cx.2.2.2.2.1, hg⟩ (mt_unused tx gk H0 o hh) cw ⟨fun _ _ _ _ q => q, hcell, fun U hU hW => ⟨rfl, hw.trans hW, by rw [hU]; exact hrep⟩⟩ rfl rfl hl1.1 rfl (Nat.le_of_ble_eq_true rfl) dL_unused_4 ⟨Nat.le_of_ble_eq_true rfl, Nat.le_of_ble_eq_true rfl⟩) ?_ ?_
  · intro q E ce st t H1 L ht hx hL hce hcv hcl
    obtain ⟨ho, hE, k, hrep'⟩ := hx
    subst hE
    rw [ht] at hrep'
    refine vx_catch (own := RL) (name := nse) cx.2.2.2.2.1 [] ⟨0, 9, 12, 13⟩ [] (htb.trans rfl) (fun z hz => nomatch hz) (by decide) (by decide) (hg _ kw1164) (tx_bad tx hw nse_cast) hce hcv hcl ?_
    refine (V_astore_n (Φ := fun v' σ' d' => v' = [.int 1] ∧ σ' = (σ.1 + k, σ.2.1, σ.2.2) ∧ d' = d) (pc := 12) (lv := [(0, Value.ref (gB G + 0)), (1, .int v), (2, .ref (gB G + 182))]) dL_unused_12 rfl (by decide) rfl (V_iconst (pc := 13) (x := 1) dL_unused_13 (by decide) (V_ret (pc := 14) dL_unused_14 ⟨rfl, _, rfl⟩ ⟨rfl, rfl, rfl⟩)) : V G yL_unused cL_unused 4 (some .int) 7 0 0 _ 12 _ [.ref q] (σ.1 + k, σ.2.1, σ.2.2) d) p e _ s m _ below meth c H1 _ _ _ _ ls gk cx ⟨Nat.le_refl _, Nat.le_refl _⟩ ⟨Nat.le_of_ble_eq_true rfl, Nat.le_of_ble_eq_true rfl⟩ hrep' (fun z hz => hL z (by simpa using hz)) hl1 ?_
    intro pc' ls' st' ins σ' d' H' locs' cells' slots' hd hR hP hrep2 hl' hcs
    obtain ⟨rfl, rfl, rfl⟩ := hP
    obtain ⟨rfl, -⟩ := hR
    exact fin 1 d' k pc' ls' H' locs' cells' slots' hd hrep2 (fun r hr => by rw [ho] at hr; cases hr) (fun _ => ⟨rfl, rfl⟩) hl' (by omega)
  · intro v' st t H1 L ht hq hL
    obtain ⟨r, ho, hv', hrep'⟩ := hq
    cases hv'
    rw [ht] at hrep'
    refine (V_i2l (Φ := fun v' σ' d' => v' = [.int 0] ∧ σ' = σ ∧ d' = uL d 182 0 r.toInt64) (pc := 7) (lv := [(0, Value.ref (gB G + 0)), (1, .int v), (2, .ref (gB G + 182))]) dL_unused_7 (V_last (pc := 8) dL_unused_8 hout (show ¬ ((0:Int32) < 0 ∨ 1 ≤ (0:Int32).toNatClampNeg) by decide) (V_goto (pc := 9) (tgt := 15) dL_unused_9 (by decide) (V_iconst (pc := 15) (x := 0) dL_unused_15 (by decide) (V_ret (pc := 16) dL_unused_16 ⟨rfl, _, rfl⟩ ⟨rfl, rfl, rfl⟩)))) : V G yL_unused cL_unused 4 (some .int) 7 0 0 _ 7 _ [.int r, .int 0, .ref (gB G + 182)] σ d) p e _ s m _ below meth c H1 _ _ _ _ ls gk cx ⟨Nat.le_refl _, Nat.le_refl _⟩ ⟨Nat.le_of_ble_eq_true rfl, Nat.le_of_ble_eq_true rfl⟩ hrep' (fun z hz => hL z (by simpa using hz)) hl1 ?_
    intro pc' ls' st' ins σ' d' H' locs' cells' slots' hd hR hP hrep2 hl' hcs
    obtain ⟨rfl, rfl, rfl⟩ := hP
    obtain ⟨rfl, -⟩ := hR
    exact fin 0 _ 0 pc' ls' H' locs' cells' slots' hd hrep2 (fun r' hr => by rw [ho] at hr; cases hr; exact ⟨rfl, rfl⟩) (fun z => by rw [ho] at z; cases z) hl' (by omega)
