/-! SplicedLoom.unused as a callee that returns or throws -/
def TX (G : Gl) : Prop := (∀ w ∈ nseL.filter (fun w => !goodWord w), va_Nw w G.2.1) ∧ vx_Zq Bundle.tN "UNASSIGNED_STACK" Bundle.steD (fun a => gB G ≤ a) G.2.1 G.2.1.heap ∧ vx_Zq Bundle.tN "SUPPRESSED_SENTINEL" Bundle.listD (fun a => gB G ≤ a) G.2.1 G.2.1.heap ∧ G.1.stackTraces = false
theorem tx_bad {G : Gl} {s : State} {args : Array Value} (tx : TX G) (hW : G.2.1.WarmedH s.vm) {w : Cond} (hm : w ∈ nseL.filter (fun w => !goodWord w)) : w.before args s = true := by
  have hf := nse_bad w hm
  rw [Bool.and_eq_true] at hf
  exact va_tabs hf.2 (u := G.2.1.setVm s.vm) rfl (Cond.faceAtom_setVm hW.alike w hf.1 (tx.1 w hm))
theorem tx_at {G : Gl} {s : State} {args : Array Value} (tx : TX G) (hW : G.2.1.WarmedH s.vm) (hts : ∀ w ∈ lw_g, w.before args s = true) : ∀ w ∈ nseL, w.before args s = true := by
  intro w hw
  by_cases hg : goodWord w = true
  · exact hts w (List.mem_filter.mpr ⟨nse_tb w (List.mem_filter.mpr ⟨hw, hg⟩), hg⟩)
  · exact tx_bad tx hW (List.mem_filter.mpr ⟨hw, by rw [Bool.not_eq_true] at hg; simp [hg]⟩)
theorem Rep.grow {G : Gl} {σ : Sg} {d : Dt} {H H1 : Heap} (h : Rep G σ d H) (hs : H.size ≤ H1.size) (ha : ∀ a, a < H.size → H1[a]? = H[a]?) : Rep G (σ.1 + (H1.size - H.size), σ.2.1, σ.2.2) d H1 := by
  obtain ⟨h1, h2, h3, h4⟩ := h
  refine ⟨by show H1.size = gB G + (σ.1 + (H1.size - H.size)); omega, fun a hq => ?_, fun i r hr => ?_, fun i hi k => h4 i (Nat.le_trans (Nat.le_add_right _ _) hi) k⟩
  · rw [ha a (by omega)]; exact h2 a hq
  · obtain ⟨g1, g2⟩ := h3 i r hr
    refine ⟨Nat.lt_of_lt_of_le g1 (Nat.le_add_right _ _), cAt_mv g2 (ha _ (by omega)) (fun _ => rfl) (fun _ => rfl) (fun _ => rfl)⟩
theorem xn_0 : decode prog_29_method_4_code 0 = .ok (.aload_n 0, 1) := by decide +kernel
theorem xn_1 : decode prog_29_method_4_code 1 = .ok (.aload_n 1, 1) := by decide +kernel
theorem xn_2 : decode prog_29_method_4_code 2 = .ok (.invokespecial 13, 3) := by decide +kernel
theorem xn_5 : decode prog_29_method_4_code 5 = .ok (.return_, 1) := by decide +kernel
theorem str_unused : ("SplicedLoom", 374, "no such unused net", 24) ∈ strR := by decide +kernel
theorem fit_nse : Bundle.fit nse = true := by decide +kernel
theorem fit_nsn : ∀ n ∈ nsn, Bundle.fit n = true := by decide +kernel
theorem mt_unused {G : Gl} {σ : Sg} {d : Dt} {h p : Nat} {v : Int32} (tx : TX G) (gk : GK G) (H0 : L10 σ 0 h p) (o : Option Int32) (hh : uX h v FUEL 0 0 d = some o) :
    vx_Met G.1 yX11_unused (Cond.code yX11_unused cX11_unused 4 (some .int) :: lw_g) (rmD 6 1 6) (fun a U => a = [Value.ref (gB G + 0), .int v].toArray ∧ G.2.1.WarmedH U.vm ∧ Rep G σ d U.heap) (fun _ _ oc t => ∃ r, o = some r ∧ oc = .returned (some (.int r)) ∧ Rep G σ d t.heap) (fun E _ t => o = none ∧ E = nse ∧ ∃ k, Rep G (σ.1 + k, σ.2.1, σ.2.2) d t.heap) 1 6 (fun q => gB G ≤ q) := by
  refine vx_ofW (cc := cX11_unused) (maxL := 4) (ret := some .int) (by decide +kernel) rfl ?_
  intro p e s m args below meth c s₁ B hml htb hv
  obtain ⟨rfl, hw, hrep⟩ := hv
  have hts := atoms_spec (ws := Cond.code yX11_unused cX11_unused 4 (some .int) :: lw_g) B.pre
  have hl0 := lv_entry [Value.ref (gB G + 0), .int v] (n := 4) (Nat.le_of_ble_eq_true rfl)
  have hlk := B.notSynchronized
  rw [lg_entry_eq]
  generalize (lg_sl [Value.ref (gB G + 0), .int v] ++ List.replicate (4 - (lg_sl [Value.ref (gB G + 0), .int v]).length) Slot.unset).toArray = ls at hl0 ⊢
  have hg : ∀ w ∈ lw_g, w.before [Value.ref (gB G + 0), .int v].toArray s = true := fun w hw => hts w (List.mem_cons_of_mem _ hw)
  have cx : CX G yX11_unused cX11_unused 4 (some .int) p s m [Value.ref (gB G + 0), .int v].toArray meth c := ⟨B.exec, B.bytes, B.returns, hml, findClass_of_methodNamed B.named, hg, hlk, (name_of_methodNamed B.named B.method).1, hw⟩
  rcases o with _ | r
  · refine un_none H0 hh (Φ := fun _ σ' d' => σ' = σ ∧ d' = d) ⟨rfl, rfl⟩ p e _ s m _ below meth c s.heap [] 0 0 _ ls gk cx ⟨Nat.le_refl _, Nat.le_refl _⟩ ⟨Nat.zero_le _, Nat.zero_le _⟩ hrep (fun _ h => nomatch h) hl0 ?_
    intro pc' ls' st' σ' d' H' locs' cells' slots' e1 e2 hsz hP hrep' hl' hcs
    subst e1; subst e2
    obtain ⟨rfl, rfl⟩ := hP
    refine xx_throwSW (A := fun a => gB G ≤ a) (own := RX11) (cls := nse) (text := "no such unused net") (names := nsn) (ix := 13) (rx := prog_29_method_4_code) cx.1 cx.2.1 tx.2.2.2 xn_0 xn_1 xn_2 xn_5 cx.2.2.2.2.1 fit_nse fit_nsn (hg _ kw1172) (hg _ kw24) (vk_R.warm hw (gk.2.2.2.2.2.2.2.2.1 _ str_unused)) (tx_at tx hw hg) nse_ot ?_ ?_ ?_ (hsz.trans hml.symm) dX11_unused_45 dX11_unused_48 dX11_unused_49 dX11_unused_52 dX11_unused_55 (fun x hx => absurd hx (fun z => htb x z)) (by decide) (by decide) (by have := hcs.1; show cells' + 1 ≤ 1; omega) (by have := hcs.2; show slots' + 6 ≤ 6; omega) hlk ?_ hl' (by have := hcs.1; omega) (by have := hcs.2; omega)
    · exact vx_Zq.kept (vx_Zq.moved hw.alike tx.2.1) (fun a _ h2 => hrep.2.1 a (Nat.lt_of_not_le h2))
    · exact vx_Zq.kept (vx_Zq.moved hw.alike tx.2.2.1) (fun a _ h2 => hrep.2.1 a (Nat.lt_of_not_le h2))
    · refine ⟨by rw [hrep.1, hrep'.1]; exact Nat.le_refl _, fun q _ h2 => ?_, hl'⟩
      rw [hrep'.2.1 q (Nat.lt_of_not_le h2), hrep.2.1 q (Nat.lt_of_not_le h2)]
    · intro t _ h1 h2
      exact ⟨rfl, rfl, _, hrep'.grow h1 h2⟩
  · refine un_found H0 hh (Φ := fun v' σ' d' => v' = [.int r] ∧ σ' = σ ∧ d' = d) ⟨rfl, rfl, rfl⟩ p e _ s m _ below meth c s.heap [] 0 0 _ ls gk cx ⟨Nat.le_refl _, Nat.le_refl _⟩ ⟨Nat.zero_le _, Nat.zero_le _⟩ hrep (fun _ h => nomatch h) hl0 ?_
    intro pc' ls' st' ins σ' d' H' locs' cells' slots' hd hR hP hrep' hl' hcs
    obtain ⟨rfl, rfl, rfl⟩ := hP
    obtain ⟨rfl, v', hv'⟩ := hR
    cases hv'
    refine vx_ret (W.widen (k := 1) (n := 6) (by omega) (by omega) ?_)
    exact W.zret cx.1 cx.2.1 cx.2.2.1 rfl (fun t ht _ => ⟨r, rfl, rfl, by rw [ht]; exact hrep'⟩) hl' hd
