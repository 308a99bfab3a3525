/-! the rules of V that touch the world -/
section VH
variable {G : Gl} {y : MethodName} {cc : ByteArray} {nL : Nat} {ret : Option FieldType} {dep bc bs : Nat} {Φ : List Value → Sg → Dt → Prop} {pc : Nat} {lv : List (Nat × Value)} {st : List Value} {σ : Sg} {d : Dt}
theorem cx_kn {y : MethodName} {cc : ByteArray} {nL : Nat} {ret : Option FieldType} {p : Program} {s : State} {m : MethodId} {args : Array Value} {meth : Method} {c0 : Code} (gk : GK G) (cx : CX G y cc nL ret p s m args meth c0) {c : Nat} (hc : c < 12) : u_Kn s (clC c) (clT c) (clN c) (G.2.2.1.1 c) (G.2.2.1.2 c) :=
  u_Kn_moved cx.2.2.2.2.2.2.2.2.alike (gk.1 c _ (cl_at c hc))
theorem V_get {idx c k o : Nat} {ref : String} {v : Value} (hd : decode cc pc = .ok (.getfield idx, 3)) (hc : c < 12) (hk : k < clN c) (hw : Cond.fieldLink y.cls idx ref (clT c k).2.1 (clT c k).2.2.1 ∈ lw_g) (hrf : ref = (clT c k).1) (ho : σ.2.1 o = some (0, c)) (hv0 : fv G σ d (clTy c k) o k = v)
    (k0 : V G y cc nL ret dep bc bs Φ (pc + 3) lv (v :: st) σ d) : V G y cc nL ret dep bc bs Φ pc lv (.ref (gB G + o) :: st) σ d := by
  intro p e R s m args below meth c0 H locs cells slots Q ls gk cx h1 h2 hr hl hv kk
  subst hrf
  obtain ⟨-, -, cell, q1, q2, q3, q4⟩ := hr.2.2.1 o _ ho
  have hts := cx.2.2.2.2.2.1
  obtain ⟨hS, hfc, kC, hkC, hkind⟩ := cx_kn gk cx hc
  obtain ⟨cf, kf, fi, f, hi, hsl⟩ := hS k hk
  refine W.getf cx.1 cx.2.1 cx.2.2.2.2.1 (hts _ hw) hi (u_facts hfc hkC (u_lays hts (cl_in c hc) hk) hi).1 q1 (by rw [q3]; exact fun h => by cases h) (v := v) ?_ rfl rfl hd (k0 p e R s m args below meth c0 H locs cells slots Q ls gk cx h1 h2 hr hl hv kk)
  rw [hsl]
  exact (q4 k hk).trans (congrArg some hv0)
theorem V_getI {idx c k o : Nat} {ref : String} (hd : decode cc pc = .ok (.getfield idx, 3)) (hc : c < 12) (hk : k < clN c) (hw : Cond.fieldLink y.cls idx ref (clT c k).2.1 (clT c k).2.2.1 ∈ lw_g) (hrf : ref = (clT c k).1) (ht : tyI (clTy c k) = true) (ho : σ.2.1 o = some (0, c))
    (k0 : V G y cc nL ret dep bc bs Φ (pc + 3) lv (.int (d.1 o k) :: st) σ d) : V G y cc nL ret dep bc bs Φ pc lv (.ref (gB G + o) :: st) σ d := V_get hd hc hk hw hrf ho (fv_I ht) k0
theorem V_getL {idx c k o : Nat} {ref : String} (hd : decode cc pc = .ok (.getfield idx, 3)) (hc : c < 12) (hk : k < clN c) (hw : Cond.fieldLink y.cls idx ref (clT c k).2.1 (clT c k).2.2.1 ∈ lw_g) (hrf : ref = (clT c k).1) (ht : clTy c k = .long) (ho : σ.2.1 o = some (0, c))
    (k0 : V G y cc nL ret dep bc bs Φ (pc + 3) lv (.long (d.2 o k) :: st) σ d) : V G y cc nL ret dep bc bs Φ pc lv (.ref (gB G + o) :: st) σ d := V_get hd hc hk hw hrf ho (by rw [ht]; rfl) k0
theorem V_getR {idx c k o r : Nat} {ref : String} (hd : decode cc pc = .ok (.getfield idx, 3)) (hc : c < 12) (hk : k < clN c) (hw : Cond.fieldLink y.cls idx ref (clT c k).2.1 (clT c k).2.2.1 ∈ lw_g) (hrf : ref = (clT c k).1) (ht : tyR (clTy c k) = true) (ho : σ.2.1 o = some (0, c)) (hrr : σ.2.2 o k = some r)
    (k0 : V G y cc nL ret dep bc bs Φ (pc + 3) lv (.ref (gB G + r) :: st) σ d) : V G y cc nL ret dep bc bs Φ pc lv (.ref (gB G + o) :: st) σ d := V_get hd hc hk hw hrf ho (by rw [fv_R ht, hrr]; rfl) k0
theorem V_put {idx c k o : Nat} {ref : String} {v : Value} {σ1 : Sg} {d1 : Dt} (hd : decode cc pc = .ok (.putfield idx, 3)) (hc : c < 12) (hk : k < clN c) (hw : Cond.fieldLink y.cls idx ref (clT c k).2.1 (clT c k).2.2.1 ∈ lw_g) (hrf : ref = (clT c k).1) (hfin : (clT c k).2.2.2 = false ∨ (y.name = "<init>" ∧ (clT c k).1 = y.cls)) (hn : narrow (clTy c k) v = v ∧ fits (clTy c k) v = true) (ho : σ.2.1 o = some (0, c))
    (e0 : σ1.1 = σ.1) (e1 : σ1.2.1 = σ.2.1) (e : ∀ i, i ≠ o → ∀ j, d1.1 i j = d.1 i j ∧ d1.2 i j = d.2 i j ∧ σ1.2.2 i j = σ.2.2 i j) (hv0 : ∀ j, j < clN c → fv G σ1 d1 (clTy c j) o j = updV (fun j => fv G σ d (clTy c j) o j) k v j)
    (k0 : V G y cc nL ret dep bc bs Φ (pc + 3) lv st σ1 d1) : V G y cc nL ret dep bc bs Φ pc lv (v :: .ref (gB G + o) :: st) σ d := by
  intro p e' R s m args below meth c0 H locs cells slots Q ls gk cx h1 h2 hr hl hv kk
  subst hrf
  obtain ⟨-, -, cell, q1, q2, q3, q4⟩ := hr.2.2.1 o _ ho
  have hts := cx.2.2.2.2.2.1
  have hown := cx.2.2.2.2.1
  obtain ⟨hS, hfc, kC, hkC, hkind⟩ := cx_kn gk cx hc
  have hap : ∀ a b, a < clN c → b < clN c → a ≠ b → G.2.2.1.2 c a ≠ G.2.2.1.2 c b := by
    intro a b ha hb hne
    obtain ⟨_, _, _, fa, hia, ea⟩ := hS a ha
    obtain ⟨_, _, _, fb, hib, eb⟩ := hS b hb
    rw [← ea, ← eb]
    refine u_apart (u_lays hts (cl_in c hc) ha) (u_lays hts (cl_in c hc) hb) hia hib ?_
    rw [(State.fieldFound?_type hia (cl_ty c hc a ha)).1, (State.fieldFound?_type hib (cl_ty c hc b hb)).1]
    exact cl_nm c hc a ha b hb hne
  obtain ⟨cf, kf, fi, f, hi, hsl⟩ := hS k hk
  have hst := (u_facts hfc hkC (u_lays hts (cl_in c hc) hk) hi).1
  have hlay := hts _ (cl_in c hc _ (u_in_lay hk))
  have done : ∀ H' : Heap, H'[gB G + o]? = some (cell.setSlot f.slot v) → H'.size = H.size → (∀ q, q ≠ gB G + o → H'[q]? = H[q]?) → W p G.1 e' R s m args below meth c0 H' (locs ++ [⟨gB G + o, f.slot⟩]) cells slots Q (F0 m (pc + 3) ls st) := by
    intro H' g1 g2 g3
    rw [hsl] at g1
    refine k0 p e' R s m args below meth c0 H' _ cells slots Q ls gk cx h1 h2 (hr.upd ho g2 g3 e0 e1 e ⟨hc, ?_⟩) (fun q hq => ?_) hv kk
    · refine t_OB.to (V := updV (fun j => fv G σ d (clTy c j) o j) k v) ⟨_, g1, q2, q3, t_set q4 hap hk v⟩ (fun j hj => (hv0 j hj).symm)
    · rcases List.mem_append.mp hq with h | h
      · exact hl q h
      · rw [List.mem_singleton.mp h]; exact Nat.le_add_right _ _
  by_cases hf : (clT c k).2.2.2 = true
  · obtain ⟨hin, hdecl⟩ : y.name = "<init>" ∧ (clT c k).1 = y.cls := by
      rcases hfin with h | h
      · rw [hf] at h; cases h
      · exact h
    unfold u_lay at hlay
    rw [if_pos hf] at hlay
    have hcf : m.cls = cf := by
      obtain ⟨_, _, c', _, _, _, -, -, hf', -, -, -, hown2, -⟩ := Cond.laysFinal_spec hlay
      have e1 : c' = cf := by have := hi.symm.trans hf'; simp at this; exact this.1.symm
      rw [hdecl] at hown2
      rw [← e1]; exact Option.some.inj (hown.symm.trans hown2)
    have h6 := u_fits hfc hkC hkind (Or.inr hlay) hi (cl_ty c hc k hk) hn.1 hn.2
    exact W.putFinK cx.1 cx.2.1 hown (hts _ hw) hi hst hcf (cx.2.2.2.2.2.2.2.1.trans hin) (by rw [q2]; exact h6) q1 q3 (by rw [hsl]; exact k2_hasslot (q4 k hk)) rfl rfl hd done
  · unfold u_lay at hlay
    rw [if_neg hf] at hlay
    have h6 := u_store hfc hkC hkind hlay hi (cl_ty c hc k hk) hn.1 hn.2
    exact W.putK cx.1 cx.2.1 (f := f) ⟨hown, hts _ hw, ⟨_, _, _, hi⟩, hst⟩ (by rw [q2]; exact h6) q1 q3 (by rw [hsl]; exact k2_hasslot (q4 k hk)) rfl rfl hd done
theorem V_putI {idx c k o : Nat} {ref : String} {x : Int32} (hd : decode cc pc = .ok (.putfield idx, 3)) (hc : c < 12) (hk : k < clN c) (hw : Cond.fieldLink y.cls idx ref (clT c k).2.1 (clT c k).2.2.1 ∈ lw_g) (hrf : ref = (clT c k).1) (hfin : (clT c k).2.2.2 = false) (ht : tyI (clTy c k) = true) (hn : narrow (clTy c k) (.int x) = .int x ∧ fits (clTy c k) (.int x) = true) (ho : σ.2.1 o = some (0, c))
    (k0 : V G y cc nL ret dep bc bs Φ (pc + 3) lv st σ (uI d o k x)) : V G y cc nL ret dep bc bs Φ pc lv (.int x :: .ref (gB G + o) :: st) σ d := by
  refine V_put (σ1 := σ) (d1 := uI d o k x) hd hc hk hw hrf (Or.inl hfin) hn ho rfl rfl (fun i hi j => ⟨uI_ne hi j, rfl, rfl⟩) (fun j hj => ?_) k0
  by_cases h : j = k
  · subst h; rw [fv_I ht]; simp [uI, updV]
  · exact (fv_eq (d := d) (d1 := uI d o k x) (σ := σ) (σ1 := σ) (by simp [uI, h]) rfl rfl).trans (by simp [updV, h])
theorem V_putL {idx c k o : Nat} {ref : String} {x : Int64} (hd : decode cc pc = .ok (.putfield idx, 3)) (hc : c < 12) (hk : k < clN c) (hw : Cond.fieldLink y.cls idx ref (clT c k).2.1 (clT c k).2.2.1 ∈ lw_g) (hrf : ref = (clT c k).1) (hfin : (clT c k).2.2.2 = false) (ht : clTy c k = .long) (ho : σ.2.1 o = some (0, c))
    (k0 : V G y cc nL ret dep bc bs Φ (pc + 3) lv st σ (uL d o k x)) : V G y cc nL ret dep bc bs Φ pc lv (.long x :: .ref (gB G + o) :: st) σ d := by
  refine V_put (σ1 := σ) (d1 := uL d o k x) hd hc hk hw hrf (Or.inl hfin) (by rw [ht]; exact ⟨rfl, rfl⟩) ho rfl rfl (fun i hi j => ⟨rfl, uL_ne hi j, rfl⟩) (fun j hj => ?_) k0
  by_cases h : j = k
  · subst h; rw [ht]; simp [fv, uL, updV]
  · exact (fv_eq (d := d) (d1 := uL d o k x) (σ := σ) (σ1 := σ) rfl (by simp [uL, h]) rfl).trans (by simp [updV, h])
theorem V_putR {idx c k o r : Nat} {ref : String} (hd : decode cc pc = .ok (.putfield idx, 3)) (hc : c < 12) (hk : k < clN c) (hw : Cond.fieldLink y.cls idx ref (clT c k).2.1 (clT c k).2.2.1 ∈ lw_g) (hrf : ref = (clT c k).1) (hfin : (clT c k).2.2.2 = false ∨ (y.name = "<init>" ∧ (clT c k).1 = y.cls)) (ht : tyR (clTy c k) = true) (ho : σ.2.1 o = some (0, c))
    (k0 : V G y cc nL ret dep bc bs Φ (pc + 3) lv st (uR σ o k (some r)) d) : V G y cc nL ret dep bc bs Φ pc lv (.ref (gB G + r) :: .ref (gB G + o) :: st) σ d := by
  refine V_put (σ1 := uR σ o k (some r)) (d1 := d) hd hc hk hw hrf hfin (by cases h : clTy c k <;> rw [h] at ht <;> first | exact ⟨rfl, rfl⟩ | cases ht) ho rfl rfl (fun i hi j => ⟨rfl, rfl, uR_ne hi j⟩) (fun j hj => ?_) k0
  by_cases h : j = k
  · subst h; rw [fv_R ht]; simp [uR, updV, rfv, va_rf]
  · exact (fv_eq (d := d) (d1 := d) (σ := σ) (σ1 := uR σ o k (some r)) rfl rfl (by simp [uR, h])).trans (by simp [updV, h])
-- arrays
theorem V_iald {o n : Nat} {x : Int32} (hd : decode cc pc = .ok (.iaload, 1)) (ho : σ.2.1 o = some (1, n)) (hi : vp_in x n)
    (k0 : V G y cc nL ret dep bc bs Φ (pc + 1) lv (.int (d.1 o x.toNatClampNeg) :: st) σ d) : V G y cc nL ret dep bc bs Φ pc lv (.int x :: .ref (gB G + o) :: st) σ d := by
  intro p e R s m args below meth c0 H locs cells slots Q ls gk cx h1 h2 hr hl hv kk
  have hlt : x.toNatClampNeg < n := Nat.not_le.mp fun q => hi (Or.inr q)
  exact W.iald (v := .int (d.1 o x.toNatClampNeg)) cx.1 cx.2.1 (hr.2.2.1 o _ ho).2 ((arrOfT_moved cx.2.2.2.2.2.2.2.2.alike gk.2.1.1) n _) (fun q => by cases q) (by rw [arrV_size]; exact hi) (by rw [arrV_read _ _ hlt]) rfl rfl hd (k0 p e R s m args below meth c0 H locs cells slots Q ls gk cx h1 h2 hr hl hv kk)
theorem V_lald {o n : Nat} {x : Int32} (hd : decode cc pc = .ok (.laload, 1)) (ho : σ.2.1 o = some (2, n)) (hi : vp_in x n)
    (k0 : V G y cc nL ret dep bc bs Φ (pc + 1) lv (.long (d.2 o x.toNatClampNeg) :: st) σ d) : V G y cc nL ret dep bc bs Φ pc lv (.int x :: .ref (gB G + o) :: st) σ d := by
  intro p e R s m args below meth c0 H locs cells slots Q ls gk cx h1 h2 hr hl hv kk
  have hlt : x.toNatClampNeg < n := Nat.not_le.mp fun q => hi (Or.inr q)
  exact W.lald (v := .long (d.2 o x.toNatClampNeg)) cx.1 cx.2.1 (hr.2.2.1 o _ ho).2 ((arrOfT_moved cx.2.2.2.2.2.2.2.2.alike gk.2.2.1.1) n _) (fun q => by cases q) (by rw [arrV_size]; exact hi) (by rw [arrV_read _ _ hlt]) rfl rfl hd (k0 p e R s m args below meth c0 H locs cells slots Q ls gk cx h1 h2 hr hl hv kk)
theorem V_bald {o n : Nat} {x : Int32} (hd : decode cc pc = .ok (.baload, 1)) (ho : σ.2.1 o = some (3, n)) (hi : vp_in x n)
    (k0 : V G y cc nL ret dep bc bs Φ (pc + 1) lv (.int (d.1 o x.toNatClampNeg) :: st) σ d) : V G y cc nL ret dep bc bs Φ pc lv (.int x :: .ref (gB G + o) :: st) σ d := by
  intro p e R s m args below meth c0 H locs cells slots Q ls gk cx h1 h2 hr hl hv kk
  have hlt : x.toNatClampNeg < n := Nat.not_le.mp fun q => hi (Or.inr q)
  exact W.bald (v := .int (d.1 o x.toNatClampNeg)) cx.1 cx.2.1 (hr.2.2.1 o _ ho).2 ((arrOfT_moved cx.2.2.2.2.2.2.2.2.alike gk.2.2.2.1.1) n _) (fun q => by cases q) (by rw [arrV_size]; exact hi) (by rw [arrV_read _ _ hlt]) rfl rfl hd (k0 p e R s m args below meth c0 H locs cells slots Q ls gk cx h1 h2 hr hl hv kk)
theorem V_aald {o n r : Nat} {x : Int32} (hd : decode cc pc = .ok (.aaload, 1)) (ho : σ.2.1 o = some (4, n)) (hi : vp_in x n) (hrr : σ.2.2 o x.toNatClampNeg = some r)
    (k0 : V G y cc nL ret dep bc bs Φ (pc + 1) lv (.ref (gB G + r) :: st) σ d) : V G y cc nL ret dep bc bs Φ pc lv (.int x :: .ref (gB G + o) :: st) σ d := by
  intro p e R s m args below meth c0 H locs cells slots Q ls gk cx h1 h2 hr hl hv kk
  have hlt : x.toNatClampNeg < n := Nat.not_le.mp fun q => hi (Or.inr q)
  exact W.aald (v := .ref (gB G + r)) (ty := .array .int) cx.1 cx.2.1 (hr.2.2.1 o _ ho).2 ((arrOfT_moved cx.2.2.2.2.2.2.2.2.alike gk.2.2.2.2.1.1) n _) rfl (fun q => by cases q) (by rw [arrV_size]; exact hi) (by rw [arrV_read _ _ hlt, hrr]; rfl) rfl rfl hd (k0 p e R s m args below meth c0 H locs cells slots Q ls gk cx h1 h2 hr hl hv kk)
theorem bas_put {G : Gl} {locs : List Loc} {o k : Nat} (hl : ∀ q ∈ locs, gB G ≤ q.base) : ∀ q ∈ locs ++ [(⟨gB G + o, k⟩ : Loc)], gB G ≤ q.base := fun q hq => by
  rcases List.mem_append.mp hq with h | h
  · exact hl q h
  · rw [List.mem_singleton.mp h]; exact Nat.le_add_right _ _
theorem V_iast {o n : Nat} {x z : Int32} (hd : decode cc pc = .ok (.iastore, 1)) (ho : σ.2.1 o = some (1, n)) (hi : vp_in x n)
    (k0 : V G y cc nL ret dep bc bs Φ (pc + 1) lv st σ (uI d o x.toNatClampNeg z)) : V G y cc nL ret dep bc bs Φ pc lv (.int z :: .int x :: .ref (gB G + o) :: st) σ d := by
  intro p e R s m args below meth c0 H locs cells slots Q ls gk cx h1 h2 hr hl hv kk
  refine W.iast cx.1 cx.2.1 (hr.2.2.1 o _ ho).2 ((arrOfT_moved cx.2.2.2.2.2.2.2.2.alike gk.2.1.1) n _) (fun q => by cases q) (by rw [arrV_size]; exact hi) rfl rfl hd fun H' g1 g2 g3 => ?_
  refine k0 p e R s m args below meth c0 H' _ cells slots Q ls gk cx h1 h2 (hr.upd ho g2 g3 rfl rfl (fun i hi j => ⟨uI_ne hi j, rfl, rfl⟩) ?_) (bas_put hl) hv kk
  show H'[gB G + o]? = some (arrV (gI G) n (fun j => .int ((uI d o x.toNatClampNeg z).1 o j)))
  rw [g1, uI_at, arrV_store]
theorem V_last {o n : Nat} {x : Int32} {z : Int64} (hd : decode cc pc = .ok (.lastore, 1)) (ho : σ.2.1 o = some (2, n)) (hi : vp_in x n)
    (k0 : V G y cc nL ret dep bc bs Φ (pc + 1) lv st σ (uL d o x.toNatClampNeg z)) : V G y cc nL ret dep bc bs Φ pc lv (.long z :: .int x :: .ref (gB G + o) :: st) σ d := by
  intro p e R s m args below meth c0 H locs cells slots Q ls gk cx h1 h2 hr hl hv kk
  refine W.last cx.1 cx.2.1 (hr.2.2.1 o _ ho).2 ((arrOfT_moved cx.2.2.2.2.2.2.2.2.alike gk.2.2.1.1) n _) (fun q => by cases q) (by rw [arrV_size]; exact hi) rfl rfl hd fun H' g1 g2 g3 => ?_
  refine k0 p e R s m args below meth c0 H' _ cells slots Q ls gk cx h1 h2 (hr.upd ho g2 g3 rfl rfl (fun i hi j => ⟨rfl, uL_ne hi j, rfl⟩) ?_) (bas_put hl) hv kk
  show H'[gB G + o]? = some (arrV (gJ G) n (fun j => .long ((uL d o x.toNatClampNeg z).2 o j)))
  rw [g1, uL_at, arrV_store]
theorem V_bast {o n : Nat} {x z : Int32} (hd : decode cc pc = .ok (.bastore, 1)) (ho : σ.2.1 o = some (3, n)) (hi : vp_in x n)
    (k0 : V G y cc nL ret dep bc bs Φ (pc + 1) lv st σ (uI d o x.toNatClampNeg z.toInt8.toInt32)) : V G y cc nL ret dep bc bs Φ pc lv (.int z :: .int x :: .ref (gB G + o) :: st) σ d := by
  intro p e R s m args below meth c0 H locs cells slots Q ls gk cx h1 h2 hr hl hv kk
  refine W.bast cx.1 cx.2.1 (hr.2.2.1 o _ ho).2 ((arrOfT_moved cx.2.2.2.2.2.2.2.2.alike gk.2.2.2.1.1) n _) (fun q => by cases q) (by rw [arrV_size]; exact hi) rfl rfl hd fun H' g1 g2 g3 => ?_
  refine k0 p e R s m args below meth c0 H' _ cells slots Q ls gk cx h1 h2 (hr.upd ho g2 g3 rfl rfl (fun i hi j => ⟨uI_ne hi j, rfl, rfl⟩) ?_) (bas_put hl) hv kk
  show H'[gB G + o]? = some (arrV (gY G) n (fun j => .int ((uI d o x.toNatClampNeg z.toInt8.toInt32).1 o j)))
  rw [g1, uI_at, show narrow .byte (.int z) = .int z.toInt8.toInt32 from rfl, arrV_store]
theorem V_alen {o t n : Nat} {z : Int32} (hd : decode cc pc = .ok (.arraylength, 1)) (ho : σ.2.1 o = some (t + 1, n)) (hz : Int32.ofNat n = z)
    (k0 : V G y cc nL ret dep bc bs Φ (pc + 1) lv (.int z :: st) σ d) : V G y cc nL ret dep bc bs Φ pc lv (.ref (gB G + o) :: st) σ d := by
  intro p e R s m args below meth c0 H locs cells slots Q ls gk cx h1 h2 hr hl hv kk
  have al := cx.2.2.2.2.2.2.2.2.alike
  have hc := (hr.2.2.1 o _ ho).2
  have fin : ∀ (cA : ClassId) (f : Nat → Value) (ty : FieldType), H[gB G + o]? = some (arrV cA n f) → ArrOfT G.2.1 cA ty → W p G.1 e R s m args below meth c0 H locs cells slots Q (F0 m pc ls (.ref (gB G + o) :: st)) := fun cA f ty hcell ha =>
    W.alen (ty := ty) cx.1 cx.2.1 hcell ((arrOfT_moved al ha) n f) (by rw [arrV_size]; exact hz) rfl rfl hd (k0 p e R s m args below meth c0 H locs cells slots Q ls gk cx h1 h2 hr hl hv kk)
  rcases t with _ | _ | _ | t
  · exact fin _ _ _ hc gk.2.1.1
  · exact fin _ _ _ hc gk.2.2.1.1
  · exact fin _ _ _ hc gk.2.2.2.1.1
  · exact fin _ _ _ hc gk.2.2.2.2.1.1
-- makings
theorem V_newI {x : Int32} {n : Nat} (hd : decode cc pc = .ok (.newarray .int, 2)) (hw : Cond.arrayClass .int ∈ lw_g) (hx : ¬ x < 0) (hN : x.toNatClampNeg = n) (hb : n * componentBytes .int ≤ 536870912)
    (k0 : V G y cc nL ret dep bc bs Φ (pc + 2) lv (.ref (gB G + σ.1) :: st) (snew σ (1, n)) d) : V G y cc nL ret dep (bc + 1) (bs + n) Φ pc lv (.int x :: st) σ d := by
  intro p e R s m args below meth c0 H locs cells slots Q ls gk cx h1 h2 hr hl hv kk
  have hts := cx.2.2.2.2.2.1
  refine W.newa (atype := .int) cx.1 cx.2.1 (hts _ hw) rfl hd rfl hx (by rw [hN]; exact hb) (by omega) (by rw [hN]; omega) fun cA kA comp g1 g2 g3 => ?_
  rw [hN, hr.1]
  have ec : cA = gI G := by
    have q := gk.2.1.2
    rw [← cx.2.2.2.2.2.2.2.2.alike.findClass] at q
    exact Option.some.inj (g1.symm.trans q)
  subst ec
  have h0 : H.size = gB G + σ.1 := hr.1
  refine k0 p e R s m args below meth c0 (H.push _) locs (cells + 1) (slots + n) Q ls gk cx h1 ⟨by omega, by omega⟩ (hr.new (by simp) (fun a ha => by rw [Array.getElem?_push_lt ha]; exact (Array.getElem?_eq_getElem ha).symm) ?_) hl hv (fun a1 a2 a3 a4 a5 a6 a7 a8 a9 a10 b1 b2 b3 b4 b5 b6 => kk a1 a2 a3 a4 a5 a6 a7 a8 a9 a10 b1 b2 b3 b4 b5 ⟨by omega, by omega⟩)
  show (H.push _)[gB G + σ.1]? = some (arrV (gI G) n (fun j => .int (d.1 σ.1 j)))
  rw [← h0, Array.getElem?_push_size, arrV_new]
  congr 2
  funext j
  rw [(hr.2.2.2 σ.1 (Nat.le_refl _) j).1]; rfl
theorem V_newJ {x : Int32} {n : Nat} (hd : decode cc pc = .ok (.newarray .long, 2)) (hw : Cond.arrayClass .long ∈ lw_g) (hx : ¬ x < 0) (hN : x.toNatClampNeg = n) (hb : n * componentBytes .long ≤ 536870912)
    (k0 : V G y cc nL ret dep bc bs Φ (pc + 2) lv (.ref (gB G + σ.1) :: st) (snew σ (2, n)) d) : V G y cc nL ret dep (bc + 1) (bs + n) Φ pc lv (.int x :: st) σ d := by
  intro p e R s m args below meth c0 H locs cells slots Q ls gk cx h1 h2 hr hl hv kk
  have hts := cx.2.2.2.2.2.1
  refine W.newa (atype := .long) cx.1 cx.2.1 (hts _ hw) rfl hd rfl hx (by rw [hN]; exact hb) (by omega) (by rw [hN]; omega) fun cA kA comp g1 g2 g3 => ?_
  rw [hN, hr.1]
  have ec : cA = gJ G := by
    have q := gk.2.2.1.2
    rw [← cx.2.2.2.2.2.2.2.2.alike.findClass] at q
    exact Option.some.inj (g1.symm.trans q)
  subst ec
  have h0 : H.size = gB G + σ.1 := hr.1
  refine k0 p e R s m args below meth c0 (H.push _) locs (cells + 1) (slots + n) Q ls gk cx h1 ⟨by omega, by omega⟩ (hr.new (by simp) (fun a ha => by rw [Array.getElem?_push_lt ha]; exact (Array.getElem?_eq_getElem ha).symm) ?_) hl hv (fun a1 a2 a3 a4 a5 a6 a7 a8 a9 a10 b1 b2 b3 b4 b5 b6 => kk a1 a2 a3 a4 a5 a6 a7 a8 a9 a10 b1 b2 b3 b4 b5 ⟨by omega, by omega⟩)
  show (H.push _)[gB G + σ.1]? = some (arrV (gJ G) n (fun j => .long (d.2 σ.1 j)))
  rw [← h0, Array.getElem?_push_size, arrV_new]
  congr 2
  funext j
  rw [(hr.2.2.2 σ.1 (Nat.le_refl _) j).2.1]; rfl
theorem V_newB {x : Int32} {n : Nat} (hd : decode cc pc = .ok (.newarray .byte, 2)) (hw : Cond.arrayClass .byte ∈ lw_g) (hx : ¬ x < 0) (hN : x.toNatClampNeg = n) (hb : n * componentBytes .byte ≤ 536870912)
    (k0 : V G y cc nL ret dep bc bs Φ (pc + 2) lv (.ref (gB G + σ.1) :: st) (snew σ (3, n)) d) : V G y cc nL ret dep (bc + 1) (bs + n) Φ pc lv (.int x :: st) σ d := by
  intro p e R s m args below meth c0 H locs cells slots Q ls gk cx h1 h2 hr hl hv kk
  have hts := cx.2.2.2.2.2.1
  refine W.newa (atype := .byte) cx.1 cx.2.1 (hts _ hw) rfl hd rfl hx (by rw [hN]; exact hb) (by omega) (by rw [hN]; omega) fun cA kA comp g1 g2 g3 => ?_
  rw [hN, hr.1]
  have ec : cA = gY G := by
    have q := gk.2.2.2.1.2
    rw [← cx.2.2.2.2.2.2.2.2.alike.findClass] at q
    exact Option.some.inj (g1.symm.trans q)
  subst ec
  have h0 : H.size = gB G + σ.1 := hr.1
  refine k0 p e R s m args below meth c0 (H.push _) locs (cells + 1) (slots + n) Q ls gk cx h1 ⟨by omega, by omega⟩ (hr.new (by simp) (fun a ha => by rw [Array.getElem?_push_lt ha]; exact (Array.getElem?_eq_getElem ha).symm) ?_) hl hv (fun a1 a2 a3 a4 a5 a6 a7 a8 a9 a10 b1 b2 b3 b4 b5 b6 => kk a1 a2 a3 a4 a5 a6 a7 a8 a9 a10 b1 b2 b3 b4 b5 ⟨by omega, by omega⟩)
  show (H.push _)[gB G + σ.1]? = some (arrV (gY G) n (fun j => .int (d.1 σ.1 j)))
  rw [← h0, Array.getElem?_push_size, arrV_new]
  congr 2
  funext j
  rw [(hr.2.2.2 σ.1 (Nat.le_refl _) j).1]; rfl
def tyOk (ty : FieldType) : Bool := match ty with
  | .float => false
  | .double => false
  | _ => true
theorem V_new {idx c : Nat} (hd : decode cc pc = .ok (.new idx, 3)) (hc : c < 12) (hcl : Cond.classLink y.cls idx (clC c) ∈ lw_g) (hin : Cond.instantiable (clC c) (clN c) ∈ lw_g) (hini : Cond.initialized (clC c) ∈ lw_g) (hty : (List.range (clN c)).all (fun k => tyOk (clTy c k)) = true)
    (k0 : V G y cc nL ret dep bc bs Φ (pc + 3) lv (.ref (gB G + σ.1) :: st) (snew σ (0, c)) d) : V G y cc nL ret dep (bc + 1) (bs + clN c) Φ pc lv st σ d := by
  intro p e R s m args below meth c0 H locs cells slots Q ls gk cx h1 h2 hr hl hv kk
  have hts := cx.2.2.2.2.2.1
  have hKn := cx_kn gk cx hc
  have h0 : H.size = gB G + σ.1 := hr.1
  refine W.newcK cx.1 cx.2.1 cx.2.2.2.2.1 (hts _ hcl) (hts _ hin) (hts _ hini) rfl hd (by omega) (by omega) hKn.2.1 h0 fun H1 kC hkC e1 z1 o1 => ?_
  refine k0 p e R s m args below meth c0 H1 locs (cells + 1) (slots + clN c) Q ls gk cx h1 ⟨by omega, by omega⟩ (hr.new (by omega) (fun a ha => o1 a (by omega)) ⟨hc, ?_⟩) hl hv (fun a1 a2 a3 a4 a5 a6 a7 a8 a9 a10 b1 b2 b3 b4 b5 b6 => kk a1 a2 a3 a4 a5 a6 a7 a8 a9 a10 b1 b2 b3 b4 b5 ⟨by omega, by omega⟩)
  refine (u_born (clTy c) hts (cl_in c hc) hKn hkC e1 (cl_ty c hc)).to fun k hk => ?_
  have ho : tyOk (clTy c k) = true := List.all_eq_true.mp hty k (List.mem_range.mpr hk)
  obtain ⟨z1, z2, z3⟩ := hr.2.2.2 σ.1 (Nat.le_refl _) k
  show defaultValue (clTy c k) = fv G (snew σ (0, c)) d (clTy c k) σ.1 k
  have z3' : (snew σ (0, c)).2.2 σ.1 k = none := z3
  cases h : clTy c k <;> rw [h] at ho <;> first | (simp only [fv, z1, z2, z3']; rfl) | cases ho
theorem V_objInit {idx : Nat} {a : Nat} (hd : decode cc pc = .ok (.invokespecial idx, 3)) (hw : Cond.methodLink y.cls idx objectInit ∈ lw_g) (hi : Cond.instanceMethod objectInit ∈ lw_g) (hco : Cond.code objectInit ⟨#[0xb1]⟩ 1 none ∈ lw_g) (hs : 1 ≤ dep ∧ (st.map fun v => v.category).sum ≤ 28)
    (k0 : V G y cc nL ret dep bc bs Φ (pc + 3) lv st σ d) : V G y cc nL ret dep bc bs Φ pc lv (.ref a :: st) σ d := by
  intro p e R s m args below meth c0 H locs cells slots Q ls gk cx h1 h2 hr hl hv kk
  have hts := cx.2.2.2.2.2.1
  exact W.objInit cx.1 cx.2.1 cx.2.2.2.2.1 (hts _ hw) (hts _ hi) (hts _ hco) rfl (by rw [cx.2.2.2.1]; exact hv.1) rfl hd (by omega) (by show 2 * 0 + _ + 12 ≤ _; omega) (k0 p e R s m args below meth c0 H locs cells slots Q ls gk cx h1 h2 hr hl hv kk)
end VH
