/-! int[n][m] in one go -/
def smul (σ : Sg) (n m : Nat) : Sg := (σ.1 + 1 + n, fun i => if i = σ.1 then some (4, n) else if σ.1 < i ∧ i < σ.1 + 1 + n then some (1, m) else σ.2.1 i, fun i k => if i = σ.1 ∧ k < n then some (σ.1 + 1 + k) else σ.2.2 i k)
theorem outer_arr (c : ClassId) (N h0 : Nat) : ∀ i, Jvm.Free.Multi.outerC c N h0 i = arrV c N (fun j => if j < i then .ref (h0 + 1 + j) else .null)
  | 0 => by
    show ({ cls := c, slots := Array.replicate N .null, vm := .none } : Cell) = _
    rw [arrV_new]
    congr 1
  | i + 1 => by
    show (Jvm.Free.Multi.outerC c N h0 i).setSlot i (.ref (h0 + 1 + i)) = _
    rw [outer_arr c N h0 i, arrV_store]
    congr 1
    funext j
    unfold updV
    by_cases e : j = i
    · subst e; rw [if_pos rfl, if_pos (Nat.lt_succ_self _)]
    · rw [if_neg e]
      dsimp only
      by_cases h : j < i
      · rw [if_pos h, if_pos (by omega)]
      · rw [if_neg h, if_neg (by omega)]
theorem Rep.multi {G : Gl} {σ : Sg} {d : Dt} {H H1 : Heap} {n m : Nat} (h : Rep G σ d H) (hs : H1.size = H.size + 1 + n) (ha : ∀ a, a < H.size → H1[a]? = H[a]?) (hO : H1[gB G + σ.1]? = some (arrV (gG G) n (fun j => if j < n then .ref (gB G + σ.1 + 1 + j) else .null))) (hI : ∀ j, j < n → H1[gB G + σ.1 + 1 + j]? = some (arrV (gI G) m (fun _ => .int 0))) : Rep G (smul σ n m) d H1 := by
  obtain ⟨h1, h2, h3, h4⟩ := h
  refine ⟨by rw [hs, h1]; show gB G + σ.1 + 1 + n = gB G + (σ.1 + 1 + n); omega, fun a hq => ?_, fun i r hr => ?_, fun i hi k => ?_⟩
  · rw [ha a (by omega)]; exact h2 a hq
  · have hr' : (if i = σ.1 then some (4, n) else if σ.1 < i ∧ i < σ.1 + 1 + n then some (1, m) else σ.2.1 i) = some r := hr
    by_cases e : i = σ.1
    · subst e
      rw [if_pos rfl] at hr'
      cases hr'
      refine ⟨by show σ.1 < σ.1 + 1 + n; omega, ?_⟩
      show H1[gB G + σ.1]? = some (arrV (gG G) n (fun j => rfv G (if σ.1 = σ.1 ∧ j < n then some (σ.1 + 1 + j) else σ.2.2 σ.1 j)))
      rw [hO]
      congr 2
      funext j
      by_cases hj : j < n
      · rw [if_pos hj, if_pos ⟨rfl, hj⟩]
        show Value.ref (gB G + σ.1 + 1 + j) = Value.ref (gB G + (σ.1 + 1 + j))
        exact congrArg Value.ref (show gB G + σ.1 + 1 + j = gB G + (σ.1 + 1 + j) by omega)
      · rw [if_neg hj, if_neg (fun z => hj z.2), (h4 σ.1 (Nat.le_refl _) j).2.2]; rfl
    · rw [if_neg e] at hr'
      by_cases e2 : σ.1 < i ∧ i < σ.1 + 1 + n
      · rw [if_pos e2] at hr'
        cases hr'
        refine ⟨e2.2, ?_⟩
        show H1[gB G + i]? = some (arrV (gI G) m (fun j => .int (d.1 i j)))
        have := hI (i - (σ.1 + 1)) (by omega)
        rw [show gB G + σ.1 + 1 + (i - (σ.1 + 1)) = gB G + i by omega] at this
        rw [this]
        congr 2
        funext j
        rw [(h4 i (by omega) j).1]
      · rw [if_neg e2] at hr'
        obtain ⟨g1, g2⟩ := h3 i r hr'
        refine ⟨by show i < σ.1 + 1 + n; omega, cAt_mv g2 (ha _ (by omega)) (fun _ => rfl) (fun _ => rfl) (fun k => ?_)⟩
        show (if i = σ.1 ∧ k < n then some (σ.1 + 1 + k) else σ.2.2 i k) = _
        rw [if_neg (fun z => e z.1)]
  · have hi' : σ.1 + 1 + n ≤ i := hi
    obtain ⟨z1, z2, z3⟩ := h4 i (by omega) k
    refine ⟨z1, z2, ?_⟩
    show (if i = σ.1 ∧ k < n then some (σ.1 + 1 + k) else σ.2.2 i k) = none
    rw [if_neg (fun z => by omega)]; exact z3
theorem arr2 : "[[I" = "[" ++ (FieldType.array .int).toString := by decide +kernel
/-- that int[][] is the class of arrays over int[]: of the tables alone -/
def aoV (vm : Vm) : Option Bool := (vm.findClass (FieldType.array .int).toString).bind fun comp => (vm.classes.findIdx? fun (x : Class) => match x.kind with | .array component _ => component == comp | _ => false).bind fun c => (vm.classes[c]?).map fun (k : Class) => match k.kind with | .array _ ty => decide (ty = FieldType.array .int) && decide (vm.findClass ("[" ++ (FieldType.array .int).toString) = some c) | _ => false
theorem ao_before {args : Array Value} {U : State} : (Cond.arrayOver (.array .int)).before args U = (aoV U.vm == some true) := rfl
theorem aoV_bare (vm : Vm) : aoV vm.bare = aoV vm := by
  have hc : vm.bare.classes = vm.classes.map Class.bare := rfl
  unfold aoV
  simp only [Vm.findClass_bare, hc, Array.findIdx?_map, Array.getElem?_map, Option.map_map]
  rfl
def AO (G : Gl) : Prop := aoV G.2.1.vm = some true
theorem AO.of {G : Gl} {args : Array Value} (h : (Cond.arrayOver (.array .int)).before args G.2.1 = true) : AO G := by
  rw [ao_before] at h
  exact eq_of_beq h
theorem AO.use {G : Gl} (h : AO G) {args : Array Value} {U : State} (hW : G.2.1.WarmedH U.vm) : (Cond.arrayOver (.array .int)).before args U = true := by
  have e : aoV U.vm = aoV G.2.1.vm := by rw [← aoV_bare, hW.alike.bare_eq, aoV_bare]
  rw [ao_before, e, h]; rfl
section VM
variable {G : Gl} {y : MethodName} {cc : ByteArray} {nL : Nat} {ret : Option FieldType} {dep bc bs : Nat} {Φ : List Value → Sg → Dt → Prop} {pc : Nat} {lv : List (Nat × Value)} {st : List Value} {σ : Sg} {d : Dt}
theorem V_multiI {idx n m : Nat} {x z : Int32} (hd : decode cc pc = .ok (.multianewarray idx 2, 4)) (hcl : Cond.classLink y.cls idx "[[I" ∈ lw_g) (hov : AO G) (hac : Cond.arrayClass .int ∈ lw_g) (hx : ¬ x < 0) (hz : ¬ z < 0) (hN : x.toNatClampNeg = n) (hM : z.toNatClampNeg = m) (hn : n ≤ 1000) (hm : m ≤ 1000)
    (k0 : V G y cc nL ret dep bc bs Φ (pc + 4) lv (.ref (gB G + σ.1) :: st) (smul σ n m) d) : V G y cc nL ret dep (bc + (1 + n)) (bs + (n + n * m)) Φ pc lv (.int z :: .int x :: st) σ d := by
  intro p e R s mm args below meth c0 H locs cells slots Q ls gk cx h1 h2 hr hl hv kk
  have hts := cx.2.2.2.2.2.1
  subst hN hM
  rw [arr2] at hcl
  intro T hT X
  obtain ⟨vm1, cA, comp, hW, hfA, hfC, -, -, X1, step⟩ := X.multianewarray2F cx.1 (own := y.cls) (index := idx) (ty := .int) cx.2.2.2.2.1 (hts _ hcl) (hov.use cx.2.2.2.2.2.2.2.2) (hts _ hac)
    (g := F0 mm pc ls (.int z :: .int x :: st)) rfl (by rw [cx.2.1]; exact hd) (n := x) (k := z) (rest := st) rfl hx hz (by omega) (by show z.toNatClampNeg * 4 ≤ _; omega) (by omega) rfl rfl (by omega) (by omega)
  have ec : cA = gG G := by
    have q := gk.2.2.2.2.1.2
    rw [← cx.2.2.2.2.2.2.2.2.alike.findClass] at q
    exact Option.some.inj (hfA.symm.trans q)
  have ei : comp = gI G := by
    have q := gk.2.1.2
    rw [← cx.2.2.2.2.2.2.2.2.alike.findClass] at q
    exact Option.some.inj (hfC.symm.trans q)
  subst ec ei
  have hsz : (T.setVm vm1).heap.size = gB G + σ.1 := by show T.heap.size = _; rw [hT]; exact hr.1
  obtain ⟨f1, f2, f3, f4⟩ := Jvm.Free.Multi.fill_facts (T.setVm vm1) (gG G) (gI G) x.toNatClampNeg z.toNatClampNeg (defaultValue .int) x.toNatClampNeg
  have hrep : Rep G (smul σ x.toNatClampNeg z.toNatClampNeg) d (Jvm.Free.Multi.fill (T.setVm vm1) (gG G) (gI G) x.toNatClampNeg z.toNatClampNeg (defaultValue .int) x.toNatClampNeg).heap := by
    refine Rep.multi hr (by rw [f1, hsz, hr.1]) (fun a ha => ?_) ?_ (fun j hj => ?_)
    · rw [Jvm.Free.Multi.fill_old _ _ _ _ _ _ (by rw [hsz, ← hr.1]; exact ha)]
      show T.heap[a]? = _
      rw [hT]
    · rw [← hsz, f2, outer_arr]
    · rw [← hsz, Jvm.Free.Multi.fill_inner _ _ _ _ _ _ _ _ hj]
      show some ({ cls := gI G, slots := Array.replicate z.toNatClampNeg (defaultValue .int), vm := .none } : Cell) = _
      rw [arrV_new]; rfl
  obtain ⟨t, a1, b1⟩ := k0 p e R s mm args below meth c0 _ locs (cells + (1 + x.toNatClampNeg)) (slots + (x.toNatClampNeg + x.toNatClampNeg * z.toNatClampNeg)) Q ls gk cx h1 ⟨by omega, by omega⟩ hrep hl hv (fun a1 a2 a3 a4 a5 a6 a7 a8 a9 a10 b1 b2 b3 b4 b5 b6 => kk a1 a2 a3 a4 a5 a6 a7 a8 a9 a10 b1 b2 b3 b4 b5 ⟨by omega, by omega⟩) _ rfl (by rw [← Nat.add_assoc, ← Nat.add_assoc]; exact X1)
  refine ⟨t, step t ?_, b1⟩
  have e0 : T.heap.size = gB G + σ.1 := by rw [hT]; exact hr.1
  rw [e0]
  exact a1
end VM
