/-! THE WORLD OF THE WALKS: objects and arrays are numbered as they are made (cell = base + number); contents are functions of number and place. -/
/-- launch, the law's start, class ids and slots, the arrays' classes (int, long, byte, int[]), String constants' addresses (text, bytes), two constant rows -/
abbrev Gl : Type := Launch × State × va_G × (ClassId × ClassId × ClassId × ClassId) × (Nat → Nat) × (Nat → Nat) × (Nat → Nat)
/-- how many were made; of what kind each is: (0, class), (1, n) int[n], (2, n) long[n], (3, n) byte[n], (4, n) int[n][]; the references -/
abbrev Sg : Type := Nat × (Nat → Option (Nat × Nat)) × (Nat → Nat → Option Nat)
abbrev Dt : Type := (Nat → Nat → Int32) × (Nat → Nat → Int64)
def gB (G : Gl) : Nat := G.2.1.heap.size
def gI (G : Gl) : ClassId := G.2.2.2.1.1
def gJ (G : Gl) : ClassId := G.2.2.2.1.2.1
def gY (G : Gl) : ClassId := G.2.2.2.1.2.2.1
def gG (G : Gl) : ClassId := G.2.2.2.1.2.2.2
def gK (G : Gl) : Nat → Nat := G.2.2.2.2.1
def gV (G : Gl) : Nat → Nat := G.2.2.2.2.2.1
def gC (G : Gl) : Nat → Nat := G.2.2.2.2.2.2
def rfv (G : Gl) (r : Option Nat) : Value := va_rf (r.map (fun x => gB G + x))
def fv (G : Gl) (σ : Sg) (d : Dt) (ty : FieldType) (i k : Nat) : Value := match ty with
  | .long => .long (d.2 i k)
  | .object _ => rfv G (σ.2.2 i k)
  | .array _ => rfv G (σ.2.2 i k)
  | _ => .int (d.1 i k)
def tyI (ty : FieldType) : Bool := match ty with
  | .int => true
  | .boolean => true
  | _ => false
def tyR (ty : FieldType) : Bool := match ty with
  | .object _ => true
  | .array _ => true
  | _ => false
theorem fv_I {G : Gl} {σ : Sg} {d : Dt} {ty : FieldType} {i k : Nat} (h : tyI ty = true) : fv G σ d ty i k = .int (d.1 i k) := by
  cases ty <;> first | rfl | cases h
theorem fv_R {G : Gl} {σ : Sg} {d : Dt} {ty : FieldType} {i k : Nat} (h : tyR ty = true) : fv G σ d ty i k = rfv G (σ.2.2 i k) := by
  cases ty <;> first | rfl | cases h
theorem fv_eq {G : Gl} {σ σ1 : Sg} {d d1 : Dt} {ty : FieldType} {i k : Nat} (e1 : d1.1 i k = d.1 i k) (e2 : d1.2 i k = d.2 i k) (e3 : σ1.2.2 i k = σ.2.2 i k) : fv G σ1 d1 ty i k = fv G σ d ty i k := by
  cases ty <;> simp [fv, e1, e2, e3]
/-- the cell of one of them -/
def cAt (G : Gl) (σ : Sg) (d : Dt) (i : Nat) (q : Nat × Nat) (H : Heap) : Prop := match q.1 with
  | 0 => q.2 < 12 ∧ t_OB (gB G + i) (G.2.2.1.1 q.2) (clN q.2) (G.2.2.1.2 q.2) H (fun k => fv G σ d (clTy q.2 k) i k)
  | 1 => H[gB G + i]? = some (arrV (gI G) q.2 (fun j => .int (d.1 i j)))
  | 2 => H[gB G + i]? = some (arrV (gJ G) q.2 (fun j => .long (d.2 i j)))
  | 3 => H[gB G + i]? = some (arrV (gY G) q.2 (fun j => .int (d.1 i j)))
  | _ => H[gB G + i]? = some (arrV (gG G) q.2 (fun j => rfv G (σ.2.2 i j)))
theorem cAt_mv {G : Gl} {σ σ1 : Sg} {d d1 : Dt} {i : Nat} {q : Nat × Nat} {H H1 : Heap} (h : cAt G σ d i q H) (hH : H1[gB G + i]? = H[gB G + i]?) (e1 : ∀ k, d1.1 i k = d.1 i k) (e2 : ∀ k, d1.2 i k = d.2 i k) (e3 : ∀ k, σ1.2.2 i k = σ.2.2 i k) : cAt G σ1 d1 i q H1 := by
  obtain ⟨t, n⟩ := q
  rcases t with _ | _ | _ | _ | t
  · exact ⟨h.1, (h.2.kept hH).to (fun k _ => (fv_eq (e1 k) (e2 k) (e3 k)).symm)⟩
  · have h' : H[gB G + i]? = some (arrV (gI G) n (fun j => .int (d.1 i j))) := h
    show H1[gB G + i]? = some (arrV (gI G) n (fun j => .int (d1.1 i j)))
    rw [hH, h']; simp only [e1]
  · have h' : H[gB G + i]? = some (arrV (gJ G) n (fun j => .long (d.2 i j))) := h
    show H1[gB G + i]? = some (arrV (gJ G) n (fun j => .long (d1.2 i j)))
    rw [hH, h']; simp only [e2]
  · have h' : H[gB G + i]? = some (arrV (gY G) n (fun j => .int (d.1 i j))) := h
    show H1[gB G + i]? = some (arrV (gY G) n (fun j => .int (d1.1 i j)))
    rw [hH, h']; simp only [e1]
  · have h' : H[gB G + i]? = some (arrV (gG G) n (fun j => rfv G (σ.2.2 i j))) := h
    show H1[gB G + i]? = some (arrV (gG G) n (fun j => rfv G (σ1.2.2 i j)))
    rw [hH, h']; simp only [e3]
/-- the heap holds the world; what was never made is zero -/
def Rep (G : Gl) (σ : Sg) (d : Dt) (H : Heap) : Prop :=
  H.size = gB G + σ.1 ∧ (∀ q, q < gB G → H[q]? = G.2.1.heap[q]?) ∧ (∀ i q, σ.2.1 i = some q → i < σ.1 ∧ cAt G σ d i q H) ∧ ∀ i, σ.1 ≤ i → ∀ k, d.1 i k = 0 ∧ d.2 i k = 0 ∧ σ.2.2 i k = none
theorem Rep.upd {G : Gl} {σ σ1 : Sg} {d d1 : Dt} {H H1 : Heap} (h : Rep G σ d H) {o : Nat} {q : Nat × Nat} (ho : σ.2.1 o = some q) (hs : H1.size = H.size) (ha : ∀ a, a ≠ gB G + o → H1[a]? = H[a]?) (e0 : σ1.1 = σ.1) (e1 : σ1.2.1 = σ.2.1) (e : ∀ i, i ≠ o → ∀ k, d1.1 i k = d.1 i k ∧ d1.2 i k = d.2 i k ∧ σ1.2.2 i k = σ.2.2 i k) (hc : cAt G σ1 d1 o q H1) : Rep G σ1 d1 H1 := by
  obtain ⟨h1, h2, h3, h4⟩ := h
  have hlt := (h3 o q ho).1
  refine ⟨by rw [hs, h1, e0], fun a hq => ?_, fun i r hr => ?_, fun i hi k => ?_⟩
  · rw [ha a (by omega)]; exact h2 a hq
  · rw [e1] at hr; rw [e0]
    obtain ⟨g1, g2⟩ := h3 i r hr
    refine ⟨g1, ?_⟩
    by_cases hi : i = o
    · subst hi
      rw [ho] at hr; cases hr; exact hc
    · exact cAt_mv g2 (ha _ (by omega)) (fun k => (e i hi k).1) (fun k => (e i hi k).2.1) (fun k => (e i hi k).2.2)
  · rw [e0] at hi
    have hne : i ≠ o := by omega
    have h5 := h4 i hi k
    exact ⟨(e i hne k).1.trans h5.1, (e i hne k).2.1.trans h5.2.1, (e i hne k).2.2.trans h5.2.2⟩
def snew (σ : Sg) (q : Nat × Nat) : Sg := (σ.1 + 1, fun i => if i = σ.1 then some q else σ.2.1 i, σ.2.2)
theorem Rep.new {G : Gl} {σ : Sg} {d : Dt} {H H1 : Heap} (h : Rep G σ d H) {q : Nat × Nat} (hs : H1.size = H.size + 1) (ha : ∀ a, a < H.size → H1[a]? = H[a]?) (hc : cAt G (snew σ q) d σ.1 q H1) : Rep G (snew σ q) d H1 := by
  obtain ⟨h1, h2, h3, h4⟩ := h
  refine ⟨by rw [hs, h1]; rfl, fun a hq => ?_, fun i r hr => ?_, fun i hi k => h4 i (Nat.le_of_succ_le hi) k⟩
  · rw [ha a (by omega)]; exact h2 a hq
  · by_cases hi : i = σ.1
    · subst hi
      have hr' : (if σ.1 = σ.1 then some q else σ.2.1 σ.1) = some r := hr
      rw [if_pos rfl] at hr'
      cases hr'
      exact ⟨Nat.lt_succ_self _, hc⟩
    · have hr' : (if i = σ.1 then some q else σ.2.1 i) = some r := hr
      rw [if_neg hi] at hr'
      obtain ⟨g1, g2⟩ := h3 i r hr'
      exact ⟨Nat.lt_succ_of_lt g1, cAt_mv g2 (ha _ (by omega)) (fun _ => rfl) (fun _ => rfl) (fun _ => rfl)⟩
/-- some of them are forgotten -/
theorem Rep.less {G : Gl} {σ : Sg} {d : Dt} {H : Heap} (h : Rep G σ d H) {sh : Nat → Option (Nat × Nat)} (hs : ∀ i q, sh i = some q → σ.2.1 i = some q) : Rep G (σ.1, sh, σ.2.2) d H := by
  obtain ⟨h1, h2, h3, h4⟩ := h
  refine ⟨h1, h2, fun i q hq => ?_, h4⟩
  obtain ⟨g1, g2⟩ := h3 i q (hs i q hq)
  exact ⟨g1, cAt_mv g2 rfl (fun _ => rfl) (fun _ => rfl) (fun _ => rfl)⟩
def uI (d : Dt) (o k : Nat) (x : Int32) : Dt := (fun i j => if i = o ∧ j = k then x else d.1 i j, d.2)
def uL (d : Dt) (o k : Nat) (x : Int64) : Dt := (d.1, fun i j => if i = o ∧ j = k then x else d.2 i j)
def uR (σ : Sg) (o k : Nat) (r : Option Nat) : Sg := (σ.1, σ.2.1, fun i j => if i = o ∧ j = k then r else σ.2.2 i j)
theorem uI_ne {d : Dt} {o k : Nat} {x : Int32} {i : Nat} (h : i ≠ o) (j : Nat) : (uI d o k x).1 i j = d.1 i j := if_neg fun q => h q.1
theorem uL_ne {d : Dt} {o k : Nat} {x : Int64} {i : Nat} (h : i ≠ o) (j : Nat) : (uL d o k x).2 i j = d.2 i j := if_neg fun q => h q.1
theorem uR_ne {σ : Sg} {o k : Nat} {x : Option Nat} {i : Nat} (h : i ≠ o) (j : Nat) : (uR σ o k x).2.2 i j = σ.2.2 i j := if_neg fun q => h q.1
theorem uI_at (d : Dt) (o k : Nat) (x : Int32) : (fun j => Value.int ((uI d o k x).1 o j)) = updV (fun j => .int (d.1 o j)) k (.int x) := by
  funext j
  by_cases h : j = k <;> simp [uI, updV, h]
theorem uL_at (d : Dt) (o k : Nat) (x : Int64) : (fun j => Value.long ((uL d o k x).2 o j)) = updV (fun j => .long (d.2 o j)) k (.long x) := by
  funext j
  by_cases h : j = k <;> simp [uL, updV, h]
theorem uR_at (G : Gl) (σ : Sg) (o k : Nat) (x : Option Nat) : (fun j => rfv G ((uR σ o k x).2.2 o j)) = updV (fun j => rfv G (σ.2.2 o j)) k (rfv G x) := by
  funext j
  by_cases h : j = k <;> simp [uR, updV, h]
/-- the texts of the String constants: their bytes -/
def sTx (i : Nat) : List Int32 := strB.getD i []
/-- what the law's start knows -/
def GK (G : Gl) : Prop :=
  (∀ (c : Nat) (q : vw_C), vwCl[c]? = some q → u_Kn G.2.1 q.1 q.2.1 q.2.2 (G.2.2.1.1 c) (G.2.2.1.2 c)) ∧
  (ArrOfT G.2.1 (gI G) .int ∧ G.2.1.vm.findClass ("[" ++ FieldType.int.toString) = some (gI G)) ∧ (ArrOfT G.2.1 (gJ G) .long ∧ G.2.1.vm.findClass ("[" ++ FieldType.long.toString) = some (gJ G)) ∧
  (ArrOfT G.2.1 (gY G) .byte ∧ G.2.1.vm.findClass ("[" ++ FieldType.byte.toString) = some (gY G)) ∧ (ArrOfT G.2.1 (gG G) (.array .int) ∧ G.2.1.vm.findClass ("[" ++ (FieldType.array .int).toString) = some (gG G)) ∧
  (∀ q ∈ nestM, va_Nw (.methodLinkNest q.1 q.2.1 q.2.2.1 q.2.2.2) G.2.1) ∧ (∀ q ∈ nestF, va_Nw (.fieldLinkNest q.1 q.2.1 q.2.2.1 q.2.2.2.1 q.2.2.2.2.1 q.2.2.2.2.2) G.2.1) ∧
  vk_S strN strL strB (gK G) (gV G) (fun q => gB G ≤ q) G.2.1 G.2.1.heap ∧ (∀ q ∈ strR, vk_R q.1 q.2.1 q.2.2.1 (gK G q.2.2.2) G.2.1) ∧
  (∀ q ∈ statA, va_Z q.1 q.2.1 "[I" (.ref (gC G q.2.2.1)) (fun a => gB G ≤ a) G.2.1 G.2.1.heap ∧ va_T .int (gC G q.2.2.1) q.2.2.2.length (fun j => .int (q.2.2.2.getD j 0)) (fun a => gB G ≤ a) G.2.1 G.2.1.heap) ∧
  va_Z "java/lang/String" "COMPACT_STRINGS" "Z" (.int 1) (fun a => gB G ≤ a) G.2.1 G.2.1.heap ∧
  va_Zq "jdk/internal/util/Preconditions" "SIOOBE_FORMATTER" "Ljava/util/function/BiFunction;" (fun a => gB G ≤ a) G.2.1 G.2.1.heap
def CX (G : Gl) (y : MethodName) (cc : ByteArray) (nL : Nat) (ret : Option FieldType) (p : Program) (s : State) (m : MethodId) (args : Array Value) (meth : Method) (c : Code) : Prop :=
  p.tables.exec = Jvm.exec ∧ c.code = cc ∧ meth.sig.returnType = ret ∧ c.maxLocals = nL ∧ s.vm.findClass y.cls = some m.cls ∧ (∀ w ∈ lw_g, w.before args s = true) ∧ meth.locks = false ∧ meth.name = y.name ∧ G.2.1.WarmedH s.vm
def RT (ret : Option FieldType) (ins : Instr) (st : List Value) : Prop := match ret with
  | none => ins = .return_ ∧ st = []
  | some .long => ins = .lreturn ∧ ∃ v, st = [.long v]
  | some .int => ins = .ireturn ∧ ∃ v, st = [.int v]
  | some ty => ins = .ireturn ∧ ∃ v, st = [.int v] ∧ narrow ty (.int v) = .int v
/-- from here the method comes to its end, with Φ of its answer and the world -/
def V (G : Gl) (y : MethodName) (cc : ByteArray) (nL : Nat) (ret : Option FieldType) (dep bc bs : Nat) (Φ : List Value → Sg → Dt → Prop) (pc : Nat) (lv : List (Nat × Value)) (st : List Value) (σ : Sg) (d : Dt) : Prop :=
  ∀ (p : Program) (e : Env) (R : Room) (s : State) (m : MethodId) (args : Array Value) (below : List Frame) (meth : Method) (c : Code) (H : Heap) (locs : List Loc) (cells slots : Nat) (Q : State → Prop) (ls : Array Slot),
    GK G → CX G y cc nL ret p s m args meth c → dep ≤ R.frames ∧ 40 * dep ≤ R.locals → cells + bc ≤ R.cells ∧ slots + bs ≤ R.slots → Rep G σ d H → (∀ q ∈ locs, gB G ≤ q.base) → lv_has ls nL lv →
    (∀ (pc' : Nat) (ls' : Array Slot) (st' : List Value) (ins : Instr) (σ' : Sg) (d' : Dt) (H' : Heap) (locs' : List Loc) (cells' slots' : Nat), decode cc pc' = .ok (ins, 1) → RT ret ins st' → Φ st' σ' d' → Rep G σ' d' H' → (∀ q ∈ locs', gB G ≤ q.base) → cells' ≤ cells + bc ∧ slots' ≤ slots + bs → W p G.1 e R s m args below meth c H' locs' cells' slots' Q (F0 m pc' ls' st')) →
    W p G.1 e R s m args below meth c H locs cells slots Q (F0 m pc ls st)
def rmD (dep bc bs : Nat) : Room := { frames := dep, cells := bc, slots := bs, locals := 40 * dep }
/-- a method's contract: from the world (σ, d), called with av, it ends with Φ -/
def CT (G : Gl) (y : MethodName) (cc : ByteArray) (nL : Nat) (ret : Option FieldType) (dep bc bs : Nat) (av : List Value) (σ : Sg) (d : Dt) (Φ : List Value → Sg → Dt → Prop) : Prop :=
  GK G → Met G.1 y (Cond.code y cc nL ret :: lw_g) (rmD dep bc bs) (fun a U => a = av.toArray ∧ G.2.1.WarmedH U.vm ∧ Rep G σ d U.heap) (fun _ _ o t => ∃ (v : Option Value) (σ' : Sg) (d' : Dt), o = .returned v ∧ Φ v.toList σ' d' ∧ Rep G σ' d' t.heap) bc bs (fun q => gB G ≤ q)
