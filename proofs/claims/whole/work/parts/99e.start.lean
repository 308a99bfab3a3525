/-! the law's start: all that the walks stand on -/
theorem st_ins : ∀ c, c < 12 → Cond.instantiable (clC c) (clN c) ∈ lw_tbl := by decide +kernel
theorem st_cls {s : State} {args : Array Value} (hts : ∀ w ∈ lw_tbl, w.before args s = true) : ∃ D : va_G, ∀ (c : Nat) (q : vw_C), vwCl[c]? = some q → u_Kn s q.1 q.2.1 q.2.2 (D.1 c) (D.2 c) := by
  have h : ∀ c : Nat, ∃ r : ClassId × (Nat → Nat), c < 12 → u_Kn s (clC c) (clT c) (clN c) r.1 r.2 := by
    intro c
    by_cases hc : c < 12
    · obtain ⟨cC, iS, hK⟩ := u_known (ws := lw_g) (fun w hw => hts w (lw_gt hw)) (cl_in c hc) (hts _ (st_ins c hc))
      exact ⟨(cC, iS), fun _ => hK⟩
    · exact ⟨(default, fun _ => 0), fun z => absurd z hc⟩
  obtain ⟨f, hf⟩ := Classical.axiomOfChoice h
  refine ⟨(fun c => (f c).1, fun c => (f c).2), fun c q hq => ?_⟩
  by_cases hc : c < 12
  · rw [cl_at c hc] at hq
    cases hq
    exact hf c hc
  · have : vwCl.length ≤ c := Nat.le_of_not_lt hc
    rw [List.getElem?_eq_none this] at hq
    cases hq
theorem st_arr {s : State} {args : Array Value} {ty : FieldType} (h : (Cond.arrayClass ty).before args s = true) : ∃ cA, ArrOfT s cA ty ∧ s.vm.findClass ("[" ++ ty.toString) = some cA := by
  obtain ⟨c, k, comp, h1, h2, h3⟩ := Cond.arrayClass_spec h
  exact ⟨c, fun n z => ⟨fun k' h => (by cases h), k, h2, comp, h3⟩, h1⟩
theorem st_arrA {s : State} {args : Array Value} (h : (Cond.arrayOver (.array .int)).before args s = true) : ∃ cA, ArrOfT s cA (.array .int) ∧ s.vm.findClass ("[" ++ (FieldType.array .int).toString) = some cA := by
  obtain ⟨comp, c, k, -, h2, h3, h4⟩ := Cond.arrayOver_specA h
  exact ⟨c, fun n z => ⟨fun k' h => (by cases h), k, h2, comp, h3⟩, h4⟩
theorem st_nM : ∀ q ∈ nestM, Cond.methodLinkNest q.1 q.2.1 q.2.2.1 q.2.2.2 ∈ lw_tbl := by decide +kernel
theorem st_nF : ∀ q ∈ nestF, Cond.fieldLinkNest q.1 q.2.1 q.2.2.1 q.2.2.2.1 q.2.2.2.2.1 q.2.2.2.2.2 ∈ lw_tbl := by decide +kernel
theorem st_lays : ∀ q ∈ [("java/lang/String", "COMPACT_STRINGS", "Z"), ("jdk/internal/util/Preconditions", "SIOOBE_FORMATTER", "Ljava/util/function/BiFunction;"), ("SplicedLoom", "SIDE_X", "[I"), ("SplicedLoom", "SIDE_Y", "[I"), (Bundle.tN, "UNASSIGNED_STACK", Bundle.steD), (Bundle.tN, "SUPPRESSED_SENTINEL", Bundle.listD)], Cond.laysStatic q.1 q.2.1 q.2.2 ∈ lw_tbl ∧ Cond.initialized q.1 ∈ lw_tbl := by decide +kernel
theorem st_na : ∀ w ∈ [Cond.eq (.static "java/lang/String" "COMPACT_STRINGS" "Z") (.int 1), Cond.isRef (.static "jdk/internal/util/Preconditions" "SIOOBE_FORMATTER" "Ljava/util/function/BiFunction;"), Cond.isRef (.static Bundle.tN "UNASSIGNED_STACK" Bundle.steD), Cond.isRef (.static Bundle.tN "SUPPRESSED_SENTINEL" Bundle.listD)], w ∈ narL := by decide +kernel
theorem st_nX : ∀ q ∈ statA, Cond.arrayOf (.static q.1 q.2.1 "[I") .int ∈ narL ∧ Cond.eq (.length (.static q.1 q.2.1 "[I")) (.int (Int32.ofNat q.2.2.2.length)) ∈ narL ∧ ∀ j, j < q.2.2.2.length → Cond.eq (.elem (.static q.1 q.2.1 "[I") (.int (Int32.ofNat j))) (.int (q.2.2.2.getD j 0)) ∈ narL := by decide +kernel
theorem st_all {s : State} {args : Array Value} (l : Launch) (hst : l.stackTraces = false) (hts : ∀ w ∈ lw_tbl, w.before args s = true) (hs : ∀ w ∈ narL, w.before args s = true) : ∃ G : Gl, G.1 = l ∧ G.2.1 = s ∧ GK G ∧ AO G ∧ TX G := by
  have hA : ∀ a : Nat, a < s.heap.size → ¬ (fun a => s.heap.size ≤ a) a := fun a h1 h2 => Nat.not_le.mpr h1 h2
  obtain ⟨D, hD⟩ := st_cls hts
  obtain ⟨cI, hI⟩ := st_arr (hts _ (lw_gt kw85))
  obtain ⟨cJ, hJ⟩ := st_arr (hts _ (lw_gt kw84))
  obtain ⟨cY, hY⟩ := st_arr (hts _ (lw_gt kw83))
  obtain ⟨cG, hG⟩ := st_arrA (hts _ kw46)
  obtain ⟨adK, adV, hS, hR⟩ := st_strs hts hs
  have stat : ∀ q ∈ statA, ∃ t : Nat, va_Z q.1 q.2.1 "[I" (.ref t) (fun a => s.heap.size ≤ a) s s.heap ∧ va_T .int t q.2.2.2.length (fun j => .int (q.2.2.2.getD j 0)) (fun a => s.heap.size ≤ a) s s.heap := by
    intro q hq
    obtain ⟨n1, n2, n3⟩ := st_nX q hq
    obtain ⟨t, ht, hT⟩ := va_Tof (N := q.2.2.2.length) (f := fun j => .int (q.2.2.2.getD j 0)) (A := fun a => s.heap.size ≤ a) (by
      have : ∀ q ∈ statA, q.2.2.2.length < 2 ^ 31 := by decide +kernel
      exact this q hq) (hs _ n1) (va_eqt (hs _ n2)) (fun j hj => va_eqt (hs _ (n3 j hj))) hA
    have hl : Cond.laysStatic q.1 q.2.1 "[I" ∈ lw_tbl ∧ Cond.initialized q.1 ∈ lw_tbl := by
      have : ∀ q ∈ statA, (q.1, q.2.1, "[I") ∈ [("java/lang/String", "COMPACT_STRINGS", "Z"), ("jdk/internal/util/Preconditions", "SIOOBE_FORMATTER", "Ljava/util/function/BiFunction;"), ("SplicedLoom", "SIDE_X", "[I"), ("SplicedLoom", "SIDE_Y", "[I"), (Bundle.tN, "UNASSIGNED_STACK", Bundle.steD), (Bundle.tN, "SUPPRESSED_SENTINEL", Bundle.listD)] := by decide +kernel
      exact st_lays _ (this q hq)
    exact ⟨t, va_Zof (hts _ hl.1) (hts _ hl.2) ht hA, hT⟩
  have hC : ∃ aC : Nat → Nat, ∀ q ∈ statA, va_Z q.1 q.2.1 "[I" (.ref (aC q.2.2.1)) (fun a => s.heap.size ≤ a) s s.heap ∧ va_T .int (aC q.2.2.1) q.2.2.2.length (fun j => .int (q.2.2.2.getD j 0)) (fun a => s.heap.size ≤ a) s s.heap := by
    obtain ⟨t0, h0⟩ := stat ("SplicedLoom", "SIDE_X", 0, [0, 1, 0, -1]) (by decide)
    obtain ⟨t1, h1⟩ := stat ("SplicedLoom", "SIDE_Y", 1, [1, 0, -1, 0]) (by decide)
    refine ⟨fun i => if i = 0 then t0 else t1, fun q hq => ?_⟩
    rcases List.mem_cons.mp hq with rfl | hq
    · exact h0
    · rcases List.mem_cons.mp hq with rfl | hq
      · exact h1
      · cases hq
  obtain ⟨aC, hC⟩ := hC
  have ly := fun q hq => st_lays q hq
  have z1 : va_Z "java/lang/String" "COMPACT_STRINGS" "Z" (.int 1) (fun a => s.heap.size ≤ a) s s.heap := by
    obtain ⟨a, b⟩ := ly ("java/lang/String", "COMPACT_STRINGS", "Z") (by simp)
    exact va_Zof (hts _ a) (hts _ b) (va_eqi (hs _ (st_na _ (by simp)))) hA
  have z2 : va_Zq "jdk/internal/util/Preconditions" "SIOOBE_FORMATTER" "Ljava/util/function/BiFunction;" (fun a => s.heap.size ≤ a) s s.heap := by
    obtain ⟨a, b⟩ := ly ("jdk/internal/util/Preconditions", "SIOOBE_FORMATTER", "Ljava/util/function/BiFunction;") (by simp)
    exact va_Zqof (hts _ a) (hts _ b) (hs _ (st_na _ (by simp))) hA
  have z3 : vx_Zq Bundle.tN "UNASSIGNED_STACK" Bundle.steD (fun a => s.heap.size ≤ a) s s.heap := by
    obtain ⟨a, b⟩ := ly (Bundle.tN, "UNASSIGNED_STACK", Bundle.steD) (by simp)
    exact vx_Zqof (hts _ a) (hts _ b) (hs _ (st_na _ (by simp))) hA
  have z4 : vx_Zq Bundle.tN "SUPPRESSED_SENTINEL" Bundle.listD (fun a => s.heap.size ≤ a) s s.heap := by
    obtain ⟨a, b⟩ := ly (Bundle.tN, "SUPPRESSED_SENTINEL", Bundle.listD) (by simp)
    exact vx_Zqof (hts _ a) (hts _ b) (hs _ (st_na _ (by simp))) hA
  refine ⟨(l, s, D, (cI, cJ, cY, cG), adK, adV, aC), rfl, rfl, ?_, ?_, ?_⟩
  · exact ⟨hD, hI, hJ, hY, hG, fun q hq => va_Nw.of rfl (hts _ (st_nM q hq)), fun q hq => va_Nw.of rfl (hts _ (st_nF q hq)), hS, hR, hC, z1, z2⟩
  · exact AO.of (hts _ kw46)
  · refine ⟨fun w hw => va_Nw.of ?_ (hts _ (nse_badT w hw)), z3, z4, hst⟩
    have h := nse_bad w hw
    rw [Bool.and_eq_true] at h
    exact h.2
