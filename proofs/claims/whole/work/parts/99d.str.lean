/-! the law's start: the texts -/
def narL : List Cond := Jvm.Free.XT.flat (Jvm.Cond.and given_1 narrow_1)
def strT : List (String × Nat) := [("SplicedLoom$Tokens", 61), ("SplicedLoom$Tokens", 67), ("SplicedLoom$Tokens", 69), ("SplicedLoom$Tokens", 71), ("SplicedLoom$Tokens", 73), ("SplicedLoom$Tokens", 75), ("SplicedLoom$Tokens", 77), ("SplicedLoom$Tokens", 79), ("SplicedLoom$Tokens", 81), ("SplicedLoom$Tokens", 83), ("SplicedLoom$Reader", 165), ("SplicedLoom$Reader", 174), ("SplicedLoom$Reader", 73), ("SplicedLoom$Reader", 75), ("SplicedLoom$Reader", 77), ("SplicedLoom$Reader", 79), ("SplicedLoom$Reader", 204), ("SplicedLoom$Reader", 206), ("SplicedLoom$Reader", 208), ("SplicedLoom$Reader", 210), ("SplicedLoom$Reader", 212), ("SplicedLoom$Reader", 84), ("SplicedLoom$Reader", 86), ("SplicedLoom$Reader", 88), ("SplicedLoom", 374)]
def strTm (i : Nat) : Term := .string (strT.getD i ("", 0)).1 (strT.getD i ("", 0)).2
def strD : Bool := (List.range 25).all fun i => (List.range 25).all fun j => i == j || strL.getD i 0 != strL.getD j 0 || (List.range (strL.getD i 0)).any fun k => (strB.getD i []).getD k 0 != (strB.getD j []).getD k 0
theorem strD_ok : strD = true := by decide +kernel
theorem strD_at {i j : Nat} (hi : i < 25) (hj : j < 25) (hl : strL.getD i 0 = strL.getD j 0) (hb : ∀ k, k < strL.getD i 0 → (strB.getD i []).getD k 0 = (strB.getD j []).getD k 0) : i = j := by
  have h := strD_ok
  unfold strD at h
  have h1 := List.all_eq_true.mp (List.all_eq_true.mp h i (List.mem_range.mpr hi)) j (List.mem_range.mpr hj)
  rw [Bool.or_eq_true, Bool.or_eq_true] at h1
  rcases h1 with (h1 | h1) | h1
  · exact eq_of_beq h1
  · rw [hl] at h1
    simp at h1
  · obtain ⟨k, hk, hne⟩ := List.any_eq_true.mp h1
    rw [hb k (List.mem_range.mp hk)] at hne
    simp at hne
theorem strL_lt : ∀ i, i < 25 → strL.getD i 0 < 2 ^ 31 := by decide +kernel
def strX : List Nat := [37, 46, 54, 64, 72, 79, 88, 95, 103, 114, 130, 139, 165, 171, 180, 188, 196, 224, 230, 239, 248, 283, 292, 302, 329]
def strW (i : Nat) : List Cond := Cond.exactly (strTm i) "java/lang/String" :: Cond.eq (.field (strTm i) "java/lang/String" "coder" "B") (.int 0) :: Cond.arrayOf (.field (strTm i) "java/lang/String" "value" "[B") .byte :: Cond.eq (.length (.field (strTm i) "java/lang/String" "value" "[B")) (.int (Int32.ofNat (strL.getD i 0))) :: (List.range (strL.getD i 0)).map fun j => Cond.eq (.elem (.field (strTm i) "java/lang/String" "value" "[B") (.int (Int32.ofNat j))) (.int ((strB.getD i []).getD j 0))
theorem strW_ok : ∀ i, i < 25 → (narL.drop (strX.getD i 0)).take (4 + strL.getD i 0) = strW i := by decide +kernel
theorem strW_in {i : Nat} (hi : i < 25) {w : Cond} (h : w ∈ strW i) : w ∈ narL := by
  rw [← strW_ok i hi] at h
  exact List.mem_of_mem_drop (List.mem_of_mem_take h)
theorem na_ex (i : Nat) (hi : i < 25) : Cond.exactly (strTm i) "java/lang/String" ∈ narL := strW_in hi List.mem_cons_self
theorem na_co (i : Nat) (hi : i < 25) : Cond.eq (.field (strTm i) "java/lang/String" "coder" "B") (.int 0) ∈ narL := strW_in hi (List.mem_cons_of_mem _ List.mem_cons_self)
theorem na_ar (i : Nat) (hi : i < 25) : Cond.arrayOf (.field (strTm i) "java/lang/String" "value" "[B") .byte ∈ narL := strW_in hi (List.mem_cons_of_mem _ (List.mem_cons_of_mem _ List.mem_cons_self))
theorem na_le (i : Nat) (hi : i < 25) : Cond.eq (.length (.field (strTm i) "java/lang/String" "value" "[B")) (.int (Int32.ofNat (strL.getD i 0))) ∈ narL := strW_in hi (List.mem_cons_of_mem _ (List.mem_cons_of_mem _ (List.mem_cons_of_mem _ List.mem_cons_self)))
theorem na_el (i : Nat) (hi : i < 25) (j : Nat) (hj : j < strL.getD i 0) : Cond.eq (.elem (.field (strTm i) "java/lang/String" "value" "[B") (.int (Int32.ofNat j))) (.int ((strB.getD i []).getD j 0)) ∈ narL := strW_in hi (List.mem_cons_of_mem _ (List.mem_cons_of_mem _ (List.mem_cons_of_mem _ (List.mem_cons_of_mem _ (List.mem_map.mpr ⟨j, List.mem_range.mpr hj, rfl⟩)))))
theorem na_r1 : ∀ q ∈ strR, q.2.2.2 < 25 ∧ Cond.stringRef q.1 q.2.1 q.2.2.1 ∈ lw_tbl := by decide +kernel
theorem na_r2 : ∀ q ∈ strR, (q.1, q.2.1) = strT.getD q.2.2.2 ("", 0) ∨ Cond.eq (strTm q.2.2.2) (.string q.1 q.2.1) ∈ narL := by decide +kernel
theorem st_strs {s : State} {args : Array Value} (hts : ∀ w ∈ lw_tbl, w.before args s = true) (hs : ∀ w ∈ narL, w.before args s = true) : ∃ adK adV : Nat → Nat, vk_S strN strL strB adK adV (fun a => s.heap.size ≤ a) s s.heap ∧ ∀ q ∈ strR, vk_R q.1 q.2.1 q.2.2.1 (adK q.2.2.2) s := by
  have hA : ∀ a : Nat, a < s.heap.size → ¬ (fun a => s.heap.size ≤ a) a := fun a h1 h2 => Nat.not_le.mpr h1 h2
  have h0 : ∀ i : Nat, ∃ q : Nat × Nat, i < 25 → (strTm i).eval args s none [] s = some (.ref q.1) ∧ va_O "java/lang/String" q.1 (fun a => s.heap.size ≤ a) s s.heap ∧ va_OF "java/lang/String" "coder" "B" (.int 0) q.1 (fun a => s.heap.size ≤ a) s s.heap ∧ va_OF "java/lang/String" "value" "[B" (.ref q.2) q.1 (fun a => s.heap.size ≤ a) s s.heap ∧ va_T .byte q.2 (strL.getD i 0) (fun j => .int ((strB.getD i []).getD j 0)) (fun a => s.heap.size ≤ a) s s.heap := by
    intro i
    by_cases hi : i < 25
    · obtain ⟨a, c, cA, kA, q1, q2, q3, q4, q5, q6, -⟩ := Cond.exactly_spec (args := args) (first := s) (o := none) (s := s) (idx := []) (t := strTm i) (cls := "java/lang/String") (hs _ (na_ex i hi))
      obtain ⟨t, ht, hT⟩ := va_Tof (f := fun j => .int ((strB.getD i []).getD j 0)) (A := fun a => s.heap.size ≤ a) (strL_lt i hi) (hs _ (na_ar i hi)) (va_eqt (hs _ (na_le i hi))) (fun j hj => va_eqt (hs _ (na_el i hi j hj))) hA
      exact ⟨(a, t), fun _ => ⟨q1, ⟨cA, q3, q5, by rw [q6]; exact q2, hA a (Array.getElem?_eq_some_iff.mp q3).1⟩, vk_OFof q1 (va_eqt (hs _ (na_co i hi))) hA, vk_OFof q1 ht hA, hT⟩⟩
    · exact ⟨(0, 0), fun h => absurd h hi⟩
  obtain ⟨ad, had⟩ := Classical.axiomOfChoice h0
  refine ⟨fun i => (ad i).1, fun i => (ad i).2, ⟨fun i hi => (had i hi).2, fun i j hi hj e => ?_⟩, fun q hq => ?_⟩
  · obtain ⟨-, -, -, ⟨c1, k1, i1, f1, e1, a1, a2, a3, a4, a5, -⟩, ⟨b1, m1, m2, m3, m4, m5, m6, -⟩⟩ := had i hi
    obtain ⟨-, -, -, ⟨c2, k2, i2, f2, e2, a1', a2', a3', a4', a5', -⟩, ⟨b2, m1', m2', m3', m4', m5', m6', -⟩⟩ := had j hj
    cases a1.symm.trans a1'
    have e : (ad i).1 = (ad j).1 := e
    rw [e] at a3
    cases a3.symm.trans a3'
    have e5 : (ad i).2 = (ad j).2 := Value.ref.inj (Option.some.inj (a5.symm.trans a5'))
    rw [e5] at m1
    cases m1.symm.trans m1'
    have el : strL.getD i 0 = strL.getD j 0 := by
      have h := congrArg Int32.toNatClampNeg (m5.symm.trans m5')
      rw [Int32.toNatClampNeg_ofNat_of_lt (strL_lt i hi), Int32.toNatClampNeg_ofNat_of_lt (strL_lt j hj)] at h
      exact h
    exact strD_at hi hj el fun k hk => Value.int.inj (Option.some.inj ((m6 k hk).symm.trans (m6' k (by rw [← el]; exact hk))))
  · obtain ⟨r1, r2⟩ := na_r1 q hq
    refine vk_R.of (A := args) (hts _ r2) ?_
    have t1 : (strTm q.2.2.2).eval args s none [] s = some (.ref (ad q.2.2.2).1) := (had _ r1).1
    rcases na_r2 q hq with h | h
    · unfold strTm at t1
      rw [← h] at t1
      exact t1
    · exact va_eqR (hs _ h) t1
