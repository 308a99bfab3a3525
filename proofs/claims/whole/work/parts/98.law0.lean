/-! the law: what its rows share -/
abbrev yLw (nm : String) : MethodName := ⟨RL, nm, "([I)Z"⟩
abbrev LLi (b : Nat) (G : Gl) (i : Int32) : List (Nat × Value) := [(4, .int i), (3, .ref (gB G + 182)), (2, .ref (gB G + 167)), (1, .ref (gB G + 0)), (0, .ref b)]
abbrev VL (nm : String) (b : Nat) (G : Gl) (i : Int32) (bc bs : Nat) (Φ : List Value → Sg → Dt → Prop) (pc : Nat) (st : List Value) (σ : Sg) (d : Dt) : Prop := V G (yLw nm) cL_law 7 (some .boolean) 24 bc bs Φ pc (LLi b G i) st σ d
def LI (σ : Sg) (d : Dt) (h p : Nat) (q : Nat → Int32) (bb : Bool) : Prop := CI 0 h p 167 d q bb ∧ L10 σ 0 h p ∧ L11 σ 167 ∧ σ.2.1 182 = some (2, 1) ∧ 183 ≤ σ.1
def LK (nm : String) (b : Nat) (G : Gl) (i : Int32) (bc bs : Nat) (Φ : List Value → Sg → Dt → Prop) : Prop := ∀ σ d h p q bb, LI σ d h p q bb → VL nm b G i bc bs Φ 1753 [] σ d
/-- the k-th int behind place i -/
def AA (xs : Nat → Int32) (i : Int32) (k : Int) : Int32 := xs (i + Int32.ofInt k).toNatClampNeg
def IX (i : Int32) (L : Nat) : Prop := vp_in (i + Int32.ofInt 1) L ∧ vp_in (i + Int32.ofInt 2) L ∧ vp_in (i + Int32.ofInt 3) L ∧ vp_in (i + Int32.ofInt 4) L ∧ vp_in (i + Int32.ofInt 5) L
section RM
variable {G : Gl} {y : MethodName} {cc : ByteArray} {nL : Nat} {ret : Option FieldType} {dep bc bs bc1 bs1 : Nat} {Φ : List Value → Sg → Dt → Prop} {pc : Nat} {lv lv1 : List (Nat × Value)} {st : List Value} {σ : Sg} {d : Dt}
theorem V_lv (hs : ∀ q ∈ lv1, q ∈ lv) (k : V G y cc nL ret dep bc bs Φ pc lv1 st σ d) : V G y cc nL ret dep bc bs Φ pc lv st σ d := by
  intro p e R s m args below meth c0 H locs cells slots Q ls gk cx g1 g2 hr hl hv kk
  exact k p e R s m args below meth c0 H locs cells slots Q ls gk cx g1 g2 hr hl ⟨hv.1, hv.2.1, fun q hq => hv.2.2 q (hs q hq)⟩ kk
end RM
section LW
variable {nm : String} {b : Nat} {G : Gl} {i : Int32} {bc bs : Nat} {Φ : List Value → Sg → Dt → Prop} {st : List Value} {σ : Sg} {d : Dt} {L : Nat} {xs : Nat → Int32}
theorem VL_arg {pc : Nat} {n : Int} {x : Int32} (hs : va_X b L xs G.2.1 G.2.1.heap) (hi : vp_in (i + Int32.ofInt n) L) (d0 : decode cL_law pc = .ok (.aload_n 0, 1)) (d1 : decode cL_law (pc + 1) = .ok (.iload 4, 2)) (d2 : decode cL_law (pc + 3) = .ok (.iconst n, 1)) (d3 : decode cL_law (pc + 4) = .ok (.iadd, 1)) (d4 : decode cL_law (pc + 5) = .ok (.iaload, 1)) (hx : AA xs i n = x)
    (k : VL nm b G i bc bs Φ (pc + 6) (.int x :: st) σ d) : VL nm b G i bc bs Φ pc st σ d := by
  subst hx
  refine V_aload_n 4 d0 rfl rfl ?_
  refine V_iload (pc := pc + 1) 0 d1 rfl ?_
  refine V_iconst (pc := pc + 3) d2 rfl ?_
  refine V_iadd (pc := pc + 4) d3 ?_
  exact V_ialdX (pc := pc + 5) d4 hs hi k
theorem V_lawun {pc : Nat} {lv : List (Nat × Value)} {dep bc1 bs1 : Nat} {h p : Nat} {v : Int32} {o : Option Int32} (tx : TX G) (H0 : L10 σ 0 h p) (hout : σ.2.1 182 = some (2, 1)) (hh : uX h v FUEL 0 0 d = some o) (hd : decode cL_law pc = .ok (.invokestatic 199, 3)) (hdp : 8 ≤ dep) (hst : (st.map fun v => v.category).sum ≤ 8)
    (k : ∀ c d2 k', (∀ r, o = some r → c = 0 ∧ d2 = uL d 182 0 r.toInt64) → (o = none → c = 1 ∧ d2 = d) → V G (yLw nm) cL_law 7 (some .boolean) dep bc1 bs1 Φ (pc + 3) lv (.int c :: st) (σ.1 + k', σ.2.1, σ.2.2) d2) : V G (yLw nm) cL_law 7 (some .boolean) dep (1 + bc1) (6 + bs1) Φ pc lv (.ref (gB G + 182) :: .int v :: .ref (gB G + 0) :: st) σ d := by
  intro p9 e R s m args below meth c0 H locs cells slots Q ls gk cx g1 g2 hr hl hv kk
  have hts := cx.2.2.2.2.2.1
  have h2 : (parseMethodDescriptor yL_unused.desc).map (fun d => d.parameters.length) = some 3 := by decide +kernel
  have hgi : GoodIn lw_g (Cond.codeWith yL_unused cL_unused 4 (some .int) [(0, 9, 12, 13)] :: lw_g) := fun w hw => by
    have hm : w ∈ lw_g := by
      rcases List.mem_cons.mp hw with e | e
      · rw [e]; exact kwLU
      · exact e
    exact ⟨hm, good_of_word (List.mem_filter.mp hm).2⟩
  have cw : vx_CSW R s args RL 199 yL_unused cL_unused 4 (some .int) [(0, 9, 12, 13)] (Cond.codeWith yL_unused cL_unused 4 (some .int) [(0, 9, 12, 13)] :: lw_g) (rmD 7 1 6) 1 6 3 :=
    ⟨⟨rfl, rfl, by show 7 + 1 ≤ _; omega, by show 8 + (4 + 11) + 40 * 7 ≤ _; omega, pay_in hts hgi, List.mem_cons_self⟩, hts _ kwLU, hts _ kw0, ⟨by decide +kernel, by decide +kernel⟩, fun sig h => by rw [h] at h2; exact (Option.some.inj h2).symm, hts _ kw1161, hts _ kw1162⟩
  refine w_callX (vx_runSX (As := [Value.ref (gB G + 0), .int v, .ref (gB G + 182)]) (rest := st) ⟨cx.1, cx.2.1, cx.2.2.2.1, cx.2.2.2.2.1, hts⟩ (mt_lawun tx gk H0 hout o hh) cw ⟨fun _ _ _ _ q => q, fun U hU hW => ⟨rfl, cx.2.2.2.2.2.2.2.2.trans hW, by rw [hU]; exact hr⟩⟩ rfl rfl hv.1 rfl (by show 2 * 0 + _ ≤ _; omega) hd ⟨by omega, by omega⟩) (fun q E ce st t H1 L ht hx => hx.elim) fun v' st1 t H1 L ht hq hL => ?_
  obtain ⟨cd, d2, k', hv1, hrep, q1, q2⟩ := hq
  cases hv1
  rw [ht] at hrep
  exact k cd d2 k' q1 q2 p9 e R s m args below meth c0 H1 (locs ++ L) (cells + 1) (slots + 6) Q ls gk cx g1 ⟨by omega, by omega⟩ hrep (bas_app hl hL) hv (fun a1 a2 a3 a4 a5 a6 a7 a8 a9 a10 b1 b2 b3 b4 b5 b6 => kk a1 a2 a3 a4 a5 a6 a7 a8 a9 a10 b1 b2 b3 b4 b5 ⟨by omega, by omega⟩)
end LW
