/-! lines: nodes, the board -/
theorem uL_1 (d : Dt) (o k : Nat) (v : Int64) : (uL d o k v).1 = d.1 := rfl
theorem branch_bind {rd p : Nat} {d : Dt} {F : Bool × Dt → Option (Bool × Dt)} (hF : ∀ d, F (false, d) = some (false, d)) : (mX7_readBranch rd 152 p d).bind F = (mX7_take rd 152 p 6 d).bind fun x2 => if x2.1 = true then (mX7_takeNamed rd 152 p 0 x2.2).bind fun x5 => if 0 ≤ x5.1 then (mX7_takeSide rd 152 p x5.2).bind fun x8 => if x8.1 < 0 then some (false, x8.2) else (mX7_take rd 152 p 16 x8.2).bind fun x11 => if x11.1 = true then (mX7_takeWhole rd 152 p 1 999 x11.2).bind fun x14 => if 0 ≤ x14.1 then (mX9_add (p + 3) x5.1 x8.1 x14.1 x14.2).bind fun x17 => F (true, x17) else some (false, x14.2) else some (false, x11.2) else some (false, x5.2) else some (false, x2.2) := by
  unfold mX7_readBranch
  cases mX7_take rd 152 p 6 d with
  | none => rfl
  | some x2 =>
    rw [Option.bind_some, Option.bind_some]
    by_cases h : x2.1 = true
    · rw [if_pos h, if_pos h]
      cases mX7_takeNamed rd 152 p 0 x2.2 with
      | none => rfl
      | some x5 =>
        rw [Option.bind_some, Option.bind_some]
        by_cases h : 0 ≤ x5.1
        · rw [if_pos h, if_pos h]
          cases mX7_takeSide rd 152 p x5.2 with
          | none => rfl
          | some x8 =>
            rw [Option.bind_some, Option.bind_some]
            by_cases h : x8.1 < 0
            · rw [if_pos h, if_pos h]; exact hF _
            · rw [if_neg h, if_neg h]
              cases mX7_take rd 152 p 16 x8.2 with
              | none => rfl
              | some x11 =>
                rw [Option.bind_some, Option.bind_some]
                by_cases h : x11.1 = true
                · rw [if_pos h, if_pos h]
                  cases mX7_takeWhole rd 152 p 1 999 x11.2 with
                  | none => rfl
                  | some x14 =>
                    rw [Option.bind_some, Option.bind_some]
                    by_cases h : 0 ≤ x14.1
                    · rw [if_pos h, if_pos h]
                      cases mX9_add (p + 3) x5.1 x8.1 x14.1 x14.2 with
                      | none => rfl
                      | some x17 => rfl
                    · rw [if_neg h, if_neg h]; exact hF _
                · rw [if_neg h, if_neg h]; exact hF _
        · rw [if_neg h, if_neg h]; exact hF _
    · rw [if_neg h, if_neg h]; exact hF _
theorem fin_node {rd p n c1 : Nat} {B : Nat → Nat} {X0 M0 : Dt} {i i0 c : Nat} {w : Int32 × Int32} {q0 q : Nat → Int32} {dX dM : Dt} {va vs vl : Int32} {v : Int64} {G : Dt → Option (Bool × Dt)} (hb : Base rd p n c1 B X0 M0) (h : PSt rd p n c1 B X0 M0 i true w q0 q dX dM) (hi : i0 < i) (hc : c = nN q0) (hc14 : c < 14) (hG : ∀ x, G x = mX7_readNode_54 rd 152 p (nI c) v x)
    (ag : ∀ j, j ≠ 7 + c → j ≠ 21 + c → j ≠ 35 + c → q j = q0 j) (ea : q (7 + c) = va) (el : q (21 + c) = vl) (es : 1 ≤ c → q (35 + c) = vs) (r0 : c = 0 → va = -2 ∧ vl = 0) (r1 : 1 ≤ c → (∃ a, a < c ∧ va = nI a) ∧ (∃ l, 1 ≤ l ∧ l ≤ 999 ∧ vl = nI l) ∧ ∃ s, s < 4 ∧ vs = nI s) :
    PTwo rd p n c1 B X0 M0 ((mX9_add (p + 3) va vs vl dX).bind G) (mX12_readNode_139 167 (nI c) v dM) (PLn rd p n c1 B X0 M0 i0) := by
  have w11 := h.wp
  obtain ⟨⟨c1', a1⟩, ⟨c2', a2⟩, ⟨c3', a3⟩, ⟨c4', a4⟩, ⟨c5', a5⟩⟩ := w11.cs
  have hp := hb.1
  obtain ⟨k, k1, k2, k3, k4⟩ := h.nm
  have xt0 : dX.1 (p + 3) 0 = nI c := by rw [h.xp.2.2.1.1, c1', hc]
  have g2 : q 2 = nI c := by rw [ag _ (by omega) (by omega) (by omega), c1', hc]
  rw [ad9 xt0 hc14, Option.bind_some, hG]
  unfold mX7_readNode_54 mX12_readNode_139
  rw [show (0 : Int32) = nI 0 from rfl, nI_add, Nat.zero_add, adN (k := k) (by rw [dI_ne (by omega), dI_ne (by omega), dI_ne (by omega), dI_ne (by omega)]; exact k2) (by omega), Option.bind_some, mtl k3 (by omega), Option.bind_some, if_pos (show inB (2 : Int32) 267 = true from ib267 (a := 2) (by omega)), if_pos (show inB (2 : Int32) 267 = true from ib267 (a := 2) (by omega)), show (2 : Int32).toNatClampNeg = 2 from rfl,
    show (uI (uI (uL dM (167 + 6) k v) (167 + 7) k (nI c)) 167 13 (nI (k + 1))).1 (167 + 3) 2 = nI c from (dI_ne (by omega)).trans ((dI_ne (by omega)).trans ((h.row 2 (by omega)).trans g2)), nI_1]
  have ag : ∀ j, j ≠ 2 → j ≠ 7 + c → j ≠ 21 + c → j ≠ 35 + c → upq q 2 (nI (c + 1)) j = q0 j := fun j h1 h2 h3 h4 => (up_ne h1).trans (ag j h2 h3 h4)
  have eN : nN (upq q 2 (nI (c + 1))) = c + 1 := by unfold nN; rw [up_at, cl_nI (by omega)]
  have eO : nO (upq q 2 (nI (c + 1))) = nO q0 := by unfold nO; rw [ag _ (by omega) (by omega) (by omega) (by omega)]
  have eP : nP (upq q 2 (nI (c + 1))) = nP q0 := by unfold nP; rw [ag _ (by omega) (by omega) (by omega) (by omega)]
  have eT : nT (upq q 2 (nI (c + 1))) = nT q0 := by unfold nT; rw [ag _ (by omega) (by omega) (by omega) (by omega)]
  have eB : nB (upq q 2 (nI (c + 1))) = nB q0 := by unfold nB; rw [ag _ (by omega) (by omega) (by omega) (by omega)]
  have ea : upq q 2 (nI (c + 1)) (7 + c) = va := (up_ne (by omega)).trans ea
  have el : upq q 2 (nI (c + 1)) (21 + c) = vl := (up_ne (by omega)).trans el
  have es : 1 ≤ c → upq q 2 (nI (c + 1)) (35 + c) = vs := fun z => (up_ne (by omega)).trans (es z)
  have sj := w11.2.2.2.2.2.2.2.2.2.2.1 rfl
  have row : ∀ j, j < 267 → (uI (uI (uI (uL dM (167 + 6) k v) (167 + 7) k (nI c)) 167 13 (nI (k + 1))) (167 + 3) 2 (nI (c + 1))).1 (167 + 3) j = upq q 2 (nI (c + 1)) j := fun j hj => by
    by_cases e : j = 2
    · subst e; rw [dI_at, up_at]
    · rw [dI_ne (by omega), dI_ne (by omega), dI_ne (by omega), up_ne e]; exact h.row j hj
  have e2 : upq q 2 (nI (c + 1)) 2 = nI (c + 1) := up_at _ _ _
  generalize upq q 2 (nI (c + 1)) = q1 at *
  refine two_ends (q := q1) hb (PSt_new hb h (fun o j z => ?_) (fun o j z => dL_ne (Or.inl z)) (fun o j z1 z2 z3 => ?_) (fun o j z => dL_ne (Or.inl z)) row ⟨fun _ => ⟨?_, ?_⟩, ?_, ⟨?_, fun j hj => ?_⟩, ?_, ?_, ?_⟩ ?_ ?_) hi (fun _ _ => rfl)
  · rw [dI_ne (by omega), dI_ne (by omega), uL_1, dI_ne (by omega), dI_ne (by omega), dI_ne (by omega), dI_ne (by omega)]
  · rw [dI_ne (by omega), dI_ne (by omega), dI_ne (by omega)]; rfl
  · rw [dI_ne (by omega), dI_ne (by omega), uL_1, dI_ne (by omega), dI_ne (by omega), dI_ne (by omega), dI_ne (by omega), ag _ (by omega) (by omega) (by omega) (by omega)]; exact (h.xp.1 rfl).1
  · rw [dI_ne (by omega), dI_ne (by omega), uL_1, dI_ne (by omega), dI_ne (by omega), dI_ne (by omega), dI_ne (by omega), ag _ (by omega) (by omega) (by omega) (by omega)]; exact (h.xp.1 rfl).2
  · rw [dI_ne (by omega), dI_ne (by omega), uL_1, dI_ne (by omega), dI_ne (by omega), dI_ne (by omega), dI_ne (by omega), ag _ (by omega) (by omega) (by omega) (by omega)]; exact h.xp.2.1
  · rw [dI_ne (by omega), dI_ne (by omega), uL_1, dI_at, e2]
  · by_cases e : j = c
    · subst e
      refine ⟨?_, ?_, fun z => ?_⟩
      · rw [dI_ne (by omega), dI_ne (by omega), uL_1, dI_ne (by omega), dI_ne (by omega), dI_ne (by omega), dI_at, ea]
      · rw [dI_ne (by omega), dI_ne (by omega), uL_1, dI_ne (by omega), dI_at, el]
      · rw [dI_ne (by omega), dI_ne (by omega), uL_1, dI_ne (by omega), dI_ne (by omega), dI_at, es z]
    · have y := h.xp.2.2.1.2 j (by omega)
      refine ⟨?_, ?_, fun z => ?_⟩
      · rw [dI_ne (by omega), dI_ne (by omega), uL_1, dI_ne (by omega), dI_ne (by omega), dI_ne (by omega), dI_ne (by omega), ag _ (by omega) (by omega) (by omega) (by omega)]; exact y.1
      · rw [dI_ne (by omega), dI_ne (by omega), uL_1, dI_ne (by omega), dI_ne (by omega), dI_ne (by omega), dI_ne (by omega), ag _ (by omega) (by omega) (by omega) (by omega)]; exact y.2.1
      · rw [dI_ne (by omega), dI_ne (by omega), uL_1, dI_ne (by omega), dI_ne (by omega), dI_ne (by omega), dI_ne (by omega), ag _ (by omega) (by omega) (by omega) (by omega)]; exact y.2.2 z
  · exact XPl_c h.xp.2.2.2.1 (ag _ (by omega) (by omega) (by omega) (by omega)) (fun j _ _ => ag j (by omega) (by omega) (by omega) (by omega)) a3 (fun o j _ _ => by rw [dI_ne (by omega), dI_ne (by omega), uL_1, dI_ne (by omega), dI_ne (by omega), dI_ne (by omega), dI_ne (by omega)])
  · exact XNe_c h.xp.2.2.2.2.1 w11 (ag _ (by omega) (by omega) (by omega) (by omega)) (fun j _ _ => ag j (by omega) (by omega) (by omega) (by omega)) (fun j _ => ag _ (by omega) (by omega) (by omega) (by omega)) (fun o j _ _ => by rw [dI_ne (by omega), dI_ne (by omega), uL_1, dI_ne (by omega), dI_ne (by omega), dI_ne (by omega), dI_ne (by omega)])
  · exact XBu_c h.xp.2.2.2.2.2 (ag _ (by omega) (by omega) (by omega) (by omega)) (fun j _ _ => ag j (by omega) (by omega) (by omega) (by omega)) a5 (fun o j _ _ => by rw [dI_ne (by omega), dI_ne (by omega), uL_1, dI_ne (by omega), dI_ne (by omega), dI_ne (by omega), dI_ne (by omega)])
  · refine NmR_add (k := k) (u := c) (v := v) h.nm k1 (by omega) (by omega) (by omega) (by omega) (by omega) (by unfold MOk; omega) ?_ ⟨?_, fun j hj => ?_⟩ ⟨?_, fun j hj => ?_⟩ ?_ ⟨?_, fun j hj => ?_⟩ ⟨?_, fun j hj => ?_⟩
    · rw [dI_at]
    · rw [dI_ne (by omega), dI_at]
    · rw [dI_ne (by omega), dI_ne (by omega), uL_1, dI_ne (by omega), dI_ne (by omega), dI_ne (by omega), dI_ne (by omega)]
    · exact dL_at _ _ _ _
    · exact dL_ne (Or.inr (by omega))
    · rw [dI_ne (by omega), dI_at]
    · rw [dI_ne (by omega), dI_ne (by omega), dI_at]
    · rw [dI_ne (by omega), dI_ne (by omega), dI_ne (by omega)]; rfl
    · exact dL_at _ _ _ _
    · exact dL_ne (Or.inr (by omega))
  · refine WP_ext w11 ⟨⟨?_, ?_⟩, ⟨?_, ?_⟩, ⟨?_, ?_⟩, ⟨?_, ?_⟩, ⟨?_, ?_⟩⟩ (by omega) (by omega) (by omega) (fun j _ => ⟨ag _ (by omega) (by omega) (by omega) (by omega), ag _ (by omega) (by omega) (by omega) (by omega), ag _ (by omega) (by omega) (by omega) (by omega)⟩) (fun j _ k _ => ag _ (by omega) (by omega) (by omega) (by omega)) (fun j _ k _ => ag _ (by omega) (by omega) (by omega) (by omega)) (fun j _ => ⟨ag _ (by omega) (by omega) (by omega) (by omega), ag _ (by omega) (by omega) (by omega) (by omega)⟩) (fun j z1 z2 => ?_) (fun j _ _ => by omega) (fun j _ _ => by omega) (fun j _ _ => by omega) (by rw [ag _ (by omega) (by omega) (by omega) (by omega), ag _ (by omega) (by omega) (by omega) (by omega)]; exact sj)
    · rw [eN, e2]
    · omega
    · rw [eO, ag _ (by omega) (by omega) (by omega) (by omega)]; exact c2'
    · omega
    · rw [eP, ag _ (by omega) (by omega) (by omega) (by omega)]; exact c3'
    · omega
    · rw [eT, ag _ (by omega) (by omega) (by omega) (by omega)]; exact c4'
    · omega
    · rw [eB, ag _ (by omega) (by omega) (by omega) (by omega)]; exact c5'
    · omega
    · obtain rfl : j = c := by omega
      refine ⟨fun z => ?_, fun z => ?_⟩
      · subst z
        exact ⟨ea.trans (r0 rfl).1, el.trans (r0 rfl).2⟩
      · obtain ⟨⟨a, x1, x2⟩, x3, x4⟩ := r1 z
        have eu : uq q1 j = a := by unfold uq; rw [ea, x2, cl_nI (by omega)]
        rw [eu, ea, el, es z]
        exact ⟨⟨x2, x1⟩, x3, x4⟩
