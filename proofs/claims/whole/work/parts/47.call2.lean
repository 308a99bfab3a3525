/-! the calls, 2: far, side, place, meet -/
theorem rng_le {α : Type} (a : Int32) {n : Nat} (hn : n < 2 ^ 30) (A R : α) : (if a < 0 then R else if a ≤ nI n then A else R) = if inB a (n + 1) = true then A else R := by
  rw [← in_M2 (n := n) (by omega)]
  unfold mX12_in
  by_cases e : a < 0
  · rw [if_pos e, if_neg (by rw [if_pos e]; decide)]
  · rw [if_neg e]
    by_cases e2 : a ≤ nI n
    · rw [if_pos e2, if_pos (by rw [if_neg e, if_neg (Int32.not_lt.mpr e2)])]
    · rw [if_neg e2, if_neg (by rw [if_neg e, if_pos (Int32.not_le.mp e2)]; decide)]
theorem rng_lt {α : Type} (a : Int32) {n : Nat} (hn : n < 2 ^ 30) (A R : α) : (if a < 0 then R else if nI n < a then R else A) = if inB a (n + 1) = true then A else R := by
  rw [← in_M2 (n := n) (by omega)]
  unfold mX12_in
  by_cases e : a < 0
  · rw [if_pos e, if_neg (by rw [if_pos e]; decide)]
  · rw [if_neg e]
    by_cases e2 : nI n < a
    · rw [if_pos e2, if_neg (by rw [if_neg e, if_pos e2]; decide)]
    · rw [if_neg e2, if_pos (by rw [if_neg e, if_neg e2])]
def bndl (v : Int32) (k : Nat) : Bool := inB v k && decide (¬ v ≤ 0)
theorem X_isBundle {x h p m : Nat} {d : Dt} {q : Nat → Int32} {b : Bool} (s : St x h m d q b) (v : Int32) : mX11_isBundle x h p v d = bndl v (kN q b) := by
  unfold mX11_isBundle bndl
  rw [X_isNode s]
  by_cases e : v ≤ 0
  · rw [if_pos e]; simp [e]
  · rw [if_neg e]; cases inB v (kN q b) <;> simp [e]
theorem M_isBundle {x h m : Nat} {d : Dt} {q : Nat → Int32} {b : Bool} (s : St x h m d q b) (v : Int32) : mX12_isBundle m v d = some (bndl v (kN q b)) := by
  unfold mX12_isBundle bndl
  rw [M_isNode s, Option.bind_some]
  by_cases e : v ≤ 0
  · rw [if_pos e]; simp [e]
  · rw [if_neg e]; cases inB v (kN q b) <;> simp [e]
theorem told_bndl {q : Nat → Int32} {b : Bool} {v : Int32} (h : bndl v (kN q b) = true) : b = true ∧ ∃ j, 1 ≤ j ∧ j < nN q ∧ v = nI j := by
  obtain ⟨h1, h2⟩ := Bool.and_eq_true_iff.mp h
  obtain ⟨hb, j, hj, rfl⟩ := told_of h1
  refine ⟨hb, j, ?_, hj, rfl⟩
  rcases Nat.eq_zero_or_pos j with rfl | h
  · exact absurd h2 (by decide)
  · exact h
theorem bf {c : Bool} (h : ¬ c = true) : c = false := by simpa using h
theorem q_far {x h p m : Nat} {d : Dt} {q : Nat → Int32} {b : Bool} (id : Ids x h p m) (s : St x h m d q b) (v a : Int32) : Ans x m d (fun d => mX11_far x h p v a d) (fun d => mX12_far m v a d) := by
  have i2 := id
  obtain ⟨j1, j2, j3⟩ := id
  have sr : ∀ t, St x h m (uI d x 9 t) q b := fun t => Ch_St i2 (Ch_x9 x m d t) s
  have t0 : mX12_far_22 m v a 0 m (uI d x 9 1) = some (-1, rf m 1 (uI d x 9 1)) := by unfold mX12_far_22; rw [un0, iR1, if_pos rfl]
  by_cases e : inB v (kN q b) = true
  · by_cases e2 : inB a (kN q b) = true
    · obtain ⟨rfl, j, hj, rfl⟩ := told_of e
      obtain ⟨-, k, hk, rfl⟩ := told_of e2
      obtain ⟨w, hX, hM⟩ := s.2.2.2 rfl
      have hn := w.n
      have hM0 : MR m (rf m 0 (uI d x 9 0)) q := Ch_MR i2 (Ch_tr (Ch_x9 x m d 0) (Ch_rf2 x m _ 0)) hM
      refine Ans_val i2 (far q j k) ?_ ?_
      · show mX11_far x h p (nI j) (nI k) d = _
        unfold mX11_far
        have hF : d.1 (h + 11 + j) k = far q j k := (hX.td j hj).2.2.2 k hk
        rw [X_isNode s, X_isNode s, e, e2, if_pos rfl, if_pos rfl, if_pos (inB_nI (by omega) (by decide)), if_pos (inB_nI (by omega) (by decide)), cl_nI (by omega), cl_nI (by omega), hF]; rfl
      · show mX12_far m (nI j) (nI k) (uI d x 9 0) = _
        unfold mX12_far
        rw [M_isNode (sr 0), Option.bind_some, M_isNode (sr 0), Option.bind_some, e, e2, if_pos rfl, if_pos rfl]
        unfold mX12_far_22
        rw [un1, iR0, if_neg (show ¬ false = true by decide), M_farOf hM0 w hj hk, Option.bind_some]
    · refine Ans_ref i2 (-1) 1 (by decide) ?_ ?_
      · show mX11_far x h p v a d = _
        unfold mX11_far
        rw [X_isNode s, X_isNode s, e, bf e2, if_pos rfl, if_neg (show ¬ false = true by decide)]; rfl
      · show mX12_far m v a (uI d x 9 1) = _
        unfold mX12_far
        rw [M_isNode (sr 1), Option.bind_some, M_isNode (sr 1), Option.bind_some, e, bf e2, if_pos rfl, if_neg (show ¬ false = true by decide), t0]
  · refine Ans_ref i2 (-1) 1 (by decide) ?_ ?_
    · show mX11_far x h p v a d = _
      unfold mX11_far
      rw [X_isNode s, bf e, if_neg (show ¬ false = true by decide)]; rfl
    · show mX12_far m v a (uI d x 9 1) = _
      unfold mX12_far
      rw [M_isNode (sr 1), Option.bind_some, bf e, if_neg (show ¬ false = true by decide), t0]
theorem q_side {x h p m : Nat} {d : Dt} {q : Nat → Int32} {b : Bool} (id : Ids x h p m) (s : St x h m d q b) (v : Int32) : Ans x m d (fun d => mX11_side x h p v d) (fun d => mX12_side m v d) := by
  have i2 := id
  obtain ⟨j1, j2, j3⟩ := id
  have sr : ∀ t, St x h m (uI d x 9 t) q b := fun t => Ch_St i2 (Ch_x9 x m d t) s
  by_cases e : bndl v (kN q b) = true
  · obtain ⟨rfl, j, hj1, hj, rfl⟩ := told_bndl e
    obtain ⟨w, hX, hM⟩ := s.2.2.2 rfl
    have hn := w.n
    have hM0 : MR m (rf m 0 (uI d x 9 0)) q := Ch_MR i2 (Ch_tr (Ch_x9 x m d 0) (Ch_rf2 x m _ 0)) hM
    refine Ans_val i2 (q (35 + j)) ?_ ?_
    · show mX11_side x h p (nI j) d = _
      unfold mX11_side
      rw [X_isBundle s, e, if_pos rfl, if_pos (inB_nI (by omega) (by decide)), cl_nI (by omega), show d.1 (h + 6) j = q (35 + j) from (hX.tr.2 j hj).2.2 hj1]; rfl
    · show mX12_side m (nI j) (uI d x 9 0) = _
      unfold mX12_side
      rw [M_isBundle (sr 0), Option.bind_some, e, b2i_1, un1, iR0, if_neg (show ¬ false = true by decide), show (35 : Int32) + nI j = nI (35 + j) by rw [show (35 : Int32) = nI 35 from rfl, nI_add], if_pos (inB_nI (by omega) (by decide)), cl_nI (by omega), hM0 _ (by omega)]
  · refine Ans_ref i2 (-1) 1 (by decide) ?_ ?_
    · show mX11_side x h p v d = _
      unfold mX11_side
      rw [X_isBundle s, bf e, if_neg (show ¬ false = true by decide)]; rfl
    · show mX12_side m v (uI d x 9 1) = _
      unfold mX12_side
      rw [M_isBundle (sr 1), Option.bind_some, bf e, b2i_0, un0, iR1, if_pos rfl]
theorem MFr_Ch {x h p m : Nat} {a b : Dt} (id : Ids x h p m) (f : MFr m a b) : Ch x m a b := ⟨f.1, fun o k _ _ _ h4 => f.2 o k (by omega) (by omega)⟩
theorem MFr_x9 {x h p m : Nat} {d d1 : Dt} {t : Int32} (id : Ids x h p m) (f : MFr m (rf m t (uI d x 9 t)) d1) : d1.1 x 9 = t ∧ d1.1 m 1 = t := by
  obtain ⟨j1, j2, -⟩ := id
  exact ⟨by rw [f.2 _ _ (by omega) (by omega), rf_o (by omega), dI_at], by rw [f.2 _ _ (by omega) (by omega), rf_m1]⟩
theorem q_place {x h p m : Nat} {d : Dt} {q : Nat → Int32} {b : Bool} (id : Ids x h p m) (s : St x h m d q b) (v a : Int32) : Ans x m d (fun d => mX11_place x h p v a d) (fun d => mX12_place m v a d) := by
  have i2 := id
  obtain ⟨j1, j2, j3⟩ := id
  have sr : ∀ t, St x h m (uI d x 9 t) q b := fun t => Ch_St i2 (Ch_x9 x m d t) s
  have t0 : mX12_place_23 m v a 0 m (uI d x 9 1) = some (-2147483648, rf m 1 (uI d x 9 1)) := by unfold mX12_place_23; rw [un0, iR1, if_pos rfl]
  have hin : mX12_in a 0 1 = inB a 2 := in_M2 (n := 1) (by omega)
  have xx : mX11_place x h p v a d = if inB v (kN q b) = true then (if inB a 2 = true then (if a = 0 then (if inB v 14 = true then some (d.1 (h + 7) v.toNatClampNeg, uI d x 9 0) else none) else (if inB v 14 = true then some (d.1 (h + 8) v.toNatClampNeg, uI d x 9 0) else none)) else some (-2147483648, uI d x 9 1)) else some (-2147483648, uI d x 9 1) := by
    unfold mX11_place
    rw [X_isNode s]
    exact congrArg (fun z => if inB v (kN q b) = true then z else some (-2147483648, uI d x 9 1)) (rng_le a (n := 1) (by omega) _ _)
  by_cases e : inB v (kN q b) = true
  · by_cases e2 : inB a 2 = true
    · obtain ⟨rfl, j, hj, rfl⟩ := told_of e
      obtain ⟨k, hk, rfl⟩ := in_nI e2
      obtain ⟨w, hX, hM⟩ := s.2.2.2 rfl
      have hn := w.n
      have hM0 : MR m (rf m 0 (uI d x 9 0)) q := Ch_MR i2 (Ch_tr (Ch_x9 x m d 0) (Ch_rf2 x m _ 0)) hM
      obtain ⟨d2, a1, a2, a3⟩ := M_laysPlaces hM0 w
      have h2 := MFr_x9 i2 a2
      have k2 : k = 0 ∨ k = 1 := by omega
      rcases k2 with rfl | rfl
      · refine Ans_ok i2 (pos LX q j) (Ch_rf x m d) ?_ (d2 := d2) ?_ (MFr_Ch i2 a2) h2.1 h2.2
        · show mX11_place x h p (nI j) (nI 0) d = _
          rw [xx, e, e2, if_pos rfl, if_pos rfl, if_pos (show nI 0 = 0 from rfl), if_pos (inB_nI (by omega) (by decide)), cl_nI (by omega), show d.1 (h + 7) j = pos LX q j from (hX.td j hj).1]
        · show mX12_place m (nI j) (nI 0) (uI d x 9 0) = _
          unfold mX12_place
          rw [M_isNode (sr 0), Option.bind_some, e, if_pos rfl, hin, e2, if_pos rfl]
          unfold mX12_place_23
          rw [un1, iR0, if_neg (show ¬ false = true by decide), a1, Option.bind_some, if_pos (show nI 0 = 0 from rfl), if_pos (inB_nI (by omega) (by decide)), cl_nI (by omega), (a3 j hj).1]
      · refine Ans_ok i2 (pos LY q j) (Ch_rf x m d) ?_ (d2 := d2) ?_ (MFr_Ch i2 a2) h2.1 h2.2
        · show mX11_place x h p (nI j) (nI 1) d = _
          rw [xx, e, e2, if_pos rfl, if_pos rfl, if_neg (show ¬ nI 1 = 0 by decide), if_pos (inB_nI (by omega) (by decide)), cl_nI (by omega), show d.1 (h + 8) j = pos LY q j from (hX.td j hj).2.1]
        · show mX12_place m (nI j) (nI 1) (uI d x 9 0) = _
          unfold mX12_place
          rw [M_isNode (sr 0), Option.bind_some, e, if_pos rfl, hin, e2, if_pos rfl]
          unfold mX12_place_23
          rw [un1, iR0, if_neg (show ¬ false = true by decide), a1, Option.bind_some, if_neg (show ¬ nI 1 = 0 by decide), if_pos (inB_nI (by omega) (by decide)), cl_nI (by omega), (a3 j hj).2]
    · refine Ans_ref i2 (-2147483648) 1 (by decide) ?_ ?_
      · show mX11_place x h p v a d = _
        rw [xx, e, bf e2, if_pos rfl, if_neg (show ¬ false = true by decide)]
      · show mX12_place m v a (uI d x 9 1) = _
        unfold mX12_place
        rw [M_isNode (sr 1), Option.bind_some, e, if_pos rfl, hin, bf e2, if_neg (show ¬ false = true by decide), t0]
  · refine Ans_ref i2 (-2147483648) 1 (by decide) ?_ ?_
    · show mX11_place x h p v a d = _
      rw [xx, bf e, if_neg (show ¬ false = true by decide)]
    · show mX12_place m v a (uI d x 9 1) = _
      unfold mX12_place
      rw [M_isNode (sr 1), Option.bind_some, bf e, if_neg (show ¬ false = true by decide), t0]
