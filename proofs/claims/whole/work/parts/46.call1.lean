/-! the calls, 1: node, far, side, place, meet, plug, net, pin, build, about -/
theorem un0 : mX12_unless 0 = 1 := rfl
theorem un1 : mX12_unless 1 = 0 := rfl
theorem iR1 (m : Nat) (d : Dt) : mX12_isRefused m 1 d = (true, rf m 1 d) := iR d (by decide)
theorem iR2 (m : Nat) (d : Dt) : mX12_isRefused m 2 d = (true, rf m 2 d) := iR d (by decide)
theorem iR5 (m : Nat) (d : Dt) : mX12_isRefused m 5 d = (true, rf m 5 d) := iR d (by decide)
theorem out_ne {w : Int32} {n j : Nat} (h : inB w n = false) (hj : j < n) (hn : n < 2 ^ 31) : w ≠ nI j := fun e => by
  rw [e, inB_nI hj hn] at h; cases h
theorem M_node2 {m : Nat} {d : Dt} {q : Nat → Int32} (hM : MR m d q) (w : WF q) (v : Int32) : mX12_node_63 m v FUEL 0 1 d = some (off q v, d) := by
  have hn := w.n
  unfold off
  exact loop_fo (fun n i s => mX12_node_63 m v n s i d) _ (fun s => some (s, d)) (nN q) (fun a _ => 1 ≤ a)
    (fun fuel i s hi _ => by
      show mX12_node_63 m v (fuel + 1) s (nI i) d = mX12_node_63 m v fuel (if q (7 + i) = v then s + 1 else s) _ d
      rw [mX12_node_63, if_pos ib2, row2 hM, hn.1, if_neg (nI_ge hi (by omega)), show (7 : Int32) + nI i = nI (7 + i) by rw [show (7 : Int32) = nI 7 from rfl, nI_add], if_pos (inB_nI (by omega) (by decide)), cl_nI (by omega), hM _ (by omega), nI_1]
      by_cases e : q (7 + i) = v
      · rw [if_pos e, if_pos e]
      · rw [if_neg e, if_neg e, Int32.add_zero])
    (fun _ _ _ _ => by omega)
    (fun fuel s _ => by
      show mX12_node_63 m v (fuel + 1) s (nI (nN q)) d = _
      rw [mX12_node_63, if_pos ib2, row2 hM, hn.1, if_pos (Int32.le_refl _)])
    (nN q - 1) 1 0 FUEL (by omega) (Nat.le_refl _) (fuel_big (by omega))
theorem told_of {k : Nat} {b : Bool} {v : Int32} (h : inB v (if b = true then k else 0) = true) : b = true ∧ ∃ j, j < k ∧ v = nI j := by
  cases b
  · rw [if_neg (by decide), inB_0] at h; cases h
  · rw [if_pos rfl] at h; exact ⟨rfl, in_nI h⟩
theorem q_node {x h p m : Nat} {d : Dt} {q : Nat → Int32} {b : Bool} (id : Ids x h p m) (s : St x h m d q b) (v a : Int32) : Ans x m d (fun d => mX11_node x h p v a d) (fun d => mX12_node m v a d) := by
  have i2 := id
  obtain ⟨j1, j2, j3⟩ := id
  have sr : ∀ t, St x h m (uI d x 9 t) q b := fun t => Ch_St i2 (Ch_x9 x m d t) s
  have hin : mX12_in a 0 2 = inB a 3 := in_M2 (n := 2) (by omega)
  have ref : inB v (kN q b) = false ∨ inB a 3 = false → mX12_node m v a (uI d x 9 1) = some (-1, rf m 1 (uI d x 9 1)) := by
    intro hc
    unfold mX12_node
    rw [M_isNode (sr 1), Option.bind_some, hin]
    have t0 : mX12_node_23 m v a 0 m (uI d x 9 1) = some (-1, rf m 1 (uI d x 9 1)) := by unfold mX12_node_23; rw [un0, iR1, if_pos rfl]
    rcases hc with e | e
    · rw [e, if_neg (by decide), t0]
    · rw [e, t0, if_neg (show ¬ false = true by decide), ite_self]
  by_cases e : inB v (kN q b) = true
  · obtain ⟨rfl, j, hj, rfl⟩ := told_of e
    obtain ⟨w, hX, hM⟩ := s.2.2.2 rfl
    have hn := w.n
    have hM0 : MR m (rf m 0 (uI d x 9 0)) q := Ch_MR i2 (Ch_tr (Ch_x9 x m d 0) (Ch_rf2 x m _ 0)) hM
    by_cases e2 : inB a 3 = true
    · have ma : ∀ r, (mX12_node_23 m (nI j) a 1 m (uI d x 9 0) = r) → mX12_node m (nI j) a (uI d x 9 0) = r := by
        intro r hr
        unfold mX12_node
        rw [M_isNode (sr 0), Option.bind_some, hin, e, e2, if_pos rfl, if_pos rfl]; exact hr
      obtain ⟨k, hk, rfl⟩ := in_nI e2
      have k3 : k = 0 ∨ k = 1 ∨ k = 2 := by omega
      rcases k3 with rfl | rfl | rfl
      · refine Ans_val i2 (q (7 + j)) ?_ (ma _ ?_)
        · show mX11_node x h p (nI j) (nI 0) d = _
          unfold mX11_node
          rw [X_isNode s, e, if_pos rfl, if_pos (show nI 0 = 0 from rfl), if_pos (inB_nI (by omega) (by decide)), cl_nI (by omega), (hX.tr.2 j hj).1]; rfl
        · unfold mX12_node_23
          rw [un1, iR0, if_neg (show ¬ false = true by decide), if_neg (show ¬ (2 : Int32) ≤ nI 0 by decide), if_pos (show nI 0 = 0 from rfl), show (7 : Int32) + nI j = nI (7 + j) by rw [show (7 : Int32) = nI 7 from rfl, nI_add], if_pos (inB_nI (by omega) (by decide)), cl_nI (by omega), hM0 _ (by omega)]
      · refine Ans_val i2 (q (21 + j)) ?_ (ma _ ?_)
        · show mX11_node x h p (nI j) (nI 1) d = _
          unfold mX11_node
          rw [X_isNode s, e, if_pos rfl, if_neg (show ¬ nI 1 = 0 by decide), if_pos (show nI 1 = 1 from rfl), if_pos (inB_nI (by omega) (by decide)), cl_nI (by omega), (hX.tr.2 j hj).2.1]; rfl
        · unfold mX12_node_23
          rw [un1, iR0, if_neg (show ¬ false = true by decide), if_neg (show ¬ (2 : Int32) ≤ nI 1 by decide), if_neg (show ¬ nI 1 = 0 by decide), show (21 : Int32) + nI j = nI (21 + j) by rw [show (21 : Int32) = nI 21 from rfl, nI_add], if_pos (inB_nI (by omega) (by decide)), cl_nI (by omega), hM0 _ (by omega)]
      · refine Ans_val i2 (off q (nI j)) ?_ (ma _ ?_)
        · show mX11_node x h p (nI j) (nI 2) d = _
          unfold mX11_node
          rw [X_isNode s, e, if_pos rfl, if_neg (show ¬ nI 2 = 0 by decide), if_neg (show ¬ nI 2 = 1 by decide), if_pos (show nI 2 = 2 from rfl), X_countOff hX.tr w, Option.bind_some]; rfl
        · unfold mX12_node_23
          rw [un1, iR0, if_neg (show ¬ false = true by decide), if_pos (show (2 : Int32) ≤ nI 2 by decide), M_node2 hM0 w]
    · have e2 : inB a 3 = false := by simpa using e2
      refine Ans_ref i2 (-1) 1 (by decide) ?_ (ref (Or.inr e2))
      show mX11_node x h p (nI j) a d = _
      unfold mX11_node
      rw [X_isNode s, e, if_pos rfl, if_neg (show ¬ a = 0 from out_ne (j := 0) e2 (by omega) (by omega)), if_neg (show ¬ a = 1 from out_ne (j := 1) e2 (by omega) (by omega)), if_neg (show ¬ a = 2 from out_ne (j := 2) e2 (by omega) (by omega))]; rfl
  · have e : inB v (kN q b) = false := by simpa using e
    refine Ans_ref i2 (-1) 1 (by decide) ?_ (ref (Or.inl e))
    show mX11_node x h p v a d = _
    unfold mX11_node
    rw [X_isNode s, e, if_neg (show ¬ false = true by decide)]; rfl
