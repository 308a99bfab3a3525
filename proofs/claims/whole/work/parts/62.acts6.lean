/-! acts: stretch as a call -/
theorem in_1k {v : Int32} {n : Nat} (hn : n < 2 ^ 30) (h : mX12_in v 1 (nI n) = true) : ∃ j, 1 ≤ j ∧ j ≤ n ∧ v = nI j := by
  unfold mX12_in at h
  by_cases e : v < 1
  · rw [if_pos e] at h; cases h
  · rw [if_neg e] at h
    by_cases e2 : nI n < v
    · rw [if_pos e2] at h; cases h
    · have h6 : inB v (n + 1) = true := by
        rw [← in_M2 (n := n) (by omega)]
        unfold mX12_in
        rw [if_neg (fun z => e (lt1_le0.mpr (Int32.le_of_lt z))), if_neg e2]
      obtain ⟨j, hj, rfl⟩ := in_nI h6
      refine ⟨j, ?_, by omega, rfl⟩
      rcases Nat.eq_zero_or_pos j with rfl | h
      · exact absurd (by decide) e
      · exact h
theorem s_stretch {x h p m : Nat} {d : Dt} {q : Nat → Int32} {b : Bool} (c : CI x h p m d q b) (v n : Int32) : StQ x h p m d (fun d => mX11_stretch x h p v n d) (fun d => mX12_stretch m v n d) := by
  have c2 := c
  obtain ⟨id, s, -⟩ := c
  have i2 := id
  obtain ⟨j1, j2, j3⟩ := id
  have sr : ∀ t, St x h m (uI d x 9 t) q b := fun t => Ch_St i2 (Ch_x9 x m d t) s
  by_cases e : bndl v (kN q b) = true
  · obtain ⟨rfl, i, h1, hi, rfl⟩ := told_bndl e
    obtain ⟨w, hX, hM⟩ := s.2.2.2 rfl
    have hn := w.n
    have xx : mX11_stretch x h p (nI i) n d = if mX12_in n 1 999 = true then (if inB (nI i) 14 = true then ((mX0_keep (x + 156) 1 (nI i) (d.1 (h + 5) (nI i).toNatClampNeg) d).bind fun x10 => ((mX9_setLength (h + 3) (nI i) n x10).bind fun x12 => some (d.1 (h + 5) (nI i).toNatClampNeg, uI x12 x 9 0))) else none) else some (-1, uI d x 9 2) := by
      unfold mX11_stretch mX12_in
      rw [X_isBundle s, e, if_pos rfl]
      by_cases e1 : n < 1
      · rw [if_pos e1, if_pos e1, if_neg (show ¬ false = true by decide)]; rfl
      · rw [if_neg e1, if_neg e1]
        by_cases e2 : (999 : Int32) < n
        · rw [if_neg (Int32.not_le.mpr e2), if_pos e2, if_neg (show ¬ false = true by decide)]; rfl
        · rw [if_pos (Int32.not_lt.mp e2), if_neg e2, if_pos rfl]; rfl
    by_cases e2 : mX12_in n 1 999 = true
    · obtain ⟨l, hl1, hl, rfl⟩ := in_1k (n := 999) (by omega) e2
      obtain ⟨d0, d1, d2, g1, g2, g3, g4, g5⟩ := stretch_do c2 h1 hi hl1 hl
      refine ⟨d.1 (h + 5) i, uI d1 x 9 0, d2, _, true, ?_, ?_, g4⟩
      · show mX11_stretch x h p (nI i) (nI l) d = _
        rw [xx, if_pos e2, if_pos (inB_nI (by omega) (by decide)), cl_nI (by omega), g1, Option.bind_some, g2, Option.bind_some]
      · show mX12_stretch m (nI i) (nI l) (uI d1 x 9 0) = _
        have eb : mX12_isBundle m (nI i) (uI d1 x 9 0) = some true := by
          rw [show mX12_isBundle m (nI i) (uI d1 x 9 0) = mX12_isBundle m (nI i) d by
            unfold mX12_isBundle mX12_isNode
            rw [dI_ne (by omega), dI_ne (by omega), g5 _ _ (Or.inl rfl), g5 _ _ (Or.inr rfl)], M_isBundle s, e]
        unfold mX12_stretch
        rw [eb, Option.bind_some, if_pos rfl, e2, if_pos rfl]
        unfold mX12_stretch_29
        rw [iR0, if_neg (show ¬ false = true by decide), show (21 : Int32) + nI i = nI (21 + i) by rw [show (21 : Int32) = nI 21 from rfl, nI_add], g3, Option.bind_some]
    · refine Ans_StQ c2 (Ans_ref i2 (-1) 2 (by decide) ?_ ?_)
      · show mX11_stretch x h p (nI i) n d = _
        rw [xx, if_neg e2]
      · show mX12_stretch m (nI i) n (uI d x 9 2) = _
        unfold mX12_stretch
        rw [M_isBundle (sr 2), Option.bind_some, e, if_pos rfl, bf e2, if_neg (show ¬ false = true by decide)]
        unfold mX12_stretch_29
        rw [iR2, if_pos rfl]
  · refine Ans_StQ c2 (Ans_ref i2 (-1) 1 (by decide) ?_ ?_)
    · show mX11_stretch x h p v n d = _
      unfold mX11_stretch
      rw [X_isBundle s, bf e, if_neg (show ¬ false = true by decide)]; rfl
    · show mX12_stretch m v n (uI d x 9 1) = _
      unfold mX12_stretch
      rw [M_isBundle (sr 1), Option.bind_some, bf e, if_neg (show ¬ false = true by decide)]
      unfold mX12_stretch_29
      rw [iR1, if_pos rfl]
