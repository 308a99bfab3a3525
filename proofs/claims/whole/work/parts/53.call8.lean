/-! the calls, 8: families, groups, group -/
theorem XFr_Ch {x h p m : Nat} {a b : Dt} (id : Ids x h p m) (f : XFr (x + 163) a b) : Ch x m a b := ⟨f.1, fun o k _ h2 _ _ => f.2 o k (by omega) (by omega) (by omega) (by omega)⟩
theorem MFm_Ch {x h p m : Nat} {a b : Dt} (id : Ids x h p m) (f : MFm m a b) : Ch x m a b := ⟨f.1, fun o k _ _ h3 h4 => f.2 o k (by omega) (by omega) (by omega)⟩
theorem fc_eq (x h p : Nat) (k : Int32) : mX11_isFamilyCount x h p k = mX12_in k 1 5 := rfl
theorem fc_nI {k : Int32} (h : mX12_in k 1 5 = true) : ∃ j, 1 ≤ j ∧ j ≤ 5 ∧ k = nI j := by
  unfold mX12_in at h
  by_cases e : k < 1
  · rw [if_pos e] at h; cases h
  · rw [if_neg e] at h
    by_cases e2 : (5 : Int32) < k
    · rw [if_pos e2] at h; cases h
    · have h6 : inB k 6 = true := by
        rw [← in_M2 (n := 5) (by omega)]
        unfold mX12_in
        rw [if_neg (fun z => e (lt1_le0.mpr (Int32.le_of_lt z))), if_neg (show ¬ nI 5 < k from e2)]
      obtain ⟨j, hj, rfl⟩ := in_nI h6
      refine ⟨j, ?_, by omega, rfl⟩
      rcases Nat.eq_zero_or_pos j with rfl | h
      · exact absurd (by decide) e
      · exact h
def whyF (q : Nat → Int32) (b : Bool) (k : Int32) : Int32 := if b = true then (if mX12_in k 1 5 = true then (if nB q = 0 then 5 else 0) else 2) else 1
theorem X_whyF {x h p m : Nat} {d : Dt} {q : Nat → Int32} {b : Bool} (s : St x h m d q b) (k : Int32) : mX11_troubleOfFamilies x h p k d = whyF q b k := by
  unfold mX11_troubleOfFamilies whyF
  rw [s.1, fc_eq]
  cases b
  · rfl
  · obtain ⟨w, hX, -⟩ := s.2.2.2 rfl
    have hb := w.b
    rw [if_neg (show ¬ b2i true = 0 by decide), if_pos rfl, show d.1 (h + 72) 0 = nI (nB q) from hX.bu.1.trans hb.1]
    by_cases e : nB q = 0
    · rw [if_pos (show nI (nB q) = 0 by rw [e]; rfl), if_pos e]
    · rw [if_neg (show ¬ nI (nB q) = 0 from fun z => e (nI_inj (b := 0) (by omega) (by omega) z)), if_neg e]
theorem M_whyF {x h m : Nat} {d : Dt} {q : Nat → Int32} {b : Bool} (s : St x h m d q b) (k : Int32) : mX12_familiesWhy m k d = some (whyF q b k) := by
  unfold mX12_familiesWhy whyF
  rw [s.2.1]
  cases b
  · rfl
  · obtain ⟨w, -, hM⟩ := s.2.2.2 rfl
    have hb := w.b
    rw [if_neg (show ¬ b2i true = 0 by decide), if_pos rfl, if_pos ib6, row6 hM, hb.1]
    by_cases e1 : mX12_in k 1 5 = true
    · rw [if_pos e1, if_pos e1]
      by_cases e : nB q = 0
      · rw [if_pos (show nI (nB q) = 0 by rw [e]; rfl), if_pos e]
      · rw [if_neg (show ¬ nI (nB q) = 0 from fun z => e (nI_inj (b := 0) (by omega) (by omega) z)), if_neg e]
    · rw [if_neg e1, if_neg e1]
theorem whyF_ne {q : Nat → Int32} {b : Bool} {k : Int32} : whyF q b k ≠ 4 := by
  unfold whyF
  split
  · split
    · split <;> decide
    · decide
  · decide
theorem whyF_0 {q : Nat → Int32} {b : Bool} {k : Int32} (h : whyF q b k = 0) : b = true ∧ mX12_in k 1 5 = true ∧ 1 ≤ nB q := by
  unfold whyF at h
  by_cases e : b = true
  · rw [if_pos e] at h
    by_cases e2 : mX12_in k 1 5 = true
    · rw [if_pos e2] at h
      by_cases e3 : nB q = 0
      · rw [if_pos e3] at h; exact absurd h (by decide)
      · exact ⟨e, e2, by omega⟩
    · rw [if_neg e2] at h; exact absurd h (by decide)
  · rw [if_neg e] at h; exact absurd h (by decide)
theorem q_families {x h p m : Nat} {d : Dt} {q : Nat → Int32} {b : Bool} (id : Ids x h p m) (s : St x h m d q b) (k : Int32) : Ans x m d (fun d => mX11_families x h p k d) (fun d => mX12_families m k d) := by
  have i2 := id
  obtain ⟨j1, j2, j3⟩ := id
  by_cases e : whyF q b k = 0
  · obtain ⟨rfl, hk, hB⟩ := whyF_0 e
    obtain ⟨k, hk1, hk5, rfl⟩ := fc_nI hk
    obtain ⟨w, hX, hM⟩ := s.2.2.2 rfl
    obtain ⟨z, l, hl, ⟨d1, a1, a2, a3, a4⟩, -⟩ := fam_all (fm := x + 163) (k := k) hX hM w (by omega) hB hk1 hk5
    have c1 := XFr_Ch i2 a2
    obtain ⟨z', l', hl', ⟨d1', a1', -, a3', a4'⟩, d3, e1, e2, e3, e4, e5⟩ := fam_all (fm := x + 163) (k := k) hX (MRr i2 (Ch_tr c1 (Ch_x9 x m d1 0)) hM) w (by omega) hB hk1 hk5
    have ed : d1' = d1 := Option.some.inj (a1'.symm.trans a1)
    subst ed
    have ez : z' = z := a3'.symm.trans a3
    subst ez
    refine Ans_ok i2 z' c1 ?_ (d2 := d3) ?_ (MFm_Ch i2 e2) (by rw [e2.2 _ _ (by omega) (by omega) (by omega), rf_o (by omega), dI_at]) (by rw [e2.2 _ _ (by omega) (by omega) (by omega), rf_m1])
    · show mX11_families x h p (nI k) d = _
      unfold mX11_families
      rw [X_whyF s, e, if_pos rfl, a1, Option.bind_some, a3]; rfl
    · show mX12_families m (nI k) (uI d1' x 9 0) = _
      unfold mX12_families
      rw [M_whyF (Ch_St i2 (Ch_tr c1 (Ch_x9 x m d1' 0)) s), Option.bind_some, e, iR0, if_neg (show ¬ false = true by decide), e1, Option.bind_some, e3]
  · refine Ans_ref i2 (-1) (whyF q b k) whyF_ne ?_ ?_
    · show mX11_families x h p k d = _
      unfold mX11_families
      rw [X_whyF s, if_neg e]; rfl
    · show mX12_families m k (uI d x 9 (whyF q b k)) = _
      unfold mX12_families
      rw [M_whyF (Ch_St i2 (Ch_x9 x m d _) s), Option.bind_some, iR _ e, if_pos rfl]
theorem q_groups {x h p m : Nat} {d : Dt} {q : Nat → Int32} {b : Bool} (id : Ids x h p m) (s : St x h m d q b) (k : Int32) : Ans x m d (fun d => mX11_groups x h p k d) (fun d => mX12_groups m k d) := by
  have i2 := id
  obtain ⟨j1, j2, j3⟩ := id
  by_cases e : whyF q b k = 0
  · obtain ⟨rfl, hk, hB⟩ := whyF_0 e
    obtain ⟨k, hk1, hk5, rfl⟩ := fc_nI hk
    obtain ⟨w, hX, hM⟩ := s.2.2.2 rfl
    have hb := w.b
    obtain ⟨z, l, hl, ⟨d1, a1, a2, a3, a4⟩, -⟩ := fam_all (fm := x + 163) (k := k) hX hM w (by omega) hB hk1 hk5
    have c1 := XFr_Ch i2 a2
    obtain ⟨z', l', hl', ⟨d1', a1', -, a3', a4'⟩, d3, e1, e2, e3, e4, e5⟩ := fam_all (fm := x + 163) (k := k) hX (MRr i2 (Ch_tr c1 (Ch_x9 x m d1 0)) hM) w (by omega) hB hk1 hk5
    have ed : d1' = d1 := Option.some.inj (a1'.symm.trans a1)
    subst ed
    refine Ans_ok i2 (nI (gr (lf l') (nB q) + 1)) c1 ?_ (d2 := d3) ?_ (MFm_Ch i2 e2) (by rw [e2.2 _ _ (by omega) (by omega) (by omega), rf_o (by omega), dI_at]) (by rw [e2.2 _ _ (by omega) (by omega) (by omega), rf_m1])
    · show mX11_groups x h p (nI k) d = _
      unfold mX11_groups
      rw [X_whyF s, e, if_pos rfl, a1, Option.bind_some, show d1'.1 (h + 72) 0 = nI (nB q) from (Ch_XR i2 c1 hX w).bu.1.trans hb.1, X_countBest hb.2 hl' a4', Option.bind_some]; rfl
    · show mX12_groups m (nI k) (uI d1' x 9 0) = _
      unfold mX12_groups
      rw [M_whyF (Ch_St i2 (Ch_tr c1 (Ch_x9 x m d1' 0)) s), Option.bind_some, e, iR0, if_neg (show ¬ false = true by decide), e1, Option.bind_some, e4]
  · refine Ans_ref i2 (-1) (whyF q b k) whyF_ne ?_ ?_
    · show mX11_groups x h p k d = _
      unfold mX11_groups
      rw [X_whyF s, if_neg e]; rfl
    · show mX12_groups m k (uI d x 9 (whyF q b k)) = _
      unfold mX12_groups
      rw [M_whyF (Ch_St i2 (Ch_x9 x m d _) s), Option.bind_some, iR _ e, if_pos rfl]
theorem q_group {x h p m : Nat} {d : Dt} {q : Nat → Int32} {b : Bool} (id : Ids x h p m) (s : St x h m d q b) (k v : Int32) : Ans x m d (fun d => mX11_group x h p k v d) (fun d => mX12_group m k v d) := by
  have i2 := id
  obtain ⟨j1, j2, j3⟩ := id
  have sr : ∀ t, St x h m (uI d x 9 t) q b := fun t => Ch_St i2 (Ch_x9 x m d t) s
  by_cases e : inB v (kB q b) = true
  · by_cases e2 : mX12_in k 1 5 = true
    · obtain ⟨rfl, i, hi, rfl⟩ := told_of e
      obtain ⟨k, hk1, hk5, rfl⟩ := fc_nI e2
      obtain ⟨w, hX, hM⟩ := s.2.2.2 rfl
      have hb := w.b
      obtain ⟨z, l, hl, ⟨d1, a1, a2, a3, a4⟩, -⟩ := fam_all (fm := x + 163) (k := k) hX hM w (by omega) (by omega) hk1 hk5
      have c1 := XFr_Ch i2 a2
      obtain ⟨z', l', hl', ⟨d1', a1', -, a3', a4'⟩, d3, e1, e2', e3, e4, e5⟩ := fam_all (fm := x + 163) (k := k) hX (MRr i2 (Ch_tr c1 (Ch_x9 x m d1 0)) hM) w (by omega) (by omega) hk1 hk5
      have ed : d1' = d1 := Option.some.inj (a1'.symm.trans a1)
      subst ed
      refine Ans_ok i2 (nI (lf l' i)) c1 ?_ (d2 := d3) ?_ (MFm_Ch i2 e2') (by rw [e2'.2 _ _ (by omega) (by omega) (by omega), rf_o (by omega), dI_at]) (by rw [e2'.2 _ _ (by omega) (by omega) (by omega), rf_m1])
      · show mX11_group x h p (nI k) (nI i) d = _
        unfold mX11_group
        rw [X_isBuild s, e, if_pos rfl, fc_eq, e2, if_pos rfl, a1, Option.bind_some, if_pos (inB_nI (by omega) (by decide)), cl_nI (by omega), show d1'.1 (x + 166) i = nI (lf l' i) from a4' i hi]; rfl
      · show mX12_group m (nI k) (nI i) (uI d1' x 9 0) = _
        unfold mX12_group
        rw [M_isBuild (Ch_St i2 (Ch_tr c1 (Ch_x9 x m d1' 0)) s), Option.bind_some, e, if_pos rfl, e2, if_pos rfl]
        unfold mX12_group_27
        rw [iR0, if_neg (show ¬ false = true by decide), e1, Option.bind_some, if_pos (inB_nI (by omega) (by decide)), cl_nI (by omega), e5 i hi]
    · refine Ans_ref i2 (-1) 2 (by decide) ?_ ?_
      · show mX11_group x h p k v d = _
        unfold mX11_group
        rw [X_isBuild s, e, if_pos rfl, fc_eq, bf e2, if_neg (show ¬ false = true by decide)]; rfl
      · show mX12_group m k v (uI d x 9 2) = _
        unfold mX12_group
        rw [M_isBuild (sr 2), Option.bind_some, e, if_pos rfl, bf e2, if_neg (show ¬ false = true by decide)]
        unfold mX12_group_27
        rw [iR2, if_pos rfl]
  · refine Ans_ref i2 (-1) 1 (by decide) ?_ ?_
    · show mX11_group x h p k v d = _
      unfold mX11_group
      rw [X_isBuild s, bf e, if_neg (show ¬ false = true by decide)]; rfl
    · show mX12_group m k v (uI d x 9 1) = _
      unfold mX12_group
      rw [M_isBuild (sr 1), Option.bind_some, bf e, if_neg (show ¬ false = true by decide)]
      unfold mX12_group_27
      rw [iR1, if_pos rfl]
