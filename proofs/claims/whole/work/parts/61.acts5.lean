/-! acts: stretch, undo -/
theorem X_setLen {h i l : Nat} {d : Dt} {q : Nat → Int32} (x : XR h d q) (w : WF q) (h1 : 1 ≤ i) (hi : i < nN q) (hl1 : 1 ≤ l) (hl : l ≤ 999) :
    ∃ d1, mX9_setLength (h + 3) (nI i) (nI l) d = some d1 ∧ d1.2 = d.2 ∧ (∀ o k, (o < h + 5 ∨ h + 25 ≤ o) → d1.1 o k = d.1 o k) ∧ XR h d1 (upq q (21 + i) (nI l)) := by
  have hn := w.n
  have ht := w.t
  have hp := w.p
  have hb := w.b
  obtain ⟨c1, c2, c3, c4, c5⟩ := up_cnt (q := q) (A := 21 + i) (v := nI l) (by omega)
  have g : ∀ k, k ≠ 21 + i → upq q (21 + i) (nI l) k = q k := fun k h => up_ne h
  have w' := WF_len w h1 hi hl1 hl
  obtain ⟨⟨a1, a2, a3⟩, ⟨b1, b2⟩, ⟨e1, e2⟩, ⟨n1, n2⟩, ⟨u1, u2⟩, td⟩ := x
  have tr' : XTr (h + 3) (uI d (h + 5) i (nI l)) (upq q (21 + i) (nI l)) := by
    refine ⟨by rw [dI_ne (by omega), g _ (by omega)]; exact b1, fun j hj => ⟨?_, ?_, fun j1 => ?_⟩⟩
    · rw [c1] at hj; rw [dI_ne (by omega), g _ (by omega)]; exact (b2 j hj).1
    · rw [c1] at hj
      by_cases e : j = i
      · subst e; rw [up_at]; exact dI_at _ _ _ _
      · rw [show h + 3 + 2 = h + 5 from rfl, dI_ne (Or.inr e), g _ (by omega)]; exact (b2 j hj).2.1
    · rw [c1] at hj; rw [dI_ne (by omega), g _ (by omega)]; exact (b2 j hj).2.2 j1
  obtain ⟨d1, m1, ⟨m2, m3⟩, m4, m5⟩ := X_measure tr' w'
  have f : ∀ o k, (o < h + 5 ∨ h + 25 ≤ o) → d1.1 o k = d.1 o k := fun o k ho => by rw [m3 o k (by omega), dI_ne (by omega)]
  refine ⟨d1, ?_, m2, f, ⟨?_, ?_, ?_⟩, m4, ⟨?_, fun j hj k hk => ?_⟩, ⟨?_, fun j hj => ⟨fun k hk => ?_, fun k hk => ⟨?_, ?_, ?_⟩⟩⟩, ⟨?_, fun j hj => ⟨?_, ?_⟩⟩, m5⟩
  · unfold mX9_setLength
    rw [if_pos (inB_nI (by omega) (by decide)), cl_nI (by omega), show h + 3 + 2 = h + 5 from rfl, m1]; rfl
  · rw [f _ _ (by omega), g _ (by omega)]; exact a1
  · rw [f _ _ (by omega), g _ (by omega)]; exact a2
  · rw [f _ _ (by omega), g _ (by omega)]; exact a3
  · rw [f _ _ (by omega), g _ (by omega)]; exact e1
  · rw [c3] at hj; rw [f _ _ (by omega), g _ (by omega)]; exact e2 j hj k hk
  · rw [f _ _ (by omega), g _ (by omega)]; exact n1
  · rw [c4] at hj; rw [f _ _ (by omega), g _ (by omega)]; exact (n2 j hj).1 k hk
  · rw [c4] at hj
    have hm : many (upq q (21 + i) (nI l)) j = many q j := by unfold many; rw [g _ (by omega)]
    rw [hm] at hk
    unfold pinA
    rw [f _ _ (by omega), g _ (by omega)]; exact ((n2 j hj).2 k hk).1
  · rw [c4] at hj
    have hm : many (upq q (21 + i) (nI l)) j = many q j := by unfold many; rw [g _ (by omega)]
    rw [hm] at hk
    unfold pinB
    rw [f _ _ (by omega), g _ (by omega)]; exact ((n2 j hj).2 k hk).2.1
  · rw [c4] at hj
    have hm : many (upq q (21 + i) (nI l)) j = many q j := by unfold many; rw [g _ (by omega)]
    rw [hm] at hk
    have e1 : pp (upq q (21 + i) (nI l)) j k = pp q j k := by unfold pp; rw [g _ (by omega)]
    have e2 : pn (upq q (21 + i) (nI l)) j k = pn q j k := by unfold pn; rw [e1, g _ (by omega)]
    rw [e2, f _ _ (by omega)]; exact ((n2 j hj).2 k hk).2.2
  · rw [f _ _ (by omega), g _ (by omega)]; exact u1
  · rw [c5] at hj; rw [f _ _ (by omega), g _ (by omega)]; exact (u2 j hj).1
  · rw [c5] at hj; rw [f _ _ (by omega), g _ (by omega)]; exact (u2 j hj).2
theorem stretch_do {x h p m i l : Nat} {d : Dt} {q : Nat → Int32} (c : CI x h p m d q true) (h1 : 1 ≤ i) (hi : i < nN q) (hl1 : 1 ≤ l) (hl : l ≤ 999) :
    ∃ d0 d1 d2, mX0_keep (x + 156) 1 (nI i) (d.1 (h + 5) i) d = some d0 ∧ mX9_setLength (h + 3) (nI i) (nI l) d0 = some d1 ∧ mX12_changes m (nI (21 + i)) (nI l) (rf m 0 (uI d1 x 9 0)) = some (d.1 (h + 5) i, d2) ∧ CI x h p m d2 (upq q (21 + i) (nI l)) true ∧ ∀ o k, o = m ∨ o = m + 2 → d1.1 o k = d.1 o k := by
  have c2 := c
  obtain ⟨id, s, -, e10, -, -, -, ⟨k, a1, a2, a3, -, a5⟩⟩ := c
  have i2 := id
  obtain ⟨j1, j2, j3⟩ := id
  obtain ⟨w, hX, hM⟩ := s.2.2.2 rfl
  have hn := w.n
  have ht := w.t
  obtain ⟨d0, b1, b2, b3, b4, b5, b6⟩ := X_keepA (a := x + 156) 1 (nI i) (d.1 (h + 5) i) a1 a2
  have hX0 : XR h d0 q := XR_congr hX (fun o k h1 h2 => b3 o k (by omega) (by omega) (by omega) (by omega)) w
  obtain ⟨d1, l1, l2, l3, l4⟩ := X_setLen hX0 w h1 hi hl1 hl
  obtain ⟨dd, hdd⟩ : ∃ dd, dd = rf m 0 (uI d1 x 9 0) := ⟨_, rfl⟩
  have gr : ∀ o k, o ≠ m → ¬ (o = x ∧ k = 9) → ¬ (h + 5 ≤ o ∧ o < h + 25) → dd.1 o k = d0.1 o k := fun o k h1 h2 h3 => by rw [hdd, rf_o h1, dI_ne (by omega), l3 o k (by omega)]
  have gd : ∀ o k, o ≠ m → ¬ (o = x ∧ k = 9) → ¬ (h + 5 ≤ o ∧ o < h + 25) → ¬ (x + 156 ≤ o ∧ o ≤ x + 159) → dd.1 o k = d.1 o k := fun o k h1 h2 h3 h4 => by rw [gr o k h1 h2 h3, b3 o k (by omega) (by omega) (by omega) (by omega)]
  have gm : ∀ k, k ≠ 0 ∧ k ≠ 1 ∧ k ≠ 3 → dd.1 m k = d.1 m k := fun k hk => by rw [hdd, rf_k hk, dI_ne (by omega), l3 _ _ (by omega), b3 _ _ (by omega) (by omega) (by omega) (by omega)]
  have m34 : dd.1 m 34 = nI k := by rw [gm _ (by omega)]; exact a3
  obtain ⟨d2, f1, f2, f3, f4, f5, f6, f7⟩ := M_changes (m := m) (A := 21 + i) (d := dd) (nI l) (by omega) a1 m34
  have was : dd.1 (m + 2) (21 + i) = d.1 (h + 5) i := by
    rw [gd _ _ (by omega) (by omega) (by omega) (by omega), hM _ (by omega)]
    exact (hX.tr.2 i hi).2.1.symm
  have hz : ∃ z, 1 ≤ z ∧ z ≤ 999 ∧ d.1 (h + 5) i = nI z := by
    rw [show d.1 (h + 5) i = q (21 + i) from (hX.tr.2 i hi).2.1]
    exact w.len h1 hi
  refine ⟨d0, d1, d2, b1, l1, by rw [← hdd, f1, was], ?_, fun o k ho => by rw [l3 _ _ (by omega)]; exact b3 o k (by omega) (by omega) (by omega) (by omega)⟩
  obtain ⟨cn, -, -, ct, -⟩ := up_cnt (q := q) (A := 21 + i) (v := nI l) (by omega)
  have t2 : d2.1 x 9 = 0 := by rw [f3 _ _ (by omega) (by omega) (by omega) (by omega), hdd, rf_o (by omega), dI_at]
  have t3 : d2.1 m 1 = 0 := by rw [f3 _ _ (by omega) (by omega) (by omega) (by omega), hdd, rf_m1]
  refine CI_new c2 ?_ (fun o k h1 h2 h3 h4 h5 h6 => ?_) (WF_len w h1 hi hl1 hl) (XR_congr l4 (fun o k h1 h2 => ?_) (WF_len w h1 hi hl1 hl)) (fun k hk => ?_) (t2.trans t3.symm) (by rw [t2]; decide) ?_
  · rw [f2, hdd]; exact l2.trans b2
  · rw [f3 o k (by omega) (by omega) (by omega) (by omega)]
    by_cases e : o = m
    · subst e; exact gm _ (by omega)
    · exact gd o k e h1 (by omega) (by omega)
  · rw [f3 o k (by omega) (by omega) (by omega) (by omega), hdd, rf_o (by omega), dI_ne (by omega)]
  · by_cases e : k = 21 + i
    · subst e; rw [up_at]; exact f5
    · rw [up_ne e, f3 _ _ (by omega) (by omega) (by omega) (by omega), gd _ _ (by omega) (by omega) (by omega) (by omega)]; exact hM k hk
  · refine Acs_push (d := d) (s := 1) (w := nI i) (z := d.1 (h + 5) i) (a := nI (21 + i)) (u := d.1 (h + 5) i) cn ct a1 a5 ?_ f4 ⟨?_, ?_, ?_⟩ ⟨f6.1, f6.2.trans was⟩ (fun j hj => ⟨?_, ?_, ?_⟩) (fun j hj => ⟨?_, ?_⟩) ⟨rfl, Or.inl ⟨rfl, i, h1, hi, rfl, rfl, hz⟩⟩
    · rw [f3 _ _ (by omega) (by omega) (by omega) (by omega), gr _ _ (by omega) (by omega) (by omega)]; exact b4
    · rw [f3 _ _ (by omega) (by omega) (by omega) (by omega), gr _ _ (by omega) (by omega) (by omega)]; exact b5.1
    · rw [f3 _ _ (by omega) (by omega) (by omega) (by omega), gr _ _ (by omega) (by omega) (by omega)]; exact b5.2.1
    · rw [f3 _ _ (by omega) (by omega) (by omega) (by omega), gr _ _ (by omega) (by omega) (by omega)]; exact b5.2.2
    · rw [f3 _ _ (by omega) (by omega) (by omega) (by omega), gr _ _ (by omega) (by omega) (by omega)]; exact (b6 j hj).1
    · rw [f3 _ _ (by omega) (by omega) (by omega) (by omega), gr _ _ (by omega) (by omega) (by omega)]; exact (b6 j hj).2.1
    · rw [f3 _ _ (by omega) (by omega) (by omega) (by omega), gr _ _ (by omega) (by omega) (by omega)]; exact (b6 j hj).2.2
    · rw [(f7 j hj).1, gd _ _ (by omega) (by omega) (by omega) (by omega)]
    · rw [(f7 j hj).2, gd _ _ (by omega) (by omega) (by omega) (by omega)]
