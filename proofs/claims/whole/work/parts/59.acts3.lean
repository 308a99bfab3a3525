/-! acts: the row stays well formed -/
theorem up_cnt {q : Nat → Int32} {A : Nat} {v : Int32} (hA : 21 ≤ A) : nN (upq q A v) = nN q ∧ nO (upq q A v) = nO q ∧ nP (upq q A v) = nP q ∧ nT (upq q A v) = nT q ∧ nB (upq q A v) = nB q := by
  unfold nN nO nP nT nB
  rw [up_ne (by omega), up_ne (by omega), up_ne (by omega), up_ne (by omega), up_ne (by omega)]
  exact ⟨rfl, rfl, rfl, rfl, rfl⟩
theorem WF_hand {q : Nat → Int32} (w : WF q) {i : Nat} {v : Int32} (hi : i < nT q) (hv : v = -2 ∨ ∃ a, a < nN q ∧ v = nI a) : WF (upq q (97 + 16 * i + 5) v) := by
  have hn := w.n
  have ht := w.t
  have hp := w.p
  have hb := w.b
  obtain ⟨c1, c2, c3, c4, c5⟩ := up_cnt (q := q) (A := 97 + 16 * i + 5) (v := v) (by omega)
  have g : ∀ k, k ≠ 97 + 16 * i + 5 → upq q (97 + 16 * i + 5) v k = q k := fun k h => up_ne h
  have hu : ∀ j, j < nN q → uq (upq q (97 + 16 * i + 5) v) j = uq q j := fun j hj => uq_congr (g _ (by omega))
  have hm : ∀ j, many (upq q (97 + 16 * i + 5) v) j = many q j := fun j => by unfold many; rw [g _ (by omega)]
  have hpp : ∀ j k, pp (upq q (97 + 16 * i + 5) v) j k = pp q j k := fun j k => by unfold pp; rw [g _ (by omega)]
  unfold WF
  rw [c1, c2, c3, c4, c5, g 2 (by omega), g 3 (by omega), g 4 (by omega), g 5 (by omega), g 6 (by omega), g 7 (by omega), g 21 (by omega), g 0 (by omega), g 1 (by omega)]
  refine ⟨w.n, w.o, w.p, w.t, w.b, ⟨w.root.1, w.root.2, fun j h1 h2 => ?_⟩, fun j hj => ?_, fun j hj => ?_, fun j hj => ?_, w.sj.1, w.sj.2⟩
  · rw [g _ (by omega), g _ (by omega), g _ (by omega), hu j h2]; exact ⟨w.up h1 h2, w.len h1 h2, w.side h1 h2⟩
  · rw [g _ (by omega), g _ (by omega), g _ (by omega), g _ (by omega), g _ (by omega), g _ (by omega)]; exact w.plug hj
  · obtain ⟨k1, k2, k3, k4, k5, k6⟩ := w.net hj
    rw [g (97 + 16 * j) (by omega), g (97 + 16 * j + 1) (by omega), g (97 + 16 * j + 2) (by omega), g (97 + 16 * j + 3) (by omega), g (97 + 16 * j + 4) (by omega), hm]
    refine ⟨k1, k2, k3, k4, ?_, fun k hk => ?_⟩
    · by_cases e : j = i
      · subst e; rw [up_at]; exact hv
      · rw [g _ (by omega)]; exact k5
    · rw [g _ (by omega), g _ (by omega), hpp]; exact k6 k hk
  · rw [g _ (by omega), g _ (by omega)]; exact w.bld hj
theorem WF_len {q : Nat → Int32} (w : WF q) {i l : Nat} (h1 : 1 ≤ i) (hi : i < nN q) (hl1 : 1 ≤ l) (hl : l ≤ 999) : WF (upq q (21 + i) (nI l)) := by
  have hn := w.n
  have ht := w.t
  have hp := w.p
  have hb := w.b
  obtain ⟨c1, c2, c3, c4, c5⟩ := up_cnt (q := q) (A := 21 + i) (v := nI l) (by omega)
  have g : ∀ k, k ≠ 21 + i → upq q (21 + i) (nI l) k = q k := fun k h => up_ne h
  have hu : ∀ j, j < nN q → uq (upq q (21 + i) (nI l)) j = uq q j := fun j hj => uq_congr (g _ (by omega))
  have hm : ∀ j, many (upq q (21 + i) (nI l)) j = many q j := fun j => by unfold many; rw [g _ (by omega)]
  have hpp : ∀ j k, pp (upq q (21 + i) (nI l)) j k = pp q j k := fun j k => by unfold pp; rw [g _ (by omega)]
  unfold WF
  rw [c1, c2, c3, c4, c5, g 2 (by omega), g 3 (by omega), g 4 (by omega), g 5 (by omega), g 6 (by omega), g 7 (by omega), g 21 (by omega), g 0 (by omega), g 1 (by omega)]
  refine ⟨w.n, w.o, w.p, w.t, w.b, ⟨w.root.1, w.root.2, fun j j1 j2 => ?_⟩, fun j hj => ?_, fun j hj => ?_, fun j hj => ?_, w.sj.1, w.sj.2⟩
  · rw [g (7 + j) (by omega), g (35 + j) (by omega), hu j j2]
    refine ⟨w.up j1 j2, ?_, w.side j1 j2⟩
    by_cases e : j = i
    · subst e; rw [up_at]; exact ⟨l, hl1, hl, rfl⟩
    · rw [g _ (by omega)]; exact w.len j1 j2
  · rw [g _ (by omega), g _ (by omega), g _ (by omega), g _ (by omega), g _ (by omega), g _ (by omega)]; exact w.plug hj
  · obtain ⟨k1, k2, k3, k4, k5, k6⟩ := w.net hj
    rw [g (97 + 16 * j) (by omega), g (97 + 16 * j + 1) (by omega), g (97 + 16 * j + 2) (by omega), g (97 + 16 * j + 3) (by omega), g (97 + 16 * j + 4) (by omega), g (97 + 16 * j + 5) (by omega), hm]
    refine ⟨k1, k2, k3, k4, k5, fun k hk => ?_⟩
    rw [g _ (by omega), g _ (by omega), hpp]; exact k6 k hk
  · rw [g _ (by omega), g _ (by omega)]; exact w.bld hj
/-- the class's rows over the changed row: a hand -/
theorem XR_hand {h : Nat} {d d1 : Dt} {q : Nat → Int32} (x : XR h d q) (w : WF q) {i : Nat} {v : Int32} (hi : i < nT q) (f : ∀ o k, h ≤ o → o < h + 75 → (o ≠ h + 38 ∨ k ≠ i) → d1.1 o k = d.1 o k) (hv : d1.1 (h + 38) i = v) : XR h d1 (upq q (97 + 16 * i + 5) v) := by
  have hn := w.n
  have ht := w.t
  have hp := w.p
  have hb := w.b
  obtain ⟨c1, c2, c3, c4, c5⟩ := up_cnt (q := q) (A := 97 + 16 * i + 5) (v := v) (by omega)
  have g : ∀ k, k ≠ 97 + 16 * i + 5 → upq q (97 + 16 * i + 5) v k = q k := fun k h => up_ne h
  obtain ⟨⟨a1, a2, a3⟩, ⟨b1, b2⟩, ⟨e1, e2⟩, ⟨n1, n2⟩, ⟨u1, u2⟩, td⟩ := x
  refine ⟨⟨?_, ?_, ?_⟩, ⟨?_, fun j hj => ⟨?_, ?_, fun j1 => ?_⟩⟩, ⟨?_, fun j hj k hk => ?_⟩, ⟨?_, fun j hj => ⟨fun k hk => ?_, fun k hk => ⟨?_, ?_, ?_⟩⟩⟩, ⟨?_, fun j hj => ⟨?_, ?_⟩⟩, ?_⟩
  · rw [f _ _ (by omega) (by omega) (by omega), g _ (by omega)]; exact a1
  · rw [f _ _ (by omega) (by omega) (by omega), g _ (by omega)]; exact a2
  · rw [f _ _ (by omega) (by omega) (by omega), g _ (by omega)]; exact a3
  · rw [f _ _ (by omega) (by omega) (by omega), g _ (by omega)]; exact b1
  · rw [c1] at hj; rw [f _ _ (by omega) (by omega) (by omega), g _ (by omega)]; exact (b2 j hj).1
  · rw [c1] at hj; rw [f _ _ (by omega) (by omega) (by omega), g _ (by omega)]; exact (b2 j hj).2.1
  · rw [c1] at hj; rw [f _ _ (by omega) (by omega) (by omega), g _ (by omega)]; exact (b2 j hj).2.2 j1
  · rw [f _ _ (by omega) (by omega) (by omega), g _ (by omega)]; exact e1
  · rw [c3] at hj; rw [f _ _ (by omega) (by omega) (by omega), g _ (by omega)]; exact e2 j hj k hk
  · rw [f _ _ (by omega) (by omega) (by omega), g _ (by omega)]; exact n1
  · rw [c4] at hj
    by_cases e : j = i ∧ k = 5
    · obtain ⟨rfl, rfl⟩ := e; rw [up_at]; exact hv
    · rw [f _ _ (by omega) (by omega) (by omega), g _ (by omega)]; exact (n2 j hj).1 k hk
  · rw [c4] at hj
    have hm : many (upq q (97 + 16 * i + 5) v) j = many q j := by unfold many; rw [g _ (by omega)]
    rw [hm] at hk
    unfold pinA
    have h5 := w.mny hj
    rw [f _ _ (by omega) (by omega) (by omega), g _ (by omega)]; exact ((n2 j hj).2 k hk).1
  · rw [c4] at hj
    have hm : many (upq q (97 + 16 * i + 5) v) j = many q j := by unfold many; rw [g _ (by omega)]
    rw [hm] at hk
    unfold pinB
    have h5 := w.mny hj
    rw [f _ _ (by omega) (by omega) (by omega), g _ (by omega)]; exact ((n2 j hj).2 k hk).2.1
  · rw [c4] at hj
    have hm : many (upq q (97 + 16 * i + 5) v) j = many q j := by unfold many; rw [g _ (by omega)]
    rw [hm] at hk
    have hq := w.pin hj hk
    have e1 : pp (upq q (97 + 16 * i + 5) v) j k = pp q j k := by unfold pp; rw [g _ (by omega)]
    have e2 : pn (upq q (97 + 16 * i + 5) v) j k = pn q j k := by unfold pn; rw [e1, g _ (by omega)]
    rw [e2, f _ _ (by omega) (by omega) (by omega)]; exact ((n2 j hj).2 k hk).2.2
  · rw [f _ _ (by omega) (by omega) (by omega), g _ (by omega)]; exact u1
  · rw [c5] at hj; rw [f _ _ (by omega) (by omega) (by omega), g _ (by omega)]; exact (u2 j hj).1
  · rw [c5] at hj; rw [f _ _ (by omega) (by omega) (by omega), g _ (by omega)]; exact (u2 j hj).2
  · refine XTd_congr w (fun j hj => ?_) c1 (fun j hj => g _ (by omega)) (fun j hj => g _ (by omega)) (fun j hj => g _ (by omega))
    obtain ⟨t1, t2, t3, t4⟩ := td j hj
    refine ⟨by rw [f _ _ (by omega) (by omega) (by omega)]; exact t1, by rw [f _ _ (by omega) (by omega) (by omega)]; exact t2, fun l hl => by rw [f _ _ (by omega) (by omega) (by omega)]; exact t3 l hl, fun l hl => by rw [f _ _ (by omega) (by omega) (by omega)]; exact t4 l hl⟩
