/-! the reference's places -/
def MP (m : Nat) (d : Dt) (q : Nat → Int32) (i : Nat) : Prop := ∀ a, a < i → d.1 (m + 8) a = pos [0, 1, 0, -1] q a ∧ d.1 (m + 9) a = pos [1, 0, -1, 0] q a
def MFr (m : Nat) (d0 d : Dt) : Prop := d.2 = d0.2 ∧ ∀ o k, o ≠ m + 8 → o ≠ m + 9 → d.1 o k = d0.1 o k
theorem MR_fr {m : Nat} {d0 d : Dt} {q : Nat → Int32} (h : MR m d0 q) (f : MFr m d0 d) : MR m d q := fun k hk => by rw [f.2 _ _ (by omega) (by omega)]; exact h k hk
theorem M_laysPlaces {m : Nat} {d : Dt} {q : Nat → Int32} (hM : MR m d q) (w : WF q) : ∃ d1, mX12_laysPlaces m d = some d1 ∧ MFr m d d1 ∧ MP m d1 q (nN q) := by
  have hn := w.n
  unfold mX12_laysPlaces
  rw [if_pos (show inB (0 : Int32) 14 = true by decide), if_pos (show inB (0 : Int32) 14 = true by decide), show (0 : Int32).toNatClampNeg = 0 from rfl]
  obtain ⟨d1, g, ⟨hf, hP⟩, e⟩ := loop_rel (fun n i d => mX12_laysPlaces_16 m n i d) (fun i d1 => MFr m d d1 ∧ 1 ≤ i ∧ MP m d1 q i) (nN q)
    (fun fuel i d1 hi hR => by
      obtain ⟨hf, h1, hP⟩ := hR
      have hM1 := MR_fr hM hf
      have hu := w.up h1 hi
      obtain ⟨s, hs, es⟩ := w.side h1 hi
      have stX := pos_s [0, 1, 0, -1] w h1 hi
      have stY := pos_s [1, 0, -1, 0] w h1 hi
      unfold stp at stX stY
      rw [es] at stX stY
      show ∃ b, _ ∧ mX12_laysPlaces_16 m (fuel + 1) (nI i) d1 = _
      rw [mX12_laysPlaces_16, if_pos ib2, row2 hM1, hn.1, if_neg (nI_ge hi (by omega)), show (7 : Int32) + nI i = nI (7 + i) by rw [show (7 : Int32) = nI 7 from rfl, nI_add], show (21 : Int32) + nI i = nI (21 + i) by rw [show (21 : Int32) = nI 21 from rfl, nI_add], show (35 : Int32) + nI i = nI (35 + i) by rw [show (35 : Int32) = nI 35 from rfl, nI_add]]
      rw [if_pos (inB_nI (by omega) (by decide)), if_pos (inB_nI (by omega) (by decide)), if_pos (inB_nI (by omega) (by decide)), cl_nI (by omega), cl_nI (by omega), cl_nI (by omega), hM1 (7 + i) (by omega), hM1 (21 + i) (by omega), hM1 (35 + i) (by omega), hu.1, if_pos (inB_nI (by omega) (by decide)), cl_nI (by omega), (hP _ hu.2).1, es]
      have tl : ∀ a b : Int32, pos [0, 1, 0, -1] q (uq q i) + a = pos [0, 1, 0, -1] q i → (mX12_laysPlaces_90 (mX12_laysPlaces_16 m fuel) m (nI i) (nI (uq q i)) (q (21 + i)) (nI s) a (pos [0, 1, 0, -1] q (uq q i)) (nI i) (m + 8) d1) = mX12_laysPlaces_16 m fuel (nI (i + 1)) (uI (uI d1 (m + 8) i (pos [0, 1, 0, -1] q i)) (m + 9) i (pos [1, 0, -1, 0] q i)) := by
        intro a _ ha
        unfold mX12_laysPlaces_90
        rw [if_pos (inB_nI (by omega) (by decide)), if_pos (inB_nI (by omega) (by decide)), if_pos (inB_nI (by omega) (by decide)), if_pos (inB_nI (by omega) (by decide)), if_pos (inB_nI (by omega) (by decide)), cl_nI (by omega), cl_nI (by omega), ha, dI_ne (Or.inl (by omega)), (hP _ hu.2).2, nI_1, stY]
        have s4 : s = 0 ∨ s = 1 ∨ s = 2 ∨ s = 3 := by omega
        rcases s4 with rfl | rfl | rfl | rfl
        · rw [if_pos (show nI 0 = 0 from rfl), show ([1, 0, -1, 0] : List Int32).getD (nI 0).toNatClampNeg 0 = 1 from rfl, Int32.one_mul]
        · rw [if_neg (show ¬ nI 1 = 0 by decide), if_neg (show ¬ nI 1 = 2 by decide), show ([1, 0, -1, 0] : List Int32).getD (nI 1).toNatClampNeg 0 = 0 from rfl, Int32.zero_mul]
        · rw [if_neg (show ¬ nI 2 = 0 by decide), if_pos (show nI 2 = 2 from rfl), show ([1, 0, -1, 0] : List Int32).getD (nI 2).toNatClampNeg 0 = -1 from rfl, Int32.neg_mul, Int32.one_mul]
        · rw [if_neg (show ¬ nI 3 = 0 by decide), if_neg (show ¬ nI 3 = 2 by decide), show ([1, 0, -1, 0] : List Int32).getD (nI 3).toNatClampNeg 0 = 0 from rfl, Int32.zero_mul]
      refine ⟨uI (uI d1 (m + 8) i (pos [0, 1, 0, -1] q i)) (m + 9) i (pos [1, 0, -1, 0] q i), ⟨⟨hf.1, fun o k h2 h3 => by rw [dI_ne (Or.inl h3), dI_ne (Or.inl h2)]; exact hf.2 o k h2 h3⟩, by omega, fun a ha => ?_⟩, ?_⟩
      · by_cases ea : a = i
        · subst ea; exact ⟨by rw [dI_ne (Or.inl (by omega)), dI_at], by rw [dI_at]⟩
        · exact ⟨by rw [dI_ne (Or.inl (by omega)), dI_ne (Or.inr ea)]; exact (hP a (by omega)).1, by rw [dI_ne (Or.inr ea), dI_ne (Or.inl (by omega))]; exact (hP a (by omega)).2⟩
      · have s4 : s = 0 ∨ s = 1 ∨ s = 2 ∨ s = 3 := by omega
        rcases s4 with rfl | rfl | rfl | rfl
        · rw [if_neg (show ¬ nI 0 = 1 by decide), if_neg (show ¬ nI 0 = 3 by decide)]
          exact tl 0 0 (by rw [stX, show ([0, 1, 0, -1] : List Int32).getD (nI 0).toNatClampNeg 0 = 0 from rfl, Int32.zero_mul])
        · rw [if_pos (show nI 1 = 1 from rfl)]
          exact tl _ 0 (by rw [stX, show ([0, 1, 0, -1] : List Int32).getD (nI 1).toNatClampNeg 0 = 1 from rfl, Int32.one_mul])
        · rw [if_neg (show ¬ nI 2 = 1 by decide), if_neg (show ¬ nI 2 = 3 by decide)]
          exact tl 0 0 (by rw [stX, show ([0, 1, 0, -1] : List Int32).getD (nI 2).toNatClampNeg 0 = 0 from rfl, Int32.zero_mul])
        · rw [if_neg (show ¬ nI 3 = 1 by decide), if_pos (show nI 3 = 3 from rfl)]
          exact tl _ 0 (by rw [stX, show ([0, 1, 0, -1] : List Int32).getD (nI 3).toNatClampNeg 0 = -1 from rfl, Int32.neg_mul, Int32.one_mul]))
    (nN q - 1) 1 (uI (uI d (m + 8) 0 0) (m + 9) 0 0) FUEL (by omega) ⟨⟨rfl, fun o k h2 h3 => by rw [dI_ne (Or.inl h3), dI_ne (Or.inl h2)]⟩, Nat.le_refl _, fun a ha => by
      obtain rfl : a = 0 := by omega
      exact ⟨by rw [dI_ne (Or.inl (by omega)), dI_at]; rfl, by rw [dI_at]; rfl⟩⟩ (fuel_big (by omega))
  refine ⟨d1, ?_, hf, hP.2⟩
  refine Eq.trans e ?_
  have hM1 := MR_fr hM hf
  show mX12_laysPlaces_16 m (g + 1) (nI (nN q)) d1 = _
  rw [mX12_laysPlaces_16, if_pos ib2, row2 hM1, hn.1, if_pos (Int32.le_refl _)]
