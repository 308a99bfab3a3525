/-! the tree is measured, all of it -/
theorem X_measure {t : Nat} {d : Dt} {q : Nat → Int32} (x : XTr t d q) (w : WF q) : ∃ d1, mX9_measure t d = some d1 ∧ TFr t d d1 ∧ XTr t d1 q ∧ XTd t d1 q := by
  have hn := w.n
  obtain ⟨d1, g, ⟨hf, hU, hO⟩, e⟩ := loop_rel (fun n i d => mX9_measure_2 t n i d) (fun i d1 => TFr t d d1 ∧ TUp t d1 q i ∧ TOwn t d1 i) (nN q)
    (fun fuel i d1 hi hR => by
      obtain ⟨hf, hU, hO⟩ := hR
      have x1 := XTr_fr x hf
      show ∃ b, _ ∧ mX9_measure_2 t (fuel + 1) (nI i) d1 = _
      rw [mX9_measure_2, show d1.1 t 0 = nI (nN q) from x1.1.trans hn.1, if_neg (nI_ge hi (by omega)), if_pos (inB_nI (by omega) (by decide)), if_pos (inB_nI (by omega) (by decide)), if_pos (inB_nI (by omega) (by decide)), if_pos (inB_nI (by omega) (by decide)), if_pos (inB_nI (by omega) (by decide)), if_pos (inB_nI (by omega) (by decide)), cl_nI (by omega), nI_1]
      generalize ed : uI (uI d1 (t + 6) i ((1 : Int32) <<< (nI i &&& 31))) (t + 8 + i) i 0 = d2
      have f2 : ∀ o k, (o ≠ t + 6 ∨ k ≠ i) → (o ≠ t + 8 + i ∨ k ≠ i) → d2.1 o k = d1.1 o k := fun o k a b => by rw [← ed, dI_ne b, dI_ne a]
      have hO2 : TOwn t d2 (i + 1) := fun a ha => by
        by_cases e : a = i
        · subst e; rw [← ed, dI_ne (Or.inl (by omega)), dI_at]
        · rw [f2 _ _ (Or.inr e) (Or.inl (by omega))]; exact hO a (by omega)
      have hz : d2.1 (t + 8 + i) i = 0 := by rw [← ed, dI_at]
      have hf2 : TFr t d d2 := ⟨by rw [← ed]; exact hf.1, fun o k ho => by rw [f2 _ _ (by omega) (by omega)]; exact hf.2 o k ho⟩
      have hU2 : TUp t d2 q i := fun a ha => ⟨by rw [f2 _ _ (by omega) (by omega)]; exact (hU a ha).1, by rw [f2 _ _ (by omega) (by omega)]; exact (hU a ha).2.1, fun b hb => by rw [f2 _ _ (by omega) (by omega)]; exact (hU a ha).2.2 b hb⟩
      rcases Nat.eq_zero_or_pos i with rfl | h1
      · rw [if_pos (show nI 0 = 0 from rfl)]
        refine ⟨_, ⟨⟨?_, fun o k ho => ?_⟩, fun a ha => ?_, fun a ha => ?_⟩, rfl⟩
        · exact hf2.1
        · rw [dI_ne (Or.inl (by omega)), dI_ne (Or.inl (by omega))]; exact hf2.2 o k ho
        · obtain rfl : a = 0 := by omega
          refine ⟨?_, ?_, fun b hb => ?_⟩
          · rw [dI_ne (Or.inl (by omega)), dI_at]; rfl
          · rw [dI_at]; rfl
          · obtain rfl : b = 0 := by omega
            rw [dI_ne (Or.inl (by omega)), dI_ne (Or.inl (by omega)), far_self]; exact hz
        · rw [dI_ne (Or.inl (by omega)), dI_ne (Or.inl (by omega))]; exact hO2 a ha
      · have hu := w.up h1 hi
        rw [if_neg (fun z => by have := nI_inj (b := 0) (by omega) (by omega) z; omega), show d2.1 (t + 1) i = nI (uq q i) from (((XTr_fr x hf2).2 i hi).1).trans hu.1]
        obtain ⟨d3, g1, g2, g3, g4⟩ := X_measureFrom x w hf2 h1 hi hU2 hO2 hz
        rw [g1, Option.bind_some]
        exact ⟨d3, ⟨g2, g3, g4⟩, rfl⟩)
    (nN q) 0 d FUEL (Nat.zero_add _) ⟨⟨rfl, fun _ _ _ => rfl⟩, fun a ha => absurd ha (Nat.not_lt_zero _), fun a ha => absurd ha (Nat.not_lt_zero _)⟩ (fuel_big (by omega))
  have x1 := XTr_fr x hf
  -- what is beyond
  have key : ∀ i fuel d2, i < nN q → i < fuel → TFr t d d2 → TUp t d2 q (nN q) → (∀ a, a < nN q → ∀ j, j < nN q → (bit (d2.1 (t + 6) a) j = true ↔ j = a ∨ ∃ c, i < c ∧ c < nN q ∧ uq q c = a ∧ anc q j c = true)) →
      ∃ d3, mX9_measure_73 t fuel (nI i) d2 = some d3 ∧ TFr t d d3 ∧ TUp t d3 q (nN q) ∧ ∀ a, a < nN q → ∀ j, j < nN q → (bit (d3.1 (t + 6) a) j = true ↔ j = a ∨ ∃ c, 0 < c ∧ c < nN q ∧ uq q c = a ∧ anc q j c = true) := by
    intro i
    induction i with
    | zero =>
      intro fuel d2 _ hfu hf hU hb
      obtain ⟨f, rfl⟩ : ∃ f, fuel = f + 1 := ⟨fuel - 1, by omega⟩
      rw [mX9_measure_73, if_pos (by decide)]
      exact ⟨d2, rfl, hf, hU, hb⟩
    | succ i ih =>
      intro fuel d2 hi hfu hf hU hb
      obtain ⟨f, rfl⟩ : ∃ f, fuel = f + 1 := ⟨fuel - 1, by omega⟩
      have hu := w.up (show 1 ≤ i + 1 by omega) hi
      have hUp : d2.1 (t + 1) (i + 1) = nI (uq q (i + 1)) := (((XTr_fr x hf).2 _ hi).1).trans hu.1
      rw [mX9_measure_73, if_neg (show ¬ nI (i + 1) ≤ 0 from nI_ge (show 0 < i + 1 by omega) (by omega)), if_pos (inB_nI (by omega) (by decide)), cl_nI (by omega), hUp, if_pos (inB_nI (by omega) (by decide)), if_pos (inB_nI (by omega) (by decide)), if_pos (inB_nI (by omega) (by decide)), cl_nI (by omega), pk_m1]
      refine ih f _ (by omega) (by omega) ⟨hf.1, fun o k ho => by rw [dI_ne (Or.inl (by omega))]; exact hf.2 o k ho⟩ (fun a ha => ⟨by rw [dI_ne (Or.inl (by omega))]; exact (hU a ha).1, by rw [dI_ne (Or.inl (by omega))]; exact (hU a ha).2.1, fun b hb => by rw [dI_ne (Or.inl (by omega))]; exact (hU a ha).2.2 b hb⟩) (fun a ha j hj => ?_)
      have hi1 : bit (d2.1 (t + 6) (i + 1)) j = true ↔ anc q j (i + 1) = true := by
        rw [hb _ hi j hj, anc_down w (i + 1) j hj]
        constructor
        · rintro (h | ⟨c, h1, h2, h3, h4⟩)
          · exact Or.inl h
          · exact Or.inr ⟨c, by omega, h2, h3, h4⟩
        · rintro (h | ⟨c, h1, h2, h3, h4⟩)
          · exact Or.inl h
          · have := w.up h1 h2
            exact Or.inr ⟨c, by omega, h2, h3, h4⟩
      by_cases ea : a = uq q (i + 1)
      · subst ea
        rw [dI_at, bit_or, Bool.or_eq_true_iff, hi1, hb _ ha j hj]
        constructor
        · rintro ((h | ⟨c, h1, h2, h3, h4⟩) | h)
          · exact Or.inl h
          · exact Or.inr ⟨c, by omega, h2, h3, h4⟩
          · exact Or.inr ⟨i + 1, by omega, hi, rfl, h⟩
        · rintro (h | ⟨c, h1, h2, h3, h4⟩)
          · exact Or.inl (Or.inl h)
          · by_cases ec : c = i + 1
            · subst ec; exact Or.inr h4
            · exact Or.inl (Or.inr ⟨c, by omega, h2, h3, h4⟩)
      · rw [dI_ne (Or.inr ea), hb _ ha j hj]
        constructor
        · rintro (h | ⟨c, h1, h2, h3, h4⟩)
          · exact Or.inl h
          · exact Or.inr ⟨c, by omega, h2, h3, h4⟩
        · rintro (h | ⟨c, h1, h2, h3, h4⟩)
          · exact Or.inl h
          · by_cases ec : c = i + 1
            · subst ec; exact absurd h3.symm ea
            · exact Or.inr ⟨c, by omega, h2, h3, h4⟩
  obtain ⟨d3, g1, g2, g3, g4⟩ := key (nN q - 1) FUEL d1 (by omega) (Nat.lt_of_lt_of_le (show nN q - 1 < 1000000 by omega) (Nat.le_refl _)) hf hU (fun a ha j hj => by
    rw [hO a ha, bit_shl1 (by omega) (by omega), decide_eq_true_iff]
    constructor
    · intro h; exact Or.inl h.symm
    · rintro (h | ⟨c, h1, h2, -, -⟩)
      · exact h.symm
      · omega)
  refine ⟨d3, ?_, g2, XTr_fr x g2, fun i hi => ⟨(g3 i hi).1, (g3 i hi).2.1, fun j hj => ?_, (g3 i hi).2.2⟩⟩
  · unfold mX9_measure
    refine Eq.trans e ?_
    show mX9_measure_2 t (g + 1) (nI (nN q)) d1 = _
    rw [mX9_measure_2, show d1.1 t 0 = nI (nN q) from x1.1.trans hn.1, if_pos (Int32.le_refl _), show (1 : Int32) = nI 1 from rfl, nI_sub hn.2.1]
    exact g1
  · have h1 := g4 i hi j hj
    have h2 := anc_down w i j hj
    rw [Bool.eq_iff_iff]
    exact h1.trans h2.symm
