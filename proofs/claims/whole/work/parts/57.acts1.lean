/-! about; acts: keeping and dropping on both sides -/
theorem seven {α : Type} {k : Nat} (hk : k < 7) (c0 c1 c2 c3 c4 c5 c6 z : α) : (if nI k = 0 then c0 else if nI k = 1 then c1 else if nI k = 2 then c2 else if nI k = 3 then c3 else if nI k = 4 then c4 else if nI k = 5 then c5 else if nI k = 6 then c6 else z) = if k = 0 then c0 else if k = 1 then c1 else if k = 2 then c2 else if k = 3 then c3 else if k = 4 then c4 else if k = 5 then c5 else c6 := by
  have : k = 0 ∨ k = 1 ∨ k = 2 ∨ k = 3 ∨ k = 4 ∨ k = 5 ∨ k = 6 := by omega
  rcases this with rfl | rfl | rfl | rfl | rfl | rfl | rfl <;> rfl
theorem q_about {x h p m : Nat} {d : Dt} {q : Nat → Int32} {b : Bool} (id : Ids x h p m) (s : St x h m d q b) (v : Int32) : Ans x m d (fun d => some (mX11_about x h p v d)) (fun d => mX12_about m v d) := by
  have i2 := id
  obtain ⟨j1, j2, j3⟩ := id
  have sr : ∀ t, St x h m (uI d x 9 t) q b := fun t => Ch_St i2 (Ch_x9 x m d t) s
  have hin : mX12_in v 0 6 = inB v 7 := in_M2 (n := 6) (by omega)
  have t0 : mX12_about_23 m v 0 m (uI d x 9 1) = some (-1, rf m 1 (uI d x 9 1)) := by unfold mX12_about_23; rw [un0, iR1, if_pos rfl]
  cases b
  · refine Ans_ref i2 (-1) 1 (by decide) ?_ ?_
    · show some (mX11_about x h p v d) = _
      unfold mX11_about
      rw [s.1, if_pos b2i_0]; rfl
    · show mX12_about m v (uI d x 9 1) = _
      unfold mX12_about
      rw [(sr 1).2.1, if_pos b2i_0, t0]
  · obtain ⟨w, hX, hM⟩ := s.2.2.2 rfl
    by_cases e : inB v 7 = true
    · obtain ⟨k, hk, rfl⟩ := in_nI e
      have hM0 : MR m (rf m 0 (uI d x 9 0)) q := MRr i2 (Ch_x9 x m d 0) hM
      refine Ans_val i2 (q k) ?_ ?_
      · show some (mX11_about x h p (nI k) d) = _
        unfold mX11_about
        rw [s.1, if_neg (show ¬ b2i true = 0 by decide), seven hk]
        have e0 : d.1 h 0 = q 0 := hX.1.1
        have e1 : d.1 h 1 = q 1 := hX.1.2.1
        have e3 : d.1 h 2 = q 3 := hX.1.2.2
        have e2 : d.1 (h + 3) 0 = q 2 := hX.tr.1
        have e4 : d.1 (h + 25) 0 = q 4 := hX.pl.1
        have e5 : d.1 (h + 32) 0 = q 5 := hX.ne.1
        have e6 : d.1 (h + 72) 0 = q 6 := hX.bu.1
        have : k = 0 ∨ k = 1 ∨ k = 2 ∨ k = 3 ∨ k = 4 ∨ k = 5 ∨ k = 6 := by omega
        rcases this with rfl | rfl | rfl | rfl | rfl | rfl | rfl
        · exact congrArg (fun z => some (z, uI d x 9 0)) e0
        · exact congrArg (fun z => some (z, uI d x 9 0)) e1
        · exact congrArg (fun z => some (z, uI d x 9 0)) e2
        · exact congrArg (fun z => some (z, uI d x 9 0)) e3
        · exact congrArg (fun z => some (z, uI d x 9 0)) e4
        · exact congrArg (fun z => some (z, uI d x 9 0)) e5
        · exact congrArg (fun z => some (z, uI d x 9 0)) e6
      · show mX12_about m (nI k) (uI d x 9 0) = _
        unfold mX12_about
        rw [(sr 0).2.1, if_neg (show ¬ b2i true = 0 by decide), hin, e, if_pos rfl]
        unfold mX12_about_23
        rw [un1, iR0, if_neg (show ¬ false = true by decide), if_pos (inB_nI (by omega) (by decide)), cl_nI (by omega), hM0 _ (by omega)]
    · have e := bf e
      refine Ans_ref i2 (-1) 1 (by decide) ?_ ?_
      · show some (mX11_about x h p v d) = _
        unfold mX11_about
        rw [s.1, if_neg (show ¬ b2i true = 0 by decide), if_neg (show ¬ v = 0 from out_ne (j := 0) e (by omega) (by omega)), if_neg (show ¬ v = 1 from out_ne (j := 1) e (by omega) (by omega)), if_neg (show ¬ v = 2 from out_ne (j := 2) e (by omega) (by omega)), if_neg (show ¬ v = 3 from out_ne (j := 3) e (by omega) (by omega)), if_neg (show ¬ v = 4 from out_ne (j := 4) e (by omega) (by omega)), if_neg (show ¬ v = 5 from out_ne (j := 5) e (by omega) (by omega)), if_neg (show ¬ v = 6 from out_ne (j := 6) e (by omega) (by omega))]; rfl
      · show mX12_about m v (uI d x 9 1) = _
        unfold mX12_about
        rw [(sr 1).2.1, if_neg (show ¬ b2i true = 0 by decide), hin, e, if_neg (show ¬ false = true by decide), t0]
/-- where a new act goes, and how far the old ones move -/
def aE (c : Nat) : Nat := if c < 10 then c else 9
def aS (c : Nat) : Nat := if c < 10 then 0 else 1
theorem X_drop {a : Nat} {d : Dt} : ∃ d1, mX0_dropOldest a d = some d1 ∧ d1.2 = d.2 ∧ (∀ o k, o ≠ a + 1 → o ≠ a + 2 → o ≠ a + 3 → (o ≠ a ∨ k ≠ 0) → d1.1 o k = d.1 o k) ∧ d1.1 a 0 = 9 ∧ ∀ j, j < 9 → d1.1 (a + 1) j = d.1 (a + 1) (j + 1) ∧ d1.1 (a + 2) j = d.1 (a + 2) (j + 1) ∧ d1.1 (a + 3) j = d.1 (a + 3) (j + 1) := by
  obtain ⟨d1, g, ⟨r1, r2, r3⟩, e⟩ := loop_rel (fun n i d => mX0_dropOldest_2 a n i d)
    (fun i d1 => d1.2 = d.2 ∧ (∀ o k, o ≠ a + 1 → o ≠ a + 2 → o ≠ a + 3 → d1.1 o k = d.1 o k) ∧ 1 ≤ i ∧ (∀ j, j + 1 < i → d1.1 (a + 1) j = d.1 (a + 1) (j + 1) ∧ d1.1 (a + 2) j = d.1 (a + 2) (j + 1) ∧ d1.1 (a + 3) j = d.1 (a + 3) (j + 1)) ∧ ∀ j, i ≤ j → d1.1 (a + 1) j = d.1 (a + 1) j ∧ d1.1 (a + 2) j = d.1 (a + 2) j ∧ d1.1 (a + 3) j = d.1 (a + 3) j) 10
    (fun fuel i d1 hi hR => by
      obtain ⟨r1, r2, r0, r3, r4⟩ := hR
      have em : nI i - (1 : Int32) = nI (i - 1) := by rw [show (1 : Int32) = nI 1 from rfl, nI_sub r0]
      obtain ⟨s1, s2, s3⟩ := r4 i (Nat.le_refl _)
      show ∃ b, _ ∧ mX0_dropOldest_2 a (fuel + 1) (nI i) d1 = _
      rw [mX0_dropOldest_2, if_neg (show ¬ (10 : Int32) ≤ nI i from nI_ge hi (by decide)), em, if_pos (inB_nI (by omega) (by decide)), if_pos (inB_nI (by omega) (by decide)), if_pos (inB_nI (by omega) (by decide)), if_pos (inB_nI (by omega) (by decide)), if_pos (inB_nI (by omega) (by decide)), if_pos (inB_nI (by omega) (by decide)), cl_nI (by omega), cl_nI (by omega), nI_1]
      rw [dI_ne (Or.inl (show a + 2 ≠ a + 1 by omega)), dI_ne (Or.inl (show a + 3 ≠ a + 2 by omega)), dI_ne (Or.inl (show a + 3 ≠ a + 1 by omega)), s1, s2, s3]
      refine ⟨_, ⟨?_, fun o k h1 h2 h3 => ?_, by omega, fun j hj => ?_, fun j hj => ?_⟩, rfl⟩
      · exact r1
      · rw [dI_ne (Or.inl h3), dI_ne (Or.inl h2), dI_ne (Or.inl h1)]; exact r2 o k h1 h2 h3
      · by_cases ej : j = i - 1
        · subst ej
          refine ⟨?_, ?_, ?_⟩
          · rw [dI_ne (Or.inl (by omega)), dI_ne (Or.inl (by omega)), dI_at, show i - 1 + 1 = i by omega]
          · rw [dI_ne (Or.inl (by omega)), dI_at, show i - 1 + 1 = i by omega]
          · rw [dI_at, show i - 1 + 1 = i by omega]
        · obtain ⟨q1, q2, q3⟩ := r3 j (by omega)
          refine ⟨?_, ?_, ?_⟩
          · rw [dI_ne (Or.inl (by omega)), dI_ne (Or.inl (by omega)), dI_ne (Or.inr ej)]; exact q1
          · rw [dI_ne (Or.inl (by omega)), dI_ne (Or.inr ej), dI_ne (Or.inl (by omega))]; exact q2
          · rw [dI_ne (Or.inr ej), dI_ne (Or.inl (by omega)), dI_ne (Or.inl (by omega))]; exact q3
      · obtain ⟨q1, q2, q3⟩ := r4 j (by omega)
        refine ⟨?_, ?_, ?_⟩
        · rw [dI_ne (Or.inl (by omega)), dI_ne (Or.inl (by omega)), dI_ne (Or.inr (by omega))]; exact q1
        · rw [dI_ne (Or.inl (by omega)), dI_ne (Or.inr (by omega)), dI_ne (Or.inl (by omega))]; exact q2
        · rw [dI_ne (Or.inr (by omega)), dI_ne (Or.inl (by omega)), dI_ne (Or.inl (by omega))]; exact q3)
    9 1 d FUEL rfl ⟨rfl, fun _ _ _ _ _ => rfl, Nat.le_refl _, fun j hj => absurd hj (by omega), fun j _ => ⟨rfl, rfl, rfl⟩⟩ (fuel_big (by omega))
  refine ⟨uI d1 a 0 9, ?_, r1, fun o k h1 h2 h3 h4 => by rw [dI_ne h4]; exact r2 o k h1 h2 h3, dI_at _ _ _ _, fun j hj => ?_⟩
  · refine Eq.trans e ?_
    show mX0_dropOldest_2 a (g + 1) (nI 10) d1 = _
    rw [mX0_dropOldest_2, if_pos (by decide)]
  · obtain ⟨q1, q2, q3⟩ := r3.2.1 j (by omega)
    exact ⟨by rw [dI_ne (Or.inl (by omega))]; exact q1, by rw [dI_ne (Or.inl (by omega))]; exact q2, by rw [dI_ne (Or.inl (by omega))]; exact q3⟩
theorem X_keep1 {a : Nat} {d : Dt} {c : Nat} (s w z : Int32) (hc : c < 10) (h : d.1 a 0 = nI c) : ∃ d1, mX0_keep_13 a s w z d = some d1 ∧ d1.2 = d.2 ∧ (∀ o k, o ≠ a + 1 → o ≠ a + 2 → o ≠ a + 3 → (o ≠ a ∨ k ≠ 0) → d1.1 o k = d.1 o k) ∧ d1.1 a 0 = nI (c + 1) ∧ (d1.1 (a + 1) c = s ∧ d1.1 (a + 2) c = w ∧ d1.1 (a + 3) c = z) ∧ ∀ j, j ≠ c → d1.1 (a + 1) j = d.1 (a + 1) j ∧ d1.1 (a + 2) j = d.1 (a + 2) j ∧ d1.1 (a + 3) j = d.1 (a + 3) j := by
  refine ⟨uI (uI (uI (uI d (a + 1) c s) (a + 2) c w) (a + 3) c z) a 0 (nI (c + 1)), ?_, ?_, fun o k h1 h2 h3 h4 => ?_, ?_, ⟨?_, ?_, ?_⟩, fun j hj => ⟨?_, ?_, ?_⟩⟩
  · unfold mX0_keep_13
    rw [dI_ne (Or.inl (show a ≠ a + 3 by omega)), dI_ne (Or.inl (show a ≠ a + 2 by omega)), dI_ne (Or.inl (show a ≠ a + 1 by omega)), h, if_pos (inB_nI (by omega) (by decide)), if_pos (inB_nI (by omega) (by decide)), if_pos (inB_nI (by omega) (by decide)), cl_nI (by omega), nI_1]
  · rfl
  · rw [dI_ne h4, dI_ne (Or.inl h3), dI_ne (Or.inl h2), dI_ne (Or.inl h1)]
  · rw [dI_at]
  · rw [dI_ne (Or.inl (by omega)), dI_ne (Or.inl (by omega)), dI_ne (Or.inl (by omega)), dI_at]
  · rw [dI_ne (Or.inl (by omega)), dI_ne (Or.inl (by omega)), dI_at]
  · rw [dI_ne (Or.inl (by omega)), dI_at]
  · rw [dI_ne (Or.inl (by omega)), dI_ne (Or.inl (by omega)), dI_ne (Or.inl (by omega)), dI_ne (Or.inr hj)]
  · rw [dI_ne (Or.inl (by omega)), dI_ne (Or.inl (by omega)), dI_ne (Or.inr hj), dI_ne (Or.inl (by omega))]
  · rw [dI_ne (Or.inl (by omega)), dI_ne (Or.inr hj), dI_ne (Or.inl (by omega)), dI_ne (Or.inl (by omega))]
theorem X_keepA {a : Nat} {d : Dt} {c : Nat} (s w z : Int32) (hc : c ≤ 10) (h : d.1 a 0 = nI c) : ∃ d1, mX0_keep a s w z d = some d1 ∧ d1.2 = d.2 ∧ (∀ o k, o ≠ a + 1 → o ≠ a + 2 → o ≠ a + 3 → (o ≠ a ∨ k ≠ 0) → d1.1 o k = d.1 o k) ∧ d1.1 a 0 = nI (aE c + 1) ∧ (d1.1 (a + 1) (aE c) = s ∧ d1.1 (a + 2) (aE c) = w ∧ d1.1 (a + 3) (aE c) = z) ∧ ∀ j, j < aE c → d1.1 (a + 1) j = d.1 (a + 1) (j + aS c) ∧ d1.1 (a + 2) j = d.1 (a + 2) (j + aS c) ∧ d1.1 (a + 3) j = d.1 (a + 3) (j + aS c) := by
  unfold mX0_keep aE aS
  by_cases e : c < 10
  · rw [if_pos e, if_pos e, h, if_pos (show nI c < 10 from (nI_ltI (b := 10) (by omega) (by omega)).mpr e)]
    obtain ⟨d1, a1, a2, a3, a4, a5, a6⟩ := X_keep1 s w z e h
    exact ⟨d1, a1, a2, a3, a4, a5, fun j hj => a6 j (by omega)⟩
  · rw [if_neg e, if_neg e, h, if_neg (show ¬ nI c < 10 from fun y => e ((nI_ltI (b := 10) (by omega) (by omega)).mp y))]
    obtain ⟨d0, b1, b2, b3, b4, b5⟩ := X_drop (a := a) (d := d)
    obtain ⟨d1, a1, a2, a3, a4, a5, a6⟩ := X_keep1 (c := 9) s w z (by omega) b4
    rw [b1, Option.bind_some]
    refine ⟨d1, a1, a2.trans b2, fun o k h1 h2 h3 h4 => (a3 o k h1 h2 h3 h4).trans (b3 o k h1 h2 h3 h4), a4, a5, fun j hj => ?_⟩
    obtain ⟨q1, q2, q3⟩ := a6 j (by omega)
    obtain ⟨r1, r2, r3⟩ := b5 j hj
    exact ⟨q1.trans r1, q2.trans r2, q3.trans r3⟩
