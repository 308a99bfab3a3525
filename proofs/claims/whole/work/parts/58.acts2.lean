/-! acts: the reference's changes; the row with one entry changed -/
theorem M_changes {m A : Nat} {d : Dt} {c : Nat} (v : Int32) (hA : A < 267) (hc : c ≤ 10) (h : d.1 m 34 = nI c) : ∃ d1, mX12_changes m (nI A) v d = some (d.1 (m + 2) A, d1) ∧ d1.2 = d.2 ∧ (∀ o k, o ≠ m + 13 → o ≠ m + 14 → (o ≠ m ∨ k ≠ 34) → (o ≠ m + 2 ∨ k ≠ A) → d1.1 o k = d.1 o k) ∧ d1.1 m 34 = nI (aE c + 1) ∧ d1.1 (m + 2) A = v ∧ (d1.1 (m + 13) (aE c) = nI A ∧ d1.1 (m + 14) (aE c) = d.1 (m + 2) A) ∧ ∀ j, j < aE c → d1.1 (m + 13) j = d.1 (m + 13) (j + aS c) ∧ d1.1 (m + 14) j = d.1 (m + 14) (j + aS c) := by
  have put : ∀ (d : Dt) (c : Nat), c < 10 → d.1 m 34 = nI c → ∃ d1, mX12_changes_61 m (nI A) v d = some (d.1 (m + 2) A, d1) ∧ d1.2 = d.2 ∧ (∀ o k, o ≠ m + 13 → o ≠ m + 14 → (o ≠ m ∨ k ≠ 34) → (o ≠ m + 2 ∨ k ≠ A) → d1.1 o k = d.1 o k) ∧ d1.1 m 34 = nI (c + 1) ∧ d1.1 (m + 2) A = v ∧ (d1.1 (m + 13) c = nI A ∧ d1.1 (m + 14) c = d.1 (m + 2) A) ∧ ∀ j, j ≠ c → d1.1 (m + 13) j = d.1 (m + 13) j ∧ d1.1 (m + 14) j = d.1 (m + 14) j := by
    intro d c hc h
    refine ⟨uI (uI (uI (uI d (m + 13) c (nI A)) (m + 14) c (d.1 (m + 2) A)) m 34 (nI (c + 1))) (m + 2) A v, ?_, ?_, fun o k h1 h2 h3 h4 => ?_, ?_, ?_, ⟨?_, ?_⟩, fun j hj => ⟨?_, ?_⟩⟩
    · unfold mX12_changes_61
      rw [dI_ne (Or.inl (show m ≠ m + 14 by omega)), dI_ne (Or.inl (show m ≠ m + 13 by omega)), h, if_pos (inB_nI (by omega) (by decide)), if_pos (inB_nI (by omega) (by decide)), if_pos (inB_nI (by omega) (by decide)), if_pos (inB_nI (by omega) (by decide)), cl_nI (by omega), cl_nI (by omega), nI_1]
    · rfl
    · rw [dI_ne h4, dI_ne h3, dI_ne (Or.inl h2), dI_ne (Or.inl h1)]
    · rw [dI_ne (Or.inl (by omega)), dI_at]
    · rw [dI_at]
    · rw [dI_ne (Or.inl (by omega)), dI_ne (Or.inl (by omega)), dI_ne (Or.inl (by omega)), dI_at]
    · rw [dI_ne (Or.inl (by omega)), dI_ne (Or.inl (by omega)), dI_at]
    · rw [dI_ne (Or.inl (by omega)), dI_ne (Or.inl (by omega)), dI_ne (Or.inl (by omega)), dI_ne (Or.inr hj)]
    · rw [dI_ne (Or.inl (by omega)), dI_ne (Or.inl (by omega)), dI_ne (Or.inr hj), dI_ne (Or.inl (by omega))]
  unfold mX12_changes aE aS
  by_cases e : c < 10
  · rw [if_pos e, if_pos e, h, if_neg (show ¬ nI c = 10 from fun z => by have := nI_inj (b := 10) (by omega) (by omega) z; omega)]
    obtain ⟨d1, a1, a2, a3, a4, a5, a6, a7⟩ := put d c e h
    exact ⟨d1, a1, a2, a3, a4, a5, a6, fun j hj => a7 j (by omega)⟩
  · have hc10 : c = 10 := by omega
    rw [if_neg e, if_neg e, h, if_pos (show nI c = 10 by rw [hc10]; rfl)]
    obtain ⟨d0, g, ⟨r1, r2, r0, r3, -⟩, eq⟩ := loop_rel (fun n i d => mX12_changes_11 m (nI A) v n i d)
      (fun i d1 => d1.2 = d.2 ∧ (∀ o k, o ≠ m + 13 → o ≠ m + 14 → d1.1 o k = d.1 o k) ∧ 1 ≤ i ∧ (∀ j, j + 1 < i → d1.1 (m + 13) j = d.1 (m + 13) (j + 1) ∧ d1.1 (m + 14) j = d.1 (m + 14) (j + 1)) ∧ ∀ j, i ≤ j → d1.1 (m + 13) j = d.1 (m + 13) j ∧ d1.1 (m + 14) j = d.1 (m + 14) j) 10
      (fun fuel i d1 hi hR => by
        obtain ⟨r1, r2, r0, r3, r4⟩ := hR
        have em : nI i - (1 : Int32) = nI (i - 1) := by rw [show (1 : Int32) = nI 1 from rfl, nI_sub r0]
        obtain ⟨s1, s2⟩ := r4 i (Nat.le_refl _)
        show ∃ b, _ ∧ mX12_changes_11 m (nI A) v (fuel + 1) (nI i) d1 = _
        rw [mX12_changes_11, if_neg (show ¬ (10 : Int32) ≤ nI i from nI_ge hi (by decide)), em, if_pos (inB_nI (by omega) (by decide)), if_pos (inB_nI (by omega) (by decide)), if_pos (inB_nI (by omega) (by decide)), if_pos (inB_nI (by omega) (by decide)), cl_nI (by omega), cl_nI (by omega), nI_1]
        rw [dI_ne (Or.inl (show m + 14 ≠ m + 13 by omega)), s1, s2]
        refine ⟨_, ⟨?_, fun o k h1 h2 => ?_, by omega, fun j hj => ?_, fun j hj => ?_⟩, rfl⟩
        · exact r1
        · rw [dI_ne (Or.inl h2), dI_ne (Or.inl h1)]; exact r2 o k h1 h2
        · by_cases ej : j = i - 1
          · subst ej
            refine ⟨?_, ?_⟩
            · rw [dI_ne (Or.inl (by omega)), dI_at, show i - 1 + 1 = i by omega]
            · rw [dI_at, show i - 1 + 1 = i by omega]
          · obtain ⟨q1, q2⟩ := r3 j (by omega)
            refine ⟨?_, ?_⟩
            · rw [dI_ne (Or.inl (by omega)), dI_ne (Or.inr ej)]; exact q1
            · rw [dI_ne (Or.inr ej), dI_ne (Or.inl (by omega))]; exact q2
        · obtain ⟨q1, q2⟩ := r4 j (by omega)
          refine ⟨?_, ?_⟩
          · rw [dI_ne (Or.inl (by omega)), dI_ne (Or.inr (by omega))]; exact q1
          · rw [dI_ne (Or.inr (by omega)), dI_ne (Or.inl (by omega))]; exact q2)
      9 1 d FUEL rfl ⟨rfl, fun _ _ _ _ => rfl, Nat.le_refl _, fun j hj => absurd hj (by omega), fun j _ => ⟨rfl, rfl⟩⟩ (fuel_big (by omega))
    have h34 : (uI d0 m 34 (d0.1 m 34 - 1)).1 m 34 = nI 9 := by
      rw [dI_at, r2 m 34 (by omega) (by omega), h, hc10]; rfl
    obtain ⟨d1, a1, a2, a3, a4, a5, a6, a7⟩ := put (uI d0 m 34 (d0.1 m 34 - 1)) 9 (by omega) h34
    have e2 : (uI d0 m 34 (d0.1 m 34 - 1)).1 (m + 2) A = d.1 (m + 2) A := by rw [dI_ne (Or.inl (by omega)), r2 _ _ (by omega) (by omega)]
    rw [e2] at a1 a6
    refine ⟨d1, ?_, a2.trans r1, fun o k h1 h2 h3 h4 => by rw [a3 o k h1 h2 h3 h4, dI_ne h3, r2 o k h1 h2], a4, a5, a6, fun j hj => ?_⟩
    · refine Eq.trans (show mX12_changes_11 m (nI A) v FUEL 1 d = mX12_changes_11 m (nI A) v FUEL (nI 1) d from rfl) (Eq.trans eq ?_)
      show mX12_changes_11 m (nI A) v (g + 1) (nI 10) d0 = _
      rw [mX12_changes_11, if_pos (by decide), a1]
    · obtain ⟨q1, q2⟩ := a7 j (by omega)
      obtain ⟨q3, q4⟩ := r3 j (by omega)
      exact ⟨by rw [q1, dI_ne (Or.inl (by omega))]; exact q3, by rw [q2, dI_ne (Or.inl (by omega))]; exact q4⟩
/-- the row with an entry changed -/
def upq (q : Nat → Int32) (A : Nat) (v : Int32) : Nat → Int32 := fun k => if k = A then v else q k
theorem up_at (q : Nat → Int32) (A : Nat) (v : Int32) : upq q A v A = v := if_pos rfl
theorem up_ne {q : Nat → Int32} {A k : Nat} {v : Int32} (h : k ≠ A) : upq q A v k = q k := if_neg h
/-- rows that agree on the tree have the same tree -/
theorem uq_congr {q q' : Nat → Int32} {i : Nat} (h : q' (7 + i) = q (7 + i)) : uq q' i = uq q i := by unfold uq; rw [h]
theorem anc_congr {q q' : Nat → Int32} (w : WF q) (hu : ∀ i, i < nN q → q' (7 + i) = q (7 + i)) : ∀ f a x, a < nN q → ancF q' f a x = ancF q f a x := by
  intro f
  induction f with
  | zero => intro a x _; rfl
  | succ f ih =>
    intro a x ha
    rcases Nat.eq_zero_or_pos a with h0 | h1
    · show (if a = x then true else if a = 0 then false else ancF q' f (uq q' a) x) = (if a = x then true else if a = 0 then false else ancF q f (uq q a) x)
      rw [if_pos h0, if_pos h0]
    · have := (w.up h1 ha).2
      show (if a = x then true else if a = 0 then false else ancF q' f (uq q' a) x) = (if a = x then true else if a = 0 then false else ancF q f (uq q a) x)
      rw [uq_congr (hu a ha), ih _ x (by omega)]
theorem far_congr {q q' : Nat → Int32} (w : WF q) (hn : nN q' = nN q) (hu : ∀ i, i < nN q → q' (7 + i) = q (7 + i)) (hl : ∀ i, i < nN q → q' (21 + i) = q (21 + i)) {a b : Nat} (ha : a < nN q) (hb : b < nN q) : far q' a b = far q a b := by
  unfold far
  rw [hn]
  refine fo_congr _ _ _ fun x h1 h2 s => ?_
  rw [hl x (by omega), show anc q' a x = anc q a x from anc_congr w hu a a x ha, show anc q' b x = anc q b x from anc_congr w hu b b x hb]
theorem pos_congr {q q' : Nat → Int32} (w : WF q) (l : List Int32) (hu : ∀ i, i < nN q → q' (7 + i) = q (7 + i)) (hl : ∀ i, i < nN q → q' (21 + i) = q (21 + i)) (hs : ∀ i, i < nN q → q' (35 + i) = q (35 + i)) : ∀ f a, a < nN q → posF l q' f a = posF l q f a := by
  intro f
  induction f with
  | zero => intro a _; rfl
  | succ f ih =>
    intro a ha
    rcases Nat.eq_zero_or_pos a with h0 | h1
    · show (if a = 0 then 0 else posF l q' f (uq q' a) + stp l q' a) = (if a = 0 then 0 else posF l q f (uq q a) + stp l q a)
      rw [if_pos h0, if_pos h0]
    · have := (w.up h1 ha).2
      show (if a = 0 then 0 else posF l q' f (uq q' a) + stp l q' a) = (if a = 0 then 0 else posF l q f (uq q a) + stp l q a)
      rw [uq_congr (hu a ha), ih _ (by omega)]
      unfold stp
      rw [hl a ha, hs a ha]
theorem XTd_congr {t : Nat} {d : Dt} {q q' : Nat → Int32} (w : WF q) (x : XTd t d q) (hn : nN q' = nN q) (hu : ∀ i, i < nN q → q' (7 + i) = q (7 + i)) (hl : ∀ i, i < nN q → q' (21 + i) = q (21 + i)) (hs : ∀ i, i < nN q → q' (35 + i) = q (35 + i)) : XTd t d q' := by
  intro i hi
  rw [hn] at hi
  obtain ⟨a1, a2, a3, a4⟩ := x i hi
  refine ⟨a1.trans (pos_congr w _ hu hl hs i i hi).symm, a2.trans (pos_congr w _ hu hl hs i i hi).symm, fun j hj => ?_, fun j hj => ?_⟩
  · rw [hn] at hj
    rw [a3 j hj]; exact (anc_congr w hu j j i hj).symm
  · rw [hn] at hj
    rw [a4 j hj]; exact (far_congr w hn hu hl hi hj).symm
