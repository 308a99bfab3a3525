/-! harness: what the class does, as a function; what the reference copies -/
def rdN (rd : Nat) (d : Dt) : Dt := uI (uI (uI (uI (uI d rd 2 0) rd 3 0) rd 4 0) rd 5 0) rd 6 0
def hX (rd p : Nat) (v : Int32) (d : Dt) : Option (Bool × Int32 × Dt) :=
  if v < 0 then some (false, -1, uI d 0 9 2)
  else if d.1 0 1 < v then some (false, -1, uI d 0 9 2)
  else (mX8_cut 152 1 v (mX4_clear p (uI d 0 1 0))).bind fun d1 =>
    (mX7_readAll rd 152 p (rdN rd d1)).bind fun r =>
      if r.1 = true then (mX9_measure (p + 3) (uI (uI r.2 0 10 0) 0 11 (-1))).bind fun d2 => some (true, (uI (uI d2 0 4 1) 156 0 0).1 (p + 32) 0, uI (uI (uI d2 0 4 1) 156 0 0) 0 9 0)
      else (mX7_placeOfFault rd 152 p (uI r.2 0 10 (r.2.1 rd 6))).bind fun pl => some (false, -1, uI (uI (uI r.2 0 10 (r.2.1 rd 6)) 0 11 pl) 0 9 4)
theorem WF_of {q : Nat → Int32} (w : WP q true) (h : 1 ≤ nT q) : WF q := by
  obtain ⟨w1, w2, w3, w4, w5, w6, w7, w8, w9, w10, w11, -⟩ := w
  obtain ⟨-, -, ⟨-, m2, -⟩, -, -, k6⟩ := w9 0 (by omega)
  obtain ⟨⟨a, a1, -⟩, -⟩ := w8 (pp q 0 0) (k6 0 (by omega)).1.2
  exact ⟨⟨w1.1, by omega, w1.2⟩, w2, w3, w4, w5, ⟨(w6 (by omega)).1, (w6 (by omega)).2, w7⟩, w8, w9, w10, w11 rfl⟩
theorem cp_all (d : Dt) : ∃ d', mX12_harness_68 167 FUEL 0 d = some (d'.1 (167 + 2) 5, d') ∧ (∀ k, k < 267 → d'.1 (167 + 2) k = d.1 (167 + 3) k) ∧ (∀ j, j < 36 → d'.2 (167 + 4) j = d.2 (167 + 6) j ∧ d'.1 (167 + 5) j = d.1 (167 + 7) j) ∧ d'.1 167 10 = d.1 167 13 ∧ d'.1 167 14 = 1 ∧ d'.1 167 34 = 0 ∧
    (∀ o k, o ≠ 169 → o ≠ 172 → ¬ (o = 167 ∧ (k = 10 ∨ k = 14 ∨ k = 34)) → d'.1 o k = d.1 o k) ∧ ∀ o k, o ≠ 171 → d'.2 o k = d.2 o k := by
  obtain ⟨a, g, ⟨r1, r2, r3⟩, e1⟩ := loop_rel (fun n i d => mX12_harness_68 167 n i d) (fun i a => (∀ k, k < i → a.1 (167 + 2) k = d.1 (167 + 3) k) ∧ (∀ o k, o ≠ 167 + 2 → a.1 o k = d.1 o k) ∧ a.2 = d.2) 267
    (fun fuel i a hi ⟨r1, r2, r3⟩ => by
      refine ⟨uI a (167 + 2) i (a.1 (167 + 3) i), ⟨fun k hk => ?_, fun o k ho => ?_, r3⟩, ?_⟩
      · by_cases e : k = i
        · subst e; rw [dI_at, r2 _ _ (by omega)]
        · rw [dI_ne (by omega)]; exact r1 k (by omega)
      · rw [dI_ne (by omega)]; exact r2 o k ho
      · show mX12_harness_68 167 (fuel + 1) (nI i) a = _
        rw [mX12_harness_68, if_neg (show ¬ (267 : Int32) ≤ nI i from nI_ge (b := 267) hi (by omega)), if_pos (ib267 hi), if_pos (ib267 hi), cl_nI (by omega), nI_1])
    267 0 d FUEL (Nat.zero_add _) ⟨fun k hk => absurd hk (Nat.not_lt_zero _), fun _ _ _ => rfl, rfl⟩ (fuel_big (by omega))
  obtain ⟨b, g', ⟨s1, s2, s3⟩, e2⟩ := loop_rel (fun n i d => mX12_harness_95 167 n i d) (fun i b => (∀ j, j < i → b.2 (167 + 4) j = a.2 (167 + 6) j ∧ b.1 (167 + 5) j = a.1 (167 + 7) j) ∧ (∀ o k, o ≠ 167 + 5 → b.1 o k = a.1 o k) ∧ ∀ o k, o ≠ 167 + 4 → b.2 o k = a.2 o k) 36
    (fun fuel i b hi ⟨s1, s2, s3⟩ => by
      refine ⟨uI (uL b (167 + 4) i (b.2 (167 + 6) i)) (167 + 5) i (b.1 (167 + 7) i), ⟨fun j hj => ?_, fun o k ho => ?_, fun o k ho => ?_⟩, ?_⟩
      · by_cases e : j = i
        · subst e
          exact ⟨(dL_at _ _ _ _).trans (s3 _ _ (by omega)), (dI_at _ _ _ _).trans (s2 _ _ (by omega))⟩
        · exact ⟨(dL_ne (by omega)).trans (s1 j (by omega)).1, (dI_ne (by omega)).trans (s1 j (by omega)).2⟩
      · exact (dI_ne (by omega)).trans (s2 o k ho)
      · exact (dL_ne (by omega)).trans (s3 o k ho)
      · show mX12_harness_95 167 (fuel + 1) (nI i) b = _
        have ib : inB (nI i) 36 = true := inB_nI hi (by omega)
        rw [mX12_harness_95, if_neg (show ¬ (36 : Int32) ≤ nI i from nI_ge (b := 36) hi (by omega)), if_pos ib, if_pos ib, if_pos ib, if_pos ib, cl_nI (by omega), nI_1]; rfl)
    36 0 a FUEL (Nat.zero_add _) ⟨fun k hk => absurd hk (Nat.not_lt_zero _), fun _ _ _ => rfl, fun _ _ _ => rfl⟩ (fuel_big (by omega))
  refine ⟨uI (uI (uI b 167 10 (b.1 167 13)) 167 14 1) 167 34 0, ?_, fun k hk => ?_, fun j hj => ⟨?_, ?_⟩, ?_, ?_, dI_at _ _ _ _, fun o k z1 z2 z3 => ?_, fun o k z => ?_⟩
  · refine Eq.trans e1 ?_
    show mX12_harness_68 167 (g + 1) (nI 267) a = _
    rw [mX12_harness_68, if_pos (show (267 : Int32) ≤ nI 267 from Int32.le_refl _)]
    refine Eq.trans e2 ?_
    show mX12_harness_95 167 (g' + 1) (nI 36) b = _
    rw [mX12_harness_95, if_pos (show (36 : Int32) ≤ nI 36 from Int32.le_refl _), if_pos (show inB (5 : Int32) 267 = true from ib267 (a := 5) (by omega))]; rfl
  · rw [dI_ne (by omega), dI_ne (by omega), dI_ne (by omega), s2 _ _ (by omega)]; exact r1 k hk
  · exact (s1 j hj).1.trans (by rw [r3])
  · rw [dI_ne (by omega), dI_ne (by omega), dI_ne (by omega)]; exact (s1 j hj).2.trans (r2 _ _ (by omega))
  · rw [dI_ne (by omega), dI_ne (by omega), dI_at, s2 _ _ (by omega), r2 _ _ (by omega)]
  · rw [dI_ne (by omega), dI_at]
  · rw [dI_ne (by omega), dI_ne (by omega), dI_ne (by omega), s2 _ _ (by omega), r2 _ _ (by omega)]
  · exact (s3 o k z).trans (by rw [r3])
theorem uI_uI (d : Dt) (o k : Nat) (a b : Int32) : uI (uI d o k a) o k b = uI d o k b := by
  apply Prod.ext
  · funext i j
    show (if i = o ∧ j = k then b else if i = o ∧ j = k then a else d.1 i j) = if i = o ∧ j = k then b else d.1 i j
    by_cases h : i = o ∧ j = k
    · rw [if_pos h, if_pos h]
    · rw [if_neg h, if_neg h, if_neg h]
  · rfl
theorem readAll_15 (n : Nat) (d : Dt) : mX12_readAll 167 (nI n) d = mX12_readAll 167 (nI n) (uI d 167 15 (nI n)) := by
  unfold mX12_readAll
  rw [uI_uI]
theorem clear_z (p : Nat) (d : Dt) : (mX4_clear p d).1 p 2 = 0 ∧ (mX4_clear p d).1 p 3 = 0 ∧ (mX4_clear p d).1 (p + 3) 0 = 0 ∧ (mX4_clear p d).1 (p + 25) 0 = 0 ∧ (mX4_clear p d).1 (p + 32) 0 = 0 ∧ (mX4_clear p d).1 (p + 72) 0 = 0 := by
  unfold mX4_clear
  refine ⟨?_, ?_, ?_, ?_, ?_, ?_⟩
  · rw [dI_ne (by omega), dI_ne (by omega), dI_ne (by omega), dI_ne (by omega), dI_ne (by omega), dI_at]
  · rw [dI_ne (by omega), dI_ne (by omega), dI_ne (by omega), dI_ne (by omega), dI_at]
  · rw [dI_ne (by omega), dI_ne (by omega), dI_ne (by omega), dI_at]
  · rw [dI_ne (by omega), dI_ne (by omega), dI_at]
  · rw [dI_ne (by omega), dI_at]
  · rw [dI_at]
theorem clear_ne {p o k : Nat} {d : Dt} (h : ¬ (p ≤ o ∧ o < p + 75)) : (mX4_clear p d).1 o k = d.1 o k := by
  unfold mX4_clear
  rw [dI_ne (by omega), dI_ne (by omega), dI_ne (by omega), dI_ne (by omega), dI_ne (by omega), dI_ne (by omega), dI_ne (by omega), dI_ne (by omega)]
theorem rdN_ne {rd o k : Nat} {d : Dt} (h : o ≠ rd) : (rdN rd d).1 o k = d.1 o k := by
  unfold rdN
  rw [dI_ne (by omega), dI_ne (by omega), dI_ne (by omega), dI_ne (by omega), dI_ne (by omega)]
/-- what the class does until it has read the text -/
theorem x_read {rd p n : Nat} {B : Nat → Nat} {d : Dt} (hp : (p = 2 ∨ p = 77) ∧ 183 ≤ rd) (hB : ∀ j, B j < 256) (hn : n ≤ 1000) (h1 : ∀ j, j < n → d.1 1 j = sx8 (B j)) (h2 : ∀ j, j < n → d.1 (167 + 1) j = nI (B j)) :
    ∃ d1 c1, mX8_cut 152 1 (nI n) (mX4_clear p (uI d 0 1 0)) = some d1 ∧ (∀ o k, 155 < o → o ≠ rd → (rdN rd d1).1 o k = d.1 o k) ∧ (∀ o k, o ≠ 155 → (rdN rd d1).2 o k = d.2 o k) ∧ (∀ o k, ¬ (p ≤ o ∧ o < p + 75) → ¬ (o = 0 ∧ k = 1) → ¬ (152 ≤ o ∧ o ≤ 155) → o ≠ rd → (rdN rd d1).1 o k = d.1 o k) ∧ (rdN rd d1).1 0 1 = 0 ∧
      ∀ M0, MTx 167 n B M0 → Base rd p n c1 B (rdN rd d1) M0 ∧ PEnd rd p n c1 B (rdN rd d1) M0 (mX7_readAll rd 152 p (rdN rd d1)) (mX12_readAll 167 (nI n) M0) := by
  have hx : Txt 1 B n (mX4_clear p (uI d 0 1 0)) := ⟨hB, hn, fun j hj => by rw [clear_ne (by omega), dI_ne (by omega)]; exact h1 j hj⟩
  obtain ⟨d1, c1, e1, e2, e3, e4, e5⟩ := X_cut (t := 152) (r := 1) (by omega) hx
  have f : ∀ o k, ¬ (p ≤ o ∧ o < p + 75) → ¬ (o = 0 ∧ k = 1) → ¬ (152 ≤ o ∧ o ≤ 155) → o ≠ rd → (rdN rd d1).1 o k = d.1 o k := fun o k z1 z2 z3 z4 => by
    rw [rdN_ne z4, e3.1 _ _ (by omega) (by omega) (by omega), clear_ne z1, dI_ne (by omega)]
  refine ⟨d1, c1, e1, fun o k z1 z2 => f o k (by omega) (by omega) (by omega) z2, fun o k z => ?_, f, ?_, fun M0 hM => ?_⟩
  · exact (e3.2 o k z).trans rfl
  · rw [rdN_ne (by omega), e3.1 _ _ (by omega) (by omega) (by omega), clear_ne (by omega), dI_at]
  · have tk : Tks 152 B n c1 (rdN rd d1) := by
      refine ⟨by rw [rdN_ne (by omega)]; exact e2.1, by rw [rdN_ne (by omega)]; exact e2.2.1, fun i hi => ?_⟩
      rw [rdN_ne (by omega), rdN_ne (by omega)]; exact e2.2.2 i hi
    have hb : Base rd p n c1 B (rdN rd d1) M0 := ⟨hp, tk, e4, e5, hM⟩
    obtain ⟨z1, z2, z3, z4, z5, z6⟩ := clear_z p (uI d 0 1 0)
    have fz : ∀ o k, p ≤ o → o < p + 75 → (rdN rd d1).1 o k = (mX4_clear p (uI d 0 1 0)).1 o k := fun o k y1 y2 => by
      rw [rdN_ne (by omega), e3.1 _ _ (by omega) (by omega) (by omega)]
    refine ⟨hb, p_all hb tk ?_ ?_ ⟨?_, ?_, ?_, ?_, ?_, ?_⟩⟩
    · unfold rdN; rw [dI_ne (by omega), dI_ne (by omega), dI_ne (by omega), dI_ne (by omega), dI_at]
    · unfold rdN; rw [dI_ne (by omega), dI_at]
    · rw [fz _ _ (by omega) (by omega)]; exact z1
    · rw [fz _ _ (by omega) (by omega)]; exact z2
    · rw [fz _ _ (by omega) (by omega)]; exact z3
    · rw [fz _ _ (by omega) (by omega)]; exact z4
    · rw [fz _ _ (by omega) (by omega)]; exact z5
    · rw [fz _ _ (by omega) (by omega)]; exact z6
