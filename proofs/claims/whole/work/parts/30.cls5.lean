/-! the class's list of flaws is the reference's -/
theorem fo_id {α : Type} {f : Nat → α → α} : ∀ k i a, (∀ j b, i ≤ j → j < i + k → f j b = b) → fo f i k a = a := by
  intro k
  induction k with
  | zero => intro i a _; rfl
  | succ k ih => intro i a h; show fo f (i + 1) k (f i a) = a; rw [h i a (Nat.le_refl _) (by omega)]; exact ih (i + 1) a (fun j b h1 h2 => h j b (by omega) (by omega))
theorem fo_only {α : Type} {f : Nat → α → α} {y : Nat} : ∀ k i a, i ≤ y → y < i + k → (∀ j b, i ≤ j → j < i + k → j ≠ y → f j b = b) → fo f i k a = f y a := by
  intro k
  induction k with
  | zero => intro i a h1 h2; omega
  | succ k ih =>
    intro i a h1 h2 h
    show fo f (i + 1) k (f i a) = f y a
    by_cases e : i = y
    · subst e
      exact fo_id k (i + 1) _ (fun j b h3 h4 => h j b (by omega) (by omega) (by omega))
    · rw [h i a (Nat.le_refl _) (by omega) e]
      exact ih (i + 1) a (by omega) (by omega) (fun j b h3 h4 h5 => h j b (by omega) (by omega) h5)
theorem pop1_only : ∀ p, p < 32 → pop (nI p) = 1 → ∀ j, j < 5 → bit (nI p) j = true → j = fst5 (nI p) := by decide +kernel
def flX (q : Nat → Int32) (v : Int32) (i k : Nat) (F : List Fl) : List Fl := if bit (pins q v i) k = true then (if pop (pins q v i) = 1 then F ++ [(1, nI i, -2, pinA q i k, pinB q i k)] else F) ++ flP q v i k else F
theorem flX_flI {q : Nat → Int32} (w : WF q) (v : Int32) {i : Nat} (hi : i < nT q) (F : List Fl) : fo (flX q v i) 0 (many q i) F = flI q v i F := by
  have hm := w.mny hi
  have hs := pins_ok w v hi
  unfold flI
  by_cases e : pop (pins q v i) = 1
  · have hf := M_firstOf hs (by omega)
    have hon : ∀ j, j < 5 → bit (pins q v i) j = true → j = fst5 (pins q v i) := by
      obtain ⟨⟨p, hp, ep⟩, -⟩ := hs
      rw [ep] at e ⊢
      exact pop1_only p hp e
    rw [if_pos e, fo_only (y := fst5 (pins q v i)) (many q i) 0 F (Nat.zero_le _) (by omega) (fun j b _ hj hne => by
      unfold flX
      rw [if_neg (fun z => hne (hon j (by omega) z))]), fo_only (y := fst5 (pins q v i)) 5 0 _ (Nat.zero_le _) (by omega) (fun j b _ hj hne => by
      show (if bit (pins q v i) j = true then _ else b) = b
      rw [if_neg (fun z => hne (hon j (by omega) z))])]
    unfold flX
    rw [if_pos hf.2.2, if_pos e, if_pos hf.2.2]
  · rw [if_neg e, show (5 : Nat) = many q i + (5 - many q i) by omega, fo_more (5 - many q i) (many q i) 0 F (fun j b hj => by
      show (if bit (pins q v i) j = true then _ else b) = b
      by_cases h32 : j < 32
      · rw [if_neg (fun z => by have := hs.2 j h32 z; omega)]
      · rw [if_neg (fun z => by
          have : bit (pins q v i) j = false := by unfold bit; exact BitVec.getLsbD_of_ge _ _ (by omega)
          rw [this] at z; cases z)])]
    refine fo_congr _ _ _ fun j _ _ b => ?_
    unfold flX
    rw [if_neg e]
theorem X_list {h fl : Nat} {d : Dt} {q : Nat → Int32} (x : XR h d q) (w : WF q) (hf : h + 75 ≤ fl) (v : Int32) :
    ∃ d1, mX3_list fl h v d = some (nI (flQ q v).length, d1) ∧ FSt fl 0 (fl + 1) (fl + 2) d d1 (flQ q v) ∧ (flQ q v).length ≤ 160 := by
  have ht := w.t
  unfold mX3_list
  -- the pins
  obtain ⟨d1, g, ⟨hF, hp⟩, e⟩ := loop_rel (fun n i d => mX3_list_7 fl h v n i d) (fun i d1 => FSt fl 0 (fl + 1) (fl + 2) d d1 [] ∧ ∀ o, o < i → d1.1 (fl + 2) o = pins q v o) (nT q)
    (fun fuel i d1 hi hR => by
      obtain ⟨hF, hp⟩ := hR
      have x1 : XR h d1 q := XR_congr x (fun o k h1 h2 => hF.2.1 o k (by omega) (by omega) (Or.inl (by omega))) w
      show ∃ b, _ ∧ mX3_list_7 fl h v (fuel + 1) (nI i) d1 = _
      rw [mX3_list_7, X_countNets x1 w, if_neg (nI_ge hi (by omega)), X_pinsThere x1 w v hi, Option.bind_some, if_pos (inB_nI (by omega) (by decide)), cl_nI (by omega), nI_1]
      refine ⟨uI d1 (fl + 2) i (pins q v i), ⟨⟨hF.1, fun o k h1 h2 h3 => ?_, ?_, fun j hj => absurd hj (Nat.not_lt_zero _)⟩, fun o ho => ?_⟩, rfl⟩
      · simp only [uI]; rw [if_neg (by omega)]; exact hF.2.1 o k h1 h2 h3
      · simp only [uI]; rw [if_neg (by omega)]; exact hF.2.2.1
      · simp only [uI]
        by_cases e : o = i
        · subst e; simp
        · rw [if_neg (fun z => e z.2)]; exact hp o (by omega))
    (nT q) 0 (uI d fl 0 0) FUEL (Nat.zero_add _) ⟨⟨rfl, fun o k _ _ hc => by
      have : ¬ (o = fl ∧ k = 0) := fun q => hc.elim (fun h => h q.1) (fun h => h q.2)
      simp [uI, this], by simp [uI]; rfl, fun j hj => absurd hj (Nat.not_lt_zero _)⟩, fun o ho => absurd ho (Nat.not_lt_zero _)⟩ (fuel_big (by omega))
  have e2 : mX3_list_7 fl h v FUEL 0 (uI d fl 0 0) = mX3_list_38 fl h FUEL 0 d1 := by
    refine Eq.trans e ?_
    have x1 : XR h d1 q := XR_congr x (fun o k h1 h2 => hF.2.1 o k (by omega) (by omega) (Or.inl (by omega))) w
    show mX3_list_7 fl h v (g + 1) (nI (nT q)) d1 = _
    rw [mX3_list_7, X_countNets x1 w, if_pos (Int32.le_refl _)]
  rw [e2]
  obtain ⟨d2, g2, ⟨hF2, hl2⟩, e3⟩ := loop_rel (fun n i d => mX3_list_38 fl h n i d) (fun i d1 => XSt fl d d1 q v (fo (fun i F => flI q v i F) 0 i []) ∧ (fo (fun i F => flI q v i F) 0 i []).length ≤ 16 * i) (nT q)
    (fun fuel i d1 hi hR => by
      obtain ⟨hF, hl⟩ := hR
      have hs := pins_ok w v hi
      have hm := w.mny hi
      rw [fo_last, Nat.zero_add]
      generalize fo (fun i F => flI q v i F) 0 i [] = F at hF hl
      show ∃ b, _ ∧ mX3_list_38 fl h (fuel + 1) (nI i) d1 = _
      rw [mX3_list_38, X_countNets (XSt_XR x w hf hF) w, if_neg (nI_ge hi (by omega))]
      rw [← flX_flI w v hi]
      obtain ⟨d3, g, ⟨r1, r2⟩, e⟩ := loop_rel (fun n k d => mX3_list_52 (mX3_list_38 fl h fuel) fl h (nI i) n k d) (fun k d3 => XSt fl d d3 q v (fo (flX q v i) 0 k F) ∧ ((fo (flX q v i) 0 k F).length ≤ F.length + 3 * k + (if pop (pins q v i) = 1 ∧ fst5 (pins q v i) < k then 1 else 0))) (many q i)
        (fun f2 k d3 hk hR => by
          obtain ⟨r1, r2⟩ := hR
          rw [fo_last, Nat.zero_add]
          generalize fo (flX q v i) 0 k F = F3 at r1 r2
          have x3 := XSt_XR x w hf r1
          have h2 : d3.1 (h + 35) i = nI (many q i) := ((x3.ne.2 i hi).1 2 (by omega)).trans hm.1
          show ∃ b, _ ∧ mX3_list_52 (mX3_list_38 fl h fuel) fl h (nI i) (f2 + 1) (nI k) d3 = _
          rw [mX3_list_52, if_pos (inB_nI (by omega) (by decide)), cl_nI (by omega), h2, if_neg (nI_ge hk (by omega)), if_pos (inB_nI (by omega) (by decide)), r1.2 i hi, has10 (by omega), nI_1]
          have hlP := flP_len q v i k
          unfold flX
          by_cases e : bit (pins q v i) k = true
          · have hon : pop (pins q v i) = 1 → k = fst5 (pins q v i) := fun e1 => by
              obtain ⟨⟨p, hp, ep⟩, -⟩ := hs
              rw [ep] at e e1 ⊢
              exact pop1_only p hp e1 k (by omega) e
            have hl4 : pop (pins q v i) = 1 → F3.length ≤ F.length + 3 * k := fun e1 => by
              rw [if_neg (fun z => by have := hon e1; omega)] at r2
              omega
            have hl3 : F3.length + 3 ≤ 160 := by
              by_cases e1 : pop (pins q v i) = 1
              · have := hl4 e1; omega
              · rw [if_neg (fun z => e1 z.1)] at r2; omega
            obtain ⟨d4, g1, g2⟩ := X_listOfPin x w hf r1 ⟨hl3, fun e1 => by have := hl4 e1; omega⟩ hi hk
            rw [if_pos e, if_pos e, g1, Option.bind_some]
            refine ⟨d4, ⟨g2, ?_⟩, rfl⟩
            rw [List.length_append]
            by_cases e1 : pop (pins q v i) = 1
            · have hk1 := hon e1
              have hk4 := hl4 e1
              rw [if_pos e1, List.length_append, if_pos ⟨e1, by omega⟩]
              simp only [List.length_cons, List.length_nil]; omega
            · rw [if_neg e1]
              rw [if_neg (fun z => e1 z.1)] at r2
              omega
          · rw [if_neg e, if_neg e]
            refine ⟨d3, ⟨r1, ?_⟩, rfl⟩
            by_cases e2 : pop (pins q v i) = 1 ∧ fst5 (pins q v i) < k
            · rw [if_pos e2] at r2
              rw [if_pos ⟨e2.1, by omega⟩]; omega
            · rw [if_neg e2] at r2
              omega)
        (many q i) 0 d1 FUEL (Nat.zero_add _) ⟨hF, by show F.length ≤ _; omega⟩ (fuel_big (by omega))
      refine ⟨d3, ⟨r1, by split at r2 <;> omega⟩, ?_⟩
      refine Eq.trans e ?_
      have x3 := XSt_XR x w hf r1
      have h2 : d3.1 (h + 35) i = nI (many q i) := ((x3.ne.2 i hi).1 2 (by omega)).trans hm.1
      show mX3_list_52 (mX3_list_38 fl h fuel) fl h (nI i) (g + 1) (nI (many q i)) d3 = _
      rw [mX3_list_52, if_pos (inB_nI (by omega) (by decide)), cl_nI (by omega), h2, if_pos (Int32.le_refl _), nI_1])
    (nT q) 0 d1 FUEL (Nat.zero_add _) ⟨⟨hF, hp⟩, Nat.le_refl _⟩ (fuel_big (by omega))
  refine ⟨d2, ?_, hF2.1, by unfold flQ; omega⟩
  refine Eq.trans e3 ?_
  show mX3_list_38 fl h (g2 + 1) (nI (nT q)) d2 = _
  rw [mX3_list_38, X_countNets (XSt_XR x w hf hF2) w, if_pos (Int32.le_refl _), hF2.1.2.2.1]
  rfl
