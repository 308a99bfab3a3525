/-! what a token is: words, names -/
theorem cat_last : ∀ l : List Nat, l = [] ∨ ∃ L b, l = L ++ [b]
  | [] => Or.inl rfl
  | a :: l => Or.inr (match cat_last l with
    | Or.inl h => ⟨[], a, by rw [h]; rfl⟩
    | Or.inr ⟨L, b, h⟩ => ⟨a :: L, b, by rw [h]; rfl⟩)
theorem getD_l {L : List Nat} {b j : Nat} (h : j < L.length) : (L ++ [b]).getD j 0 = L.getD j 0 := by
  simp [List.getD_eq_getElem?_getD, List.getElem?_append_left h]
theorem getD_e {L : List Nat} {b : Nat} : (L ++ [b]).getD L.length 0 = b := by
  simp [List.getD_eq_getElem?_getD]
theorem wv_lit {B : Nat → Nat} {s : Nat} (hB : ∀ j, B j < 256) : ∀ m (l : List Nat), (∀ j, j < l.length → 1 ≤ l.getD j 0 ∧ l.getD j 0 < 256) → (∀ j, j < m → 1 ≤ B (s + j)) →
    (wv B s (s + m) = l.foldl (fun v b => 256 * v + b) 0 ↔ l.length = m ∧ ∀ j, j < m → B (s + j) = l.getD j 0) := by
  intro m
  induction m with
  | zero =>
    intro l hl _
    rw [Nat.add_zero, wv_0]
    rcases cat_last l with rfl | ⟨L, b, rfl⟩
    · exact ⟨fun _ => ⟨rfl, fun j hj => absurd hj (Nat.not_lt_zero _)⟩, fun _ => rfl⟩
    · have h1 := hl L.length (by simp)
      rw [getD_e] at h1
      rw [List.foldl_append, List.length_append]
      constructor
      · intro h
        have h : 0 = 256 * L.foldl (fun v b => 256 * v + b) 0 + b := h
        omega
      · intro h
        have h : L.length + 1 = 0 := h.1
        omega
  | succ m ih =>
    intro l hl hb
    rw [← Nat.add_assoc, wv_s (by omega)]
    have b1 := hb m (by omega)
    rcases cat_last l with rfl | ⟨L, b, rfl⟩
    · constructor
      · intro h
        have h : 256 * wv B s (s + m) + B (s + m) = 0 := h
        omega
      · intro h
        have h : 0 = m + 1 := h.1
        omega
    · have h1 := hl L.length (by simp)
      rw [getD_e] at h1
      have ih := ih L (fun j hj => by have := hl j (by simp; omega); rw [getD_l hj] at this; exact this) (fun j hj => hb j (by omega))
      have b2 := hB (s + m)
      rw [List.foldl_append, List.length_append]
      show 256 * wv B s (s + m) + B (s + m) = 256 * L.foldl (fun v b => 256 * v + b) 0 + b ↔ L.length + 1 = m + 1 ∧ _
      constructor
      · intro h
        obtain ⟨i1, i2⟩ := ih.mp (by omega)
        refine ⟨by omega, fun j hj => ?_⟩
        by_cases e : j = m
        · subst e
          have e2 : (L ++ [b]).getD j 0 = b := by rw [← i1]; exact getD_e
          rw [e2]; omega
        · rw [getD_l (by omega)]; exact i2 j (by omega)
      · intro ⟨h1, h2⟩
        have := ih.mpr ⟨by omega, fun j hj => by rw [h2 j (by omega), getD_l (by omega)]⟩
        have e := h2 m (by omega)
        rw [show m = L.length by omega, getD_e, show L.length = m by omega] at e
        rw [this, e]
theorem lit_all : ∀ k, k < 24 → (litB k).length = strL.getD k 0 ∧ strL.getD k 0 ≤ 7 ∧ ∀ j, j < 8 → j < strL.getD k 0 → chA k (nI j) = nI ((litB k).getD j 0) ∧ 1 ≤ (litB k).getD j 0 ∧ (litB k).getD j 0 < 256 := by decide +kernel
/-- what tokens are -/
theorem tok_p {B : Nat → Nat} {n s : Nat} (hs : s ≤ n) : (tok B n s).1 ≤ n ∧ (tok B n s).2.2.1 ≤ n ∧ (tok B n s).2.1 ≤ 6 ∧ ((tok B n s).2.1 = 6 → (tok B n s).1 = n) ∧ ((tok B n s).2.1 = 3 → (tok B n s).2.2.2 < 1000) ∧
    ((tok B n s).2.1 = 1 ∨ (tok B n s).2.1 = 2 → (tok B n s).1 < (tok B n s).2.2.1 ∧ (tok B n s).2.2.1 - (tok B n s).1 ≤ 7 ∧ (∀ j, (tok B n s).1 ≤ j → j < (tok B n s).2.2.1 → isL (B j) = true) ∧ (tok B n s).2.2.2 = wv B (tok B n s).1 (tok B n s).2.2.1 ∧ ((tok B n s).2.1 = 2 ↔ isRes (tok B n s).2.2.2 = true)) := by
  obtain ⟨r1, r2, -, -⟩ := run_ge (P := isS) (B := B) (n := n) (n - s) s rfl
  have r2 := r2 hs
  unfold tok
  generalize run isS B n s = u at r1 r2 ⊢
  by_cases e : n ≤ u
  · rw [if_pos e]
    exact ⟨r2, r2, Nat.le_refl _, fun _ => by show u = n; omega, fun z => absurd (show (6 : Nat) = 3 from z) (by decide), fun z => absurd z (by show ¬ ((6 : Nat) = 1 ∨ (6 : Nat) = 2); decide)⟩
  · rw [if_neg e]
    by_cases hl : isL (B u) = true
    · rw [if_pos hl]
      obtain ⟨l1, l2, l3, l4⟩ := run_ge (P := isL) (B := B) (n := n) (n - u) u rfl
      have l2 := l2 r2
      have l0 : u + 1 ≤ run isL B n u := by rw [run_step (by omega) hl]; exact (run_ge (P := isL) (B := B) (n := n) (n - (u + 1)) (u + 1) rfl).1
      generalize run isL B n u = v at l0 l1 l2 l3 l4 ⊢
      by_cases h7 : 7 < v - u
      · rw [if_pos h7]
        exact ⟨r2, l2, Nat.zero_le _, fun z => absurd (show (0 : Nat) = 6 from z) (by decide), fun z => absurd (show (0 : Nat) = 3 from z) (by decide), fun z => absurd z (by show ¬ ((0 : Nat) = 1 ∨ (0 : Nat) = 2); decide)⟩
      · rw [if_neg h7]
        cases hr : isRes (wv B u v) with
        | true =>
          rw [if_pos rfl]
          exact ⟨r2, l2, by show (2 : Nat) ≤ 6; decide, fun z => absurd (show (2 : Nat) = 6 from z) (by decide), fun z => absurd (show (2 : Nat) = 3 from z) (by decide), fun _ => ⟨by show u < v; omega, by show v - u ≤ 7; omega, l4, rfl, fun _ => rfl, fun _ => rfl⟩⟩
        | false =>
          rw [if_neg (by decide)]
          refine ⟨r2, l2, by show (1 : Nat) ≤ 6; decide, fun z => absurd (show (1 : Nat) = 6 from z) (by decide), fun z => absurd (show (1 : Nat) = 3 from z) (by decide), fun _ => ⟨by show u < v; omega, by show v - u ≤ 7; omega, l4, rfl, fun z => absurd (show (1 : Nat) = 2 from z) (by decide), fun z => ?_⟩⟩
          cases z
    · rw [if_neg hl]
      by_cases hd : isD (B u) = true
      · rw [if_pos hd]
        obtain ⟨l1, l2, l3, l4⟩ := run_ge (P := isD) (B := B) (n := n) (n - u) u rfl
        have l2 := l2 r2
        generalize run isD B n u = v at l1 l2 l3 l4 ⊢
        by_cases h3 : 3 < v - u
        · rw [if_pos h3]
          exact ⟨r2, l2, Nat.zero_le _, fun z => absurd (show (0 : Nat) = 6 from z) (by decide), fun z => absurd (show (0 : Nat) = 3 from z) (by decide), fun z => absurd z (by show ¬ ((0 : Nat) = 1 ∨ (0 : Nat) = 2); decide)⟩
        · rw [if_neg h3]
          refine ⟨r2, l2, by show (3 : Nat) ≤ 6; decide, fun z => absurd (show (3 : Nat) = 6 from z) (by decide), fun _ => ?_, fun z => absurd z (by show ¬ ((3 : Nat) = 1 ∨ (3 : Nat) = 2); decide)⟩
          have := dv_lt (B := B) (fun _ => Or.inr trivial) (v - u) u (fun j h1 h2 => l4 j h1 (by omega))
          rw [show u + (v - u) = v by omega] at this
          show dv B u v < 1000
          exact Nat.lt_of_lt_of_le this (Nat.pow_le_pow_right (by decide) (show v - u ≤ 3 by omega))
      · rw [if_neg hd]
        have c : (if B u = 44 then 4 else if B u = 59 then 5 else 0) = 0 ∨ (if B u = 44 then 4 else if B u = 59 then 5 else 0) = 4 ∨ (if B u = 44 then 4 else if B u = 59 then 5 else 0) = 5 := by
          by_cases h1 : B u = 44
          · rw [if_pos h1]; exact Or.inr (Or.inl rfl)
          · rw [if_neg h1]
            by_cases h2 : B u = 59
            · rw [if_pos h2]; exact Or.inr (Or.inr rfl)
            · rw [if_neg h2]; exact Or.inl rfl
        generalize (if B u = 44 then 4 else if B u = 59 then 5 else 0) = z at c ⊢
        exact ⟨r2, by show u + 1 ≤ n; omega, by show z ≤ 6; omega, fun h => by have h : z = 6 := h; omega, fun h => by have h : z = 3 := h; omega, fun h => by have h : z = 1 ∨ z = 2 := h; omega⟩
theorem T_tok (B : Nat → Nat) (n : Nat) : ∀ i, ∃ s, s ≤ n ∧ T B n i = tok B n s
  | 0 => ⟨0, Nat.zero_le _, rfl⟩
  | i + 1 => by
    obtain ⟨s, h1, h2⟩ := T_tok B n i
    exact ⟨(T B n i).2.2.1, by rw [h2]; exact (tok_p h1).2.1, rfl⟩
/-- is this token word k? -/
def wd (tk : Tk) (k : Nat) : Bool := decide ((tk.2.1 = 1 ∨ tk.2.1 = 2) ∧ tk.2.2.2 = litV k)
theorem mkd_2 {k : Nat} : mkd k = 2 ↔ (k = 1 ∨ k = 2) := by
  unfold mkd
  by_cases h6 : k = 6
  · rw [if_pos h6]; subst h6; decide
  · rw [if_neg h6]
    by_cases h1 : k = 1 ∨ k = 2
    · rw [if_pos h1]; exact ⟨fun _ => h1, fun _ => rfl⟩
    · rw [if_neg h1]
      refine ⟨fun z => ?_, fun z => absurd z h1⟩
      exfalso; revert z
      by_cases h3 : k = 3
      · rw [if_pos h3]; decide
      · rw [if_neg h3]
        by_cases h4 : k = 4
        · rw [if_pos h4]; decide
        · rw [if_neg h4]
          by_cases h5 : k = 5
          · rw [if_pos h5]; decide
          · rw [if_neg h5]; decide
theorem mkd_3 {k : Nat} : mkd k = 3 ↔ k = 3 := by
  unfold mkd
  by_cases h6 : k = 6
  · rw [if_pos h6]; subst h6; decide
  · rw [if_neg h6]
    by_cases h1 : k = 1 ∨ k = 2
    · rw [if_pos h1]; exact ⟨fun z => absurd z (by decide), fun z => by omega⟩
    · rw [if_neg h1]
      by_cases h3 : k = 3
      · rw [if_pos h3]; exact ⟨fun _ => h3, fun _ => rfl⟩
      · rw [if_neg h3]
        refine ⟨fun z => ?_, fun z => absurd z h3⟩
        exfalso; revert z
        by_cases h4 : k = 4
        · rw [if_pos h4]; decide
        · rw [if_neg h4]
          by_cases h5 : k = 5
          · rw [if_pos h5]; decide
          · rw [if_neg h5]; decide
theorem mkd_all : ∀ k, k ≤ 6 → (mkd k = 0 ↔ k = 6) ∧ (mkd k = 59 ↔ k = 5) ∧ (mkd k = 44 ↔ k = 4) := by decide +kernel
theorem anyB_all {c : Nat → Bool} : ∀ k i, anyB c i k = false ↔ ∀ j, i ≤ j → j < i + k → c j = false := by
  intro k i
  cases h : anyB c i k with
  | true =>
    obtain ⟨j, h1, h2, h3⟩ := (anyB_true k i).mp h
    exact ⟨fun z => (by cases z), fun z => (by rw [z j h1 h2] at h3; cases h3)⟩
  | false =>
    refine ⟨fun _ j h1 h2 => ?_, fun _ => rfl⟩
    cases e : c j with
    | false => rfl
    | true => rw [(anyB_true k i).mpr ⟨j, h1, h2, e⟩] at h; cases h
theorem M_isWord {m n s k : Nat} {B : Nat → Nat} {d : Dt} (hx : MTx m n B d) (hs : s ≤ n) (ht : MT m (tok B n s) d) (hk : k < 24) : mX12_isWord m k d = some (wd (tok B n s) k) := by
  obtain ⟨p1, p2, p3, p4, p5, p6⟩ := tok_p (B := B) hs
  generalize tok B n s = tk at *
  obtain ⟨t1, t2, t3, t4⟩ := ht
  obtain ⟨hB, hn, h15, hT⟩ := hx
  obtain ⟨g1, g2, g3⟩ := lit_all k hk
  unfold mX12_isWord wd
  rw [t3, t2, t1]
  by_cases h : tk.2.1 = 1 ∨ tk.2.1 = 2
  · obtain ⟨q1, q2, q3, q4, q5⟩ := p6 h
    have hw := wv_lit (s := tk.1) hB (tk.2.2.1 - tk.1) (litB k) (fun j hj => (g3 j (by omega) (by omega)).2) (fun j hj => by have := isL_lt (q3 (tk.1 + j) (by omega) (by omega)); omega)
    rw [show tk.1 + (tk.2.2.1 - tk.1) = tk.2.2.1 by omega, g1] at hw
    rw [if_pos (mkd_2.mpr h), nI_sub (by omega), q4]
    by_cases hl : tk.2.2.1 - tk.1 = strL.getD k 0
    · rw [if_pos (by rw [hl])]
      have l := loop_any (fun f i => mX12_isWord_28 d m k f i) (fun j => !decide (B (tk.1 + j) = (litB k).getD j 0)) (some false) (some true) (strL.getD k 0)
        (fun fuel i hi => by
          obtain ⟨c1, c2, c3⟩ := g3 i (by omega) hi
          show mX12_isWord_28 d m k (fuel + 1) (nI i) = _
          rw [mX12_isWord_28, if_neg (nI_ge hi (by omega)), t1, nI_add, if_pos (inB_nI (by omega) (by decide)), if_pos (inB_nI hi (by omega)), cl_nI (by omega), hT _ (by omega), c1, nI_1]
          have hb := hB (tk.1 + i)
          by_cases e : B (tk.1 + i) = (litB k).getD i 0
          · rw [if_pos (by rw [e]), if_neg (by simp [e])]
          · rw [if_neg (fun z => e (nI_inj (by omega) (by omega) z)), if_pos (by show (!decide _) = true; rw [decide_eq_false e]; rfl)])
        (fun fuel => by
          show mX12_isWord_28 d m k (fuel + 1) (nI (strL.getD k 0)) = _
          rw [mX12_isWord_28, if_pos (Int32.le_refl _)]) (strL.getD k 0) 0 FUEL (Nat.zero_add _) (fuel_big (by omega))
      refine Eq.trans l ?_
      cases ha : anyB (fun j => !decide (B (tk.1 + j) = (litB k).getD j 0)) 0 (strL.getD k 0) with
      | false =>
        have := (anyB_all _ _).mp ha
        rw [if_neg (by decide), decide_eq_true ⟨h, hw.mpr ⟨hl.symm, fun j hj => by have := this j (Nat.zero_le _) (by omega); simpa using this⟩⟩]
      | true =>
        obtain ⟨j, j1, j2, j3⟩ := (anyB_true _ _).mp ha
        rw [if_pos rfl, decide_eq_false (fun z => ?_)]
        have := (hw.mp z.2).2 j (by omega)
        rw [this] at j3
        simp at j3
    · rw [if_neg (fun z => hl (nI_inj (by omega) (by omega) z)), decide_eq_false (fun z => hl (hw.mp z.2).1.symm)]
  · rw [if_neg (fun z => h (mkd_2.mp z)), decide_eq_false (fun z => h z.1)]
theorem wd_ne {tk : Tk} {k : Nat} (h : wd tk k = true) : tk.2.1 ≠ 6 := by
  have := of_decide_eq_true h
  omega
theorem isRes_e (u : Nat) : isRes u = (decide (u = litV 0) || (decide (u = litV 1) || (decide (u = litV 2) || (decide (u = litV 3) || (decide (u = litV 4) || (decide (u = litV 5) || (decide (u = litV 6) || (decide (u = litV 7) || (decide (u = litV 8) || (decide (u = litV 9) || false)))))))))) := rfl
theorem M_isName {m n s : Nat} {B : Nat → Nat} {d : Dt} (hx : MTx m n B d) (hs : s ≤ n) (ht : MT m (tok B n s) d) : mX12_isName m d = some (decide ((tok B n s).2.1 = 1)) := by
  obtain ⟨-, -, -, -, -, p6⟩ := tok_p (B := B) hs
  unfold mX12_isName
  rw [M_isWord hx hs ht (show 0 < 24 by decide), M_isWord hx hs ht (show 1 < 24 by decide), M_isWord hx hs ht (show 2 < 24 by decide), M_isWord hx hs ht (show 3 < 24 by decide), M_isWord hx hs ht (show 4 < 24 by decide), M_isWord hx hs ht (show 5 < 24 by decide), M_isWord hx hs ht (show 6 < 24 by decide), M_isWord hx hs ht (show 7 < 24 by decide), M_isWord hx hs ht (show 8 < 24 by decide), M_isWord hx hs ht (show 9 < 24 by decide), ht.2.2.1]
  generalize tok B n s = tk at p6 ⊢
  by_cases h : tk.2.1 = 1 ∨ tk.2.1 = 2
  · obtain ⟨-, -, -, -, q5⟩ := p6 h
    rw [if_pos (mkd_2.mpr h)]
    have st : ∀ k, wd tk k = decide (tk.2.2.2 = litV k) := fun k => decide_eq_decide.mpr ⟨fun z => z.2, fun z => ⟨h, z⟩⟩
    simp only [Option.bind_some, st]
    rw [isRes_e] at q5
    cases h0 : decide (tk.2.2.2 = litV 0)
    · cases h1 : decide (tk.2.2.2 = litV 1)
      · cases h2 : decide (tk.2.2.2 = litV 2)
        · cases h3 : decide (tk.2.2.2 = litV 3)
          · cases h4 : decide (tk.2.2.2 = litV 4)
            · cases h5 : decide (tk.2.2.2 = litV 5)
              · cases h6 : decide (tk.2.2.2 = litV 6)
                · cases h7 : decide (tk.2.2.2 = litV 7)
                  · cases h8 : decide (tk.2.2.2 = litV 8)
                    · cases h9 : decide (tk.2.2.2 = litV 9)
                      · rw [h0, h1, h2, h3, h4, h5, h6, h7, h8, h9] at q5
                        have : tk.2.1 = 1 := by
                          rcases h with h | h
                          · exact h
                          · exact absurd (q5.mp h) (by decide)
                        rw [decide_eq_true this]; rfl
                      all_goals (rw [h0, h1, h2, h3, h4, h5, h6, h7, h8, h9] at q5; have e := q5.mpr rfl; rw [decide_eq_false (show ¬ tk.2.1 = 1 by omega)]; rfl)
                    all_goals (rw [h0, h1, h2, h3, h4, h5, h6, h7, h8] at q5; have e := q5.mpr rfl; rw [decide_eq_false (show ¬ tk.2.1 = 1 by omega)]; rfl)
                  all_goals (rw [h0, h1, h2, h3, h4, h5, h6, h7] at q5; have e := q5.mpr rfl; rw [decide_eq_false (show ¬ tk.2.1 = 1 by omega)]; rfl)
                all_goals (rw [h0, h1, h2, h3, h4, h5, h6] at q5; have e := q5.mpr rfl; rw [decide_eq_false (show ¬ tk.2.1 = 1 by omega)]; rfl)
              all_goals (rw [h0, h1, h2, h3, h4, h5] at q5; have e := q5.mpr rfl; rw [decide_eq_false (show ¬ tk.2.1 = 1 by omega)]; rfl)
            all_goals (rw [h0, h1, h2, h3, h4] at q5; have e := q5.mpr rfl; rw [decide_eq_false (show ¬ tk.2.1 = 1 by omega)]; rfl)
          all_goals (rw [h0, h1, h2, h3] at q5; have e := q5.mpr rfl; rw [decide_eq_false (show ¬ tk.2.1 = 1 by omega)]; rfl)
        all_goals (rw [h0, h1, h2] at q5; have e := q5.mpr rfl; rw [decide_eq_false (show ¬ tk.2.1 = 1 by omega)]; rfl)
      all_goals (rw [h0, h1] at q5; have e := q5.mpr rfl; rw [decide_eq_false (show ¬ tk.2.1 = 1 by omega)]; rfl)
    all_goals (rw [h0] at q5; have e := q5.mpr rfl; rw [decide_eq_false (show ¬ tk.2.1 = 1 by omega)]; rfl)
  · rw [if_neg (fun z => h (mkd_2.mp z)), decide_eq_false (fun z => h (Or.inl z))]
theorem M_spelt {m n s : Nat} {B : Nat → Nat} {d : Dt} (hx : MTx m n B d) (hs : s ≤ n) (ht : MT m (tok B n s) d) (h1 : (tok B n s).2.1 = 1) : mX12_spelt m d = some (L64 (tok B n s).2.2.2) := by
  obtain ⟨-, p2, -, -, -, p6⟩ := tok_p (B := B) hs
  obtain ⟨q1, q2, q3, q4, -⟩ := p6 (Or.inl h1)
  generalize tok B n s = tk at *
  obtain ⟨t1, t2, t3, t4⟩ := ht
  obtain ⟨hB, hn, h15, hT⟩ := hx
  have go : ∀ f k v fuel, tk.2.2.1 - k = f → tk.1 ≤ k → k ≤ tk.2.2.1 → v = L64 (wv B tk.1 k) → f < fuel → mX12_spelt_7 d m fuel v (nI k) = some (L64 (wv B tk.1 tk.2.2.1)) := by
    intro f
    induction f with
    | zero =>
      intro k v fuel hf a1 a2 hv hfu
      obtain ⟨g, rfl⟩ : ∃ e, fuel = e + 1 := ⟨fuel - 1, by omega⟩
      obtain e : k = tk.2.2.1 := by omega
      rw [mX12_spelt_7, t2, e, if_pos (Int32.le_refl _), hv, e]
    | succ f ih =>
      intro k v fuel hf a1 a2 hv hfu
      obtain ⟨g, rfl⟩ : ∃ e, fuel = e + 1 := ⟨fuel - 1, by omega⟩
      rw [mX12_spelt_7, t2, if_neg (nI_ge (by omega) (by omega)), if_pos (inB_nI (by omega) (by decide)), cl_nI (by omega), hT k (by omega), L64_i32 _ (hB k), hv, show (256 : Int64) = L64 256 from rfl, L64_mul, L64_add, nI_1]
      exact ih (k + 1) _ g (by omega) (by omega) (by omega) (by rw [wv_s a1]) (by omega)
  unfold mX12_spelt
  rw [t1, go (tk.2.2.1 - tk.1) tk.1 0 FUEL rfl (Nat.le_refl _) (by omega) (by rw [wv_0]; rfl) (Nat.lt_of_le_of_lt (show tk.2.2.1 - tk.1 ≤ 1000 by omega) (by decide)), q4]
