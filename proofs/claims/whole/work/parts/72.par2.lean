/-! lockstep: names, numbers, choices; how lines go on -/
def cntZ (z : Nat) (q : Nat → Int32) : Nat := if z = 0 then nN q else if z = 1 then nO q else nP q
theorem p_mean {rd p n c1 : Nat} {B : Nat → Nat} {X0 M0 : Dt} {i : Nat} {bt : Bool} {w : Int32 × Int32} {q0 q : Nat → Int32} {dX dM : Dt} (hb : Base rd p n c1 B X0 M0) (h : PSt rd p n c1 B X0 M0 i bt w q0 q dX dM) (h1 : (T B n i).2.1 = 1) : ∃ r, mX4_meaningOf p (L64 (T B n i).2.2.2) dX = some r ∧ mX12_told 167 dM = some r ∧ (r = -1 ∨ ∃ v, v < 400 ∧ r = nI v ∧ MOk q0 v) := by
  have hsp : mX12_spelt 167 dM = some (L64 (T B n i).2.2.2) := by
    obtain ⟨s, s1, s2⟩ := T_tok B n i
    have ht := h.2.2.1
    rw [s2] at ht h1 ⊢
    exact M_spelt (PSt_mx hb h) s1 ht h1
  generalize L64 (T B n i).2.2.2 = v at hsp ⊢
  obtain ⟨-, -, -, -, -, -, -, -, -, ⟨k, k1, k2, k3, k4⟩, w11⟩ := h
  obtain ⟨⟨-, a1⟩, ⟨-, a2⟩, ⟨-, a3⟩, ⟨-, a4⟩, -⟩ := w11.cs
  have lX : mX4_meaningOf p v dX = (fun z : Int32 => if z = -1 then some (-1) else some (dX.1 (p + 2) z.toNatClampNeg)) (findI (fun j => decide (dX.2 (p + 1) j = v)) 0 k) := loop_find (fun n i => mX4_meaningOf_2 dX p v n i) (fun j => decide (dX.2 (p + 1) j = v)) (fun z => if z = -1 then some (-1) else some (dX.1 (p + 2) z.toNatClampNeg)) k
      (fun fuel i hi => by
        show mX4_meaningOf_2 dX p v (fuel + 1) (nI i) = _
        rw [mX4_meaningOf_2, k2, if_neg (nI_ge hi (by omega)), if_pos (inB_nI (by omega) (by decide)), if_pos (inB_nI (by omega) (by decide)), cl_nI (by omega), nI_1, if_neg (nI_m1 (show i < 100 by omega))]
        by_cases e : dX.2 (p + 1) i = v
        · rw [if_pos e, if_pos (by simp [e])]
        · rw [if_neg e, if_neg (by simp [e])])
      (fun fuel => by
        show mX4_meaningOf_2 dX p v (fuel + 1) (nI k) = _
        rw [mX4_meaningOf_2, k2, if_pos (Int32.le_refl _), if_pos rfl]) k 0 FUEL (Nat.zero_add _) (fuel_big (by omega))
  have lM : mX12_told 167 dM = (fun z : Int32 => if z = -1 then some (-1) else some (dX.1 (p + 2) z.toNatClampNeg)) (findI (fun j => decide (dX.2 (p + 1) j = v)) 0 k) := loop_find (fun n i => mX12_told_2 dM 167 n i) (fun j => decide (dX.2 (p + 1) j = v)) (fun z => if z = -1 then some (-1) else some (dX.1 (p + 2) z.toNatClampNeg)) k
      (fun fuel i hi => by
        obtain ⟨y1, u, u1, u2, u3⟩ := k4 i hi
        show mX12_told_2 dM 167 (fuel + 1) (nI i) = _
        rw [mX12_told_2, k3, if_neg (nI_ge hi (by omega)), if_pos (inB_nI (by omega) (by decide)), hsp, Option.bind_some, if_pos (inB_nI (by omega) (by decide)), cl_nI (by omega), nI_1, if_neg (nI_m1 (show i < 100 by omega)), ← y1, u2, u1]
        by_cases e : dX.2 (p + 1) i = v
        · rw [if_pos e, if_pos (by simp [e])]
        · rw [if_neg e, if_neg (by simp [e])])
      (fun fuel => by
        show mX12_told_2 dM 167 (fuel + 1) (nI k) = _
        rw [mX12_told_2, k3, if_pos (Int32.le_refl _), if_pos rfl]) k 0 FUEL (Nat.zero_add _) (fuel_big (by omega))
  rcases findI_in (c := fun j => decide (dX.2 (p + 1) j = v)) k 0 with e | ⟨j, -, jk, e, -⟩
  · rw [e] at lX lM
    exact ⟨-1, lX, lM, Or.inl rfl⟩
  · rw [e] at lX lM
    obtain ⟨y1, u, u1, u2, u3⟩ := k4 j (by omega)
    have e2 : (fun z : Int32 => if z = -1 then some (-1) else some (dX.1 (p + 2) z.toNatClampNeg)) (nI j) = some (nI u) := by
      dsimp only
      rw [if_neg (nI_m1 (show j < 100 by omega)), cl_nI (by omega), u1]
    refine ⟨nI u, lX.trans e2, lM.trans e2, Or.inr ⟨u, ?_, rfl, u3⟩⟩
    unfold MOk at u3
    omega
theorem p_here {rd p n c1 : Nat} {B : Nat → Nat} {X0 M0 : Dt} {i : Nat} {bt : Bool} {w : Int32 × Int32} {q0 q : Nat → Int32} {dX dM : Dt} (hb : Base rd p n c1 B X0 M0) (h : PSt rd p n c1 B X0 M0 i bt w q0 q dX dM) {z : Nat} {v : Int32} (hz : z < 3) (hv : v = nI (100 * z)) : (∃ a, a < cntZ z q0 ∧ a < 14 ∧ mX7_takeNamed rd 152 p v dX = some (nI a, uI dX rd 2 (nI (i + 1))) ∧ mX12_here 167 v dM = some (nI a, dM) ∧ (T B n i).2.1 = 1) ∨
    ∃ f, mX7_takeNamed rd 152 p v dX = some (-1, uI dX rd 6 (nI f)) ∧ mX12_here 167 v dM = some (-1, (mX12_errs 167 (nI f) dM).2) := by
  have w11 := h.2.2.2.2.2.2.2.2.2.2
  obtain ⟨⟨-, a1⟩, ⟨-, a2⟩, ⟨-, a3⟩, ⟨-, a4⟩, -⟩ := w11.cs
  have hs : mX7_sees rd 152 p 1 dX = some (decide ((T B n i).2.1 = 1)) := x_sees hb h (v := 1) (by omega)
  have hn : mX12_isName 167 dM = some (decide ((T B n i).2.1 = 1)) := by
    obtain ⟨s, s1, s2⟩ := T_tok B n i
    have ht := h.2.2.1
    rw [s2] at ht ⊢
    exact M_isName (PSt_mx hb h) s1 ht
  subst hv
  unfold mX7_takeNamed mX12_here
  rw [hs, hn, Option.bind_some, Option.bind_some]
  by_cases h1 : (T B n i).2.1 = 1
  · obtain ⟨r, r1, r2, r3⟩ := p_mean hb h h1
    rw [decide_eq_true h1, if_pos rfl, if_pos rfl, x_val hb h (by omega), Option.bind_some, r1, Option.bind_some, r2, Option.bind_some]
    rcases r3 with rfl | ⟨u, u0, rfl, u1⟩
    · refine Or.inr ⟨2, ?_, ?_⟩
      · rw [if_pos (show (-1 : Int32) < nI (100 * z) from by
          rcases (show z = 0 ∨ z = 1 ∨ z = 2 by omega) with rfl | rfl | rfl <;> decide)]; rfl
      · rw [if_pos rfl]; rfl
    · have hd : (nI u / (100 : Int32) = nI (100 * z) / (100 : Int32)) ↔ u / 100 = z := by
        rw [show (100 : Int32) = nI 100 from rfl, pk_div (by omega) (by omega) (by omega), pk_div (by omega) (by omega) (by omega), show 100 * z / 100 = z by omega]
        exact nI_eq (by omega) (by omega)
      have n1 : ¬ nI u = (-1 : Int32) := by
        have : ∀ u, u < 400 → ¬ nI u = (-1 : Int32) := by decide +kernel
        exact this u u0
      rw [if_neg n1]
      by_cases e : u / 100 = z
      · refine Or.inl ⟨u - 100 * z, ?_, ?_, ?_, ?_, h1⟩
        · unfold MOk at u1; unfold cntZ
          rcases (show z = 0 ∨ z = 1 ∨ z = 2 by omega) with rfl | rfl | rfl
          · rw [if_pos rfl]; omega
          · rw [if_neg (by decide), if_pos rfl]; omega
          · rw [if_neg (by decide), if_neg (by decide)]; omega
        · unfold MOk at u1; omega
        · rw [if_neg (show ¬ nI u < nI (100 * z) from fun t => by have := (nI_ltI (by omega) (by omega)).mp t; omega), show (100 : Int32) = nI 100 from rfl, nI_add, if_pos (nI_lt (by omega) (by omega)), nI_sub (by omega), h.2.1, nI_1]
        · rw [if_pos (hd.mpr e), nI_sub (by omega)]
      · refine Or.inr ⟨2, ?_, ?_⟩
        · by_cases e2 : u < 100 * z
          · rw [if_pos (nI_lt e2 (by omega))]; rfl
          · rw [if_neg (show ¬ nI u < nI (100 * z) from fun t => e2 ((nI_ltI (by omega) (by omega)).mp t)), show (100 : Int32) = nI 100 from rfl, nI_add, if_neg (fun t => by have := (nI_ltI (by omega) (by omega)).mp t; omega)]; rfl
        · rw [if_neg (fun t => e (hd.mp t))]; rfl
  · rw [decide_eq_false h1, if_neg Bool.false_ne_true, if_neg Bool.false_ne_true]
    exact Or.inr ⟨1, rfl, rfl⟩
theorem val_named {rd p n c1 : Nat} {B : Nat → Nat} {X0 M0 : Dt} {i : Nat} {bt : Bool} {w : Int32 × Int32} {q0 q : Nat → Int32} {dX dM : Dt} (hb : Base rd p n c1 B X0 M0) (h : PSt rd p n c1 B X0 M0 i bt w q0 q dX dM) {z : Nat} {v : Int32} (hz : z < 3) (hv : v = nI (100 * z)) : PVal rd p n c1 B X0 M0 (mX7_takeNamed rd 152 p v dX) (mX12_passesOne 167 v dM) (fun a dX' dM' => a < cntZ z q0 ∧ a < 14 ∧ PSt rd p n c1 B X0 M0 (i + 1) bt w q0 q dX' dM') := by
  unfold mX12_passesOne
  rcases p_here hb h hz hv with ⟨a, a1, a2, a3, a4, a5⟩ | ⟨f, f1, f2⟩
  · obtain ⟨d1, g1, g2, -⟩ := p_go hb h (by omega)
    refine Or.inl ⟨a, _, d1, by omega, a3, ?_, a1, a2, g2⟩
    rw [a4, Option.bind_some, if_neg (nI_m1 (show a < 100 by omega)), g1, Option.bind_some]
  · refine Or.inr ⟨_, _, f1, ?_, p_err h f⟩
    rw [f2, Option.bind_some, if_pos rfl]
theorem L64_32 : ∀ a, a < 1000 → (L64 a).toInt32 = nI a := by decide +kernel
theorem val_whole {rd p n c1 : Nat} {B : Nat → Nat} {X0 M0 : Dt} {i : Nat} {bt : Bool} {w : Int32 × Int32} {q0 q : Nat → Int32} {dX dM : Dt} (hb : Base rd p n c1 B X0 M0) (h : PSt rd p n c1 B X0 M0 i bt w q0 q dX dM) {lo hi : Nat} {vl vh : Int32} (hl : vl = nI lo) (hh : vh = nI hi) (h1 : lo < 1000) (h2 : hi < 1000) : PVal rd p n c1 B X0 M0 (mX7_takeWhole rd 152 p vl vh dX) (mX12_passes 167 vl vh dM) (fun a dX' dM' => lo ≤ a ∧ a ≤ hi ∧ PSt rd p n c1 B X0 M0 (i + 1) bt w q0 q dX' dM') := by
  have hs : mX7_sees rd 152 p 3 dX = some (decide ((T B n i).2.1 = 3)) := x_sees hb h (v := 3) (by omega)
  subst hl hh
  unfold mX7_takeWhole mX12_passes
  rw [hs, Option.bind_some, m_18 h]
  by_cases e : (T B n i).2.1 = 3
  · have ha : (T B n i).2.2.2 < 1000 := by
      obtain ⟨s, s1, s2⟩ := T_tok B n i
      rw [s2] at e ⊢
      exact (tok_p (B := B) s1).2.2.2.2.1 e
    have h19 : dM.1 167 19 = nI (T B n i).2.2.2 := h.2.2.1.2.2.2 e
    have hf : dX.1 rd 2 + 1 = nI (i + 1) := by rw [h.2.1, nI_1]
    rw [decide_eq_true e, if_pos rfl, if_pos (mkd_3.mpr e), x_val hb h (by omega), Option.bind_some, L64_32 _ ha, h19, hf]
    generalize (T B n i).2.2.2 = a at ha ⊢
    unfold mX12_in
    by_cases e1 : a < lo
    · rw [if_pos (nI_lt e1 (by omega)), if_pos (nI_lt e1 (by omega)), if_neg Bool.false_ne_true]
      exact Or.inr ⟨_, _, rfl, rfl, p_err h 4⟩
    · rw [if_neg (show ¬ nI a < nI lo from fun t => e1 ((nI_ltI (by omega) (by omega)).mp t)), if_neg (show ¬ nI a < nI lo from fun t => e1 ((nI_ltI (by omega) (by omega)).mp t))]
      by_cases e2 : a ≤ hi
      · obtain ⟨d1, g1, g2, -⟩ := p_go hb h (by omega)
        rw [if_pos (nI_le e2 (by omega)), if_neg (show ¬ nI hi < nI a from fun t => by have := (nI_ltI (by omega) (by omega)).mp t; omega), if_pos rfl, g1, Option.bind_some]
        exact Or.inl ⟨a, _, d1, ha, rfl, rfl, by omega, e2, g2⟩
      · rw [if_neg (nI_ge (by omega) (by omega)), if_pos (show nI hi < nI a from nI_lt (by omega) (by omega)), if_neg Bool.false_ne_true]
        exact Or.inr ⟨_, _, rfl, rfl, p_err h 4⟩
  · rw [decide_eq_false e, if_neg Bool.false_ne_true, if_neg (fun t => e (mkd_3.mp t))]
    exact Or.inr ⟨_, _, rfl, rfl, p_err h 1⟩
theorem x_choice {rd p : Nat} {dX : Dt} {i a : Nat} (h : dX.1 rd 2 = nI i) (ha : a < 10) : (mX7_takeChoice rd 152 p (nI a) dX).1 = nI a ∧ (mX7_takeChoice rd 152 p (nI a) dX).2 = uI dX rd 2 (nI (i + 1)) := by
  unfold mX7_takeChoice
  rw [if_pos (nI_pos' (by omega)), h, nI_1]
  exact ⟨rfl, rfl⟩
theorem val_side {rd p n c1 : Nat} {B : Nat → Nat} {X0 M0 : Dt} {i : Nat} {bt : Bool} {w : Int32 × Int32} {q0 q : Nat → Int32} {dX dM : Dt} (hb : Base rd p n c1 B X0 M0) (h : PSt rd p n c1 B X0 M0 i bt w q0 q dX dM) : PVal rd p n c1 B X0 M0 (mX7_takeSide rd 152 p dX) (mX12_readSide 167 dM) (fun a dX' dM' => a < 4 ∧ PSt rd p n c1 B X0 M0 (i + 1) bt w q0 q dX' dM') := by
  have yes : ∀ k, k < 24 → wd (T B n i) k = true → ∀ a, a < 4 → PVal rd p n c1 B X0 M0 (some ((mX7_takeChoice rd 152 p (nI a) dX).1, (mX7_takeChoice rd 152 p (nI a) dX).2)) ((mX12_goesOn 167 dM).bind fun x => some (nI a, x)) (fun a dX' dM' => a < 4 ∧ PSt rd p n c1 B X0 M0 (i + 1) bt w q0 q dX' dM') := fun k hk hw a ha => by
    obtain ⟨d1, g1, g2, -⟩ := p_go hb h (wd_ne hw)
    obtain ⟨c1, c2⟩ := x_choice (p := p) h.2.1 (show a < 10 by omega)
    rw [g1, c1, c2]
    exact Or.inl ⟨a, _, d1, by omega, rfl, rfl, ha, g2⟩
  unfold mX7_takeSide mX12_readSide
  rw [x_reads hb h (show 12 < 24 by decide), m_word hb h (show 12 < 24 by decide), Option.bind_some, Option.bind_some]
  cases e0 : wd (T B n i) 12 with
  | true => rw [if_pos rfl, if_pos rfl, if_neg (by decide)]; exact yes 12 (by decide) e0 0 (by decide)
  | false =>
    rw [if_neg Bool.false_ne_true, if_neg Bool.false_ne_true, x_reads hb h (show 13 < 24 by decide), m_word hb h (show 13 < 24 by decide), Option.bind_some, Option.bind_some]
    cases e1 : wd (T B n i) 13 with
    | true => rw [if_pos rfl, if_pos rfl, if_neg (by decide)]; exact yes 13 (by decide) e1 1 (by decide)
    | false =>
      rw [if_neg Bool.false_ne_true, if_neg Bool.false_ne_true, x_reads hb h (show 14 < 24 by decide), m_word hb h (show 14 < 24 by decide), Option.bind_some, Option.bind_some]
      cases e2 : wd (T B n i) 14 with
      | true => rw [if_pos rfl, if_pos rfl, if_neg (by decide)]; exact yes 14 (by decide) e2 2 (by decide)
      | false =>
        rw [if_neg Bool.false_ne_true, if_neg Bool.false_ne_true, x_reads hb h (show 15 < 24 by decide), m_word hb h (show 15 < 24 by decide), Option.bind_some, Option.bind_some]
        cases e3 : wd (T B n i) 15 with
        | true => rw [if_pos rfl, if_pos rfl, if_neg (by decide)]; exact yes 15 (by decide) e3 3 (by decide)
        | false =>
          rw [if_neg Bool.false_ne_true, if_neg Bool.false_ne_true, if_pos (show (mX12_errs 167 1 dM).1 = -1 from rfl)]
          exact Or.inr ⟨_, _, rfl, rfl, p_err h 1⟩
theorem val_kind {rd p n c1 : Nat} {B : Nat → Nat} {X0 M0 : Dt} {i : Nat} {bt : Bool} {w : Int32 × Int32} {q0 q : Nat → Int32} {dX dM : Dt} (hb : Base rd p n c1 B X0 M0) (h : PSt rd p n c1 B X0 M0 i bt w q0 q dX dM) : PVal rd p n c1 B X0 M0 (mX7_takeKind rd 152 p dX) (mX12_readKind 167 dM) (fun a dX' dM' => a < 3 ∧ PSt rd p n c1 B X0 M0 (i + 1) bt w q0 q dX' dM') := by
  have yes : ∀ k, k < 24 → wd (T B n i) k = true → ∀ a, a < 3 → PVal rd p n c1 B X0 M0 (some ((mX7_takeChoice rd 152 p (nI a) dX).1, (mX7_takeChoice rd 152 p (nI a) dX).2)) ((mX12_goesOn 167 dM).bind fun x => some (nI a, x)) (fun a dX' dM' => a < 3 ∧ PSt rd p n c1 B X0 M0 (i + 1) bt w q0 q dX' dM') := fun k hk hw a ha => by
    obtain ⟨d1, g1, g2, -⟩ := p_go hb h (wd_ne hw)
    obtain ⟨c1, c2⟩ := x_choice (p := p) h.2.1 (show a < 10 by omega)
    rw [g1, c1, c2]
    exact Or.inl ⟨a, _, d1, by omega, rfl, rfl, ha, g2⟩
  unfold mX7_takeKind mX12_readKind
  rw [x_reads hb h (show 21 < 24 by decide), m_word hb h (show 21 < 24 by decide), Option.bind_some, Option.bind_some]
  cases e0 : wd (T B n i) 21 with
  | true => rw [if_pos rfl, if_pos rfl, if_neg (by decide)]; exact yes 21 (by decide) e0 0 (by decide)
  | false =>
    rw [if_neg Bool.false_ne_true, if_neg Bool.false_ne_true, x_reads hb h (show 22 < 24 by decide), m_word hb h (show 22 < 24 by decide), Option.bind_some, Option.bind_some]
    cases e1 : wd (T B n i) 22 with
    | true => rw [if_pos rfl, if_pos rfl, if_neg (by decide)]; exact yes 22 (by decide) e1 1 (by decide)
    | false =>
      rw [if_neg Bool.false_ne_true, if_neg Bool.false_ne_true, x_reads hb h (show 23 < 24 by decide), m_word hb h (show 23 < 24 by decide), Option.bind_some, Option.bind_some]
      cases e2 : wd (T B n i) 23 with
      | true => rw [if_pos rfl, if_pos rfl, if_neg (by decide)]; exact yes 23 (by decide) e2 2 (by decide)
      | false =>
        rw [if_neg Bool.false_ne_true, if_neg Bool.false_ne_true, if_pos (show (mX12_errs 167 1 dM).1 = -1 from rfl)]
        exact Or.inr ⟨_, _, rfl, rfl, p_err h 1⟩
/-! how a line goes on -/
theorem two_err {rd p n c1 : Nat} {B : Nat → Nat} {X0 M0 : Dt} {i : Nat} {bt : Bool} {w : Int32 × Int32} {q0 q : Nat → Int32} {dX dM : Dt} {X M : Option (Bool × Dt)} {P : Dt → Dt → Prop} (h : PSt rd p n c1 B X0 M0 i bt w q0 q dX dM) (f : Nat) (e1 : X = some (false, uI dX rd 6 (nI f))) (e2 : M = some (false, (mX12_errs 167 (nI f) dM).2)) : PTwo rd p n c1 B X0 M0 X M P :=
  ⟨false, _, false, _, e1, e2, Or.inr (Or.inl ⟨rfl, rfl, p_err h f⟩)⟩
theorem two_take {rd p n c1 : Nat} {B : Nat → Nat} {X0 M0 : Dt} {i : Nat} {bt : Bool} {w : Int32 × Int32} {q0 q : Nat → Int32} {dX dM : Dt} {k : Nat} {F : Bool × Dt → Option (Bool × Dt)} {H : Bool → Option (Bool × Dt)} {X' H' : Dt → Option (Bool × Dt)} {P : Dt → Dt → Prop} (hb : Base rd p n c1 B X0 M0) (h : PSt rd p n c1 B X0 M0 i bt w q0 q dX dM) (hk : k < 24)
    (fX : ∀ d, F (false, d) = some (false, d)) (tX : ∀ d, F (true, d) = X' d) (fM : H false = some (false, (mX12_errs 167 1 dM).2)) (tM : H true = (mX12_goesOn 167 dM).bind H')
    (ok : ∀ dX dM, PSt rd p n c1 B X0 M0 (i + 1) bt w q0 q dX dM → PTwo rd p n c1 B X0 M0 (X' dX) (H' dM) P) : PTwo rd p n c1 B X0 M0 ((mX7_take rd 152 p k dX).bind F) ((mX12_isWord 167 k dM).bind H) P := by
  unfold mX7_take
  rw [x_reads hb h hk, m_word hb h hk, Option.bind_some, Option.bind_some]
  cases e : wd (T B n i) k with
  | true =>
    obtain ⟨d1, g1, g2, -⟩ := p_go hb h (wd_ne e)
    rw [if_pos rfl, Option.bind_some, tX, tM, g1, Option.bind_some, h.2.1, nI_1]
    exact ok _ _ g2
  | false =>
    rw [if_neg Bool.false_ne_true, Option.bind_some, fM]
    exact two_err h 1 (fX _) rfl
theorem lays_m1 {A : Nat} {d : Dt} (hA : A < 267) : mX12_lays 167 (nI A) (-1) d = some (false, uI d (167 + 3) A (-1)) := by
  unfold mX12_lays
  rw [if_pos (inB_nI hA (by decide)), if_pos rfl, cl_nI (by omega)]
theorem lays_v {A a : Nat} {d : Dt} (hA : A < 267) (ha : a < 1000) : mX12_lays 167 (nI A) (nI a) d = some (true, uI d (167 + 3) A (nI a)) := by
  have n1 : ∀ a, a < 1000 → ¬ nI a = (-1 : Int32) := by decide +kernel
  unfold mX12_lays
  rw [if_pos (inB_nI hA (by decide)), if_neg (n1 a ha), cl_nI (by omega)]
theorem two_val {rd p n c1 : Nat} {B : Nat → Nat} {X0 M0 : Dt} {A : Nat} {sl : Int32} {X M : Option (Int32 × Dt)} {Q : Nat → Dt → Dt → Prop} {F : Int32 × Dt → Option (Bool × Dt)} {H : Bool × Dt → Option (Bool × Dt)} {X' : Nat → Dt → Option (Bool × Dt)} {H' : Dt → Option (Bool × Dt)} {P : Dt → Dt → Prop} (hv : PVal rd p n c1 B X0 M0 X M Q) (hA : A < 267) (hsl : sl = nI A)
    (fX : ∀ d, F (-1, d) = some (false, d)) (tX : ∀ a d, a < 1000 → F (nI a, d) = X' a d) (fM : ∀ d, H (false, d) = some (false, d)) (tM : ∀ d, H (true, d) = H' d)
    (ok : ∀ a dX dM, Q a dX dM → PTwo rd p n c1 B X0 M0 (X' a dX) (H' (uI dM (167 + 3) A (nI a))) P) : PTwo rd p n c1 B X0 M0 (X.bind F) (M.bind fun x => (mX12_lays 167 sl x.1 x.2).bind H) P := by
  subst hsl
  rcases hv with ⟨a, dX, dM, a1, a2, a3, a4⟩ | ⟨dX, dM, a2, a3, a4⟩
  · rw [a2, a3, Option.bind_some, Option.bind_some, lays_v hA a1, Option.bind_some, tX a dX a1, tM]
    exact ok a dX dM a4
  · rw [a2, a3, Option.bind_some, Option.bind_some, lays_m1 hA, Option.bind_some, fX, fM]
    exact ⟨_, _, _, _, rfl, rfl, Or.inr (Or.inl ⟨rfl, rfl, PFl_row a4⟩)⟩
theorem two_after {rd p n c1 : Nat} {B : Nat → Nat} {X0 M0 : Dt} {i : Nat} {bt : Bool} {w : Int32 × Int32} {q0 q : Nat → Int32} {dX dM : Dt} {k A lo hi : Nat} {sl vl vh : Int32} {F H : Bool × Dt → Option (Bool × Dt)} {G : Int32 × Dt → Option (Bool × Dt)} {X' : Nat → Dt → Option (Bool × Dt)} {H' : Dt → Option (Bool × Dt)} {P : Dt → Dt → Prop} (hb : Base rd p n c1 B X0 M0) (h : PSt rd p n c1 B X0 M0 i bt w q0 q dX dM) (hk : k < 24) (hl : vl = nI lo) (hh : vh = nI hi) (h1 : lo < 1000) (h2 : hi < 1000) (hA : A < 267) (hsl : sl = nI A)
    (fX : ∀ d, F (false, d) = some (false, d)) (tX : ∀ d, F (true, d) = (mX7_takeWhole rd 152 p vl vh d).bind G) (fG : ∀ d, G (-1, d) = some (false, d)) (tG : ∀ a d, a < 1000 → G (nI a, d) = X' a d) (fM : ∀ d, H (false, d) = some (false, d)) (tM : ∀ d, H (true, d) = H' d)
    (ok : ∀ a dX dM, lo ≤ a → a ≤ hi → PSt rd p n c1 B X0 M0 (i + 2) bt w q0 (upq q A (nI a)) dX dM → PTwo rd p n c1 B X0 M0 (X' a dX) (H' dM) P) : PTwo rd p n c1 B X0 M0 ((mX7_take rd 152 p k dX).bind F) ((mX12_after 167 k vl vh dM).bind fun x => (mX12_lays 167 sl x.1 x.2).bind H) P := by
  unfold mX12_after
  by_cases e : wd (T B n i) k = true
  · obtain ⟨d1, g1, g2, -⟩ := p_go hb h (wd_ne e)
    have eX : mX7_take rd 152 p k dX = some (true, uI dX rd 2 (nI (i + 1))) := by
      unfold mX7_take
      rw [x_reads hb h hk, Option.bind_some, if_pos e, h.2.1, nI_1]
    rw [eX, Option.bind_some, tX, m_word hb h hk, Option.bind_some, if_pos e, g1, Option.bind_some]
    have v := val_whole hb g2 hl hh h1 h2
    refine two_val (X := mX7_takeWhole rd 152 p vl vh (uI dX rd 2 (nI (i + 1)))) (M := (mX12_passes 167 vl vh d1).bind fun x7 => some (x7.1, x7.2)) (Q := fun a dX' dM' => lo ≤ a ∧ a ≤ hi ∧ PSt rd p n c1 B X0 M0 (i + 1 + 1) bt w q0 q dX' dM') ?_ hA hsl fG tG fM tM (fun a dX dM ⟨z1, z2, z3⟩ => ok a _ _ z1 z2 (PSt_row z3))
    rcases v with ⟨a, x1, x2, v1, v2, v3, v4⟩ | ⟨x1, x2, v2, v3, v4⟩
    · exact Or.inl ⟨a, x1, x2, v1, v2, by rw [v3]; rfl, v4⟩
    · exact Or.inr ⟨x1, x2, v2, by rw [v3]; rfl, v4⟩
  · have e := Bool.eq_false_iff.mpr e
    have eX : mX7_take rd 152 p k dX = some (false, uI dX rd 6 1) := by
      unfold mX7_take
      rw [x_reads hb h hk, Option.bind_some, e, if_neg Bool.false_ne_true]; rfl
    rw [eX, Option.bind_some, fX, m_word hb h hk, Option.bind_some, e, if_neg Bool.false_ne_true, Option.bind_some, show (mX12_errs 167 1 dM).1 = -1 from rfl, hsl, lays_m1 hA, Option.bind_some, fM]
    exact ⟨_, _, _, _, rfl, rfl, Or.inr (Or.inl ⟨rfl, rfl, PFl_row (p_err h 1)⟩)⟩
theorem two_new {rd p n c1 : Nat} {B : Nat → Nat} {X0 M0 : Dt} {i : Nat} {bt : Bool} {w : Int32 × Int32} {q0 q : Nat → Int32} {dX dM : Dt} {F : Int64 × Dt → Option (Bool × Dt)} {H : Bool × Dt → Option (Bool × Dt)} {X' : Int64 → Dt → Option (Bool × Dt)} {H' : Dt → Option (Bool × Dt)} {P : Dt → Dt → Prop} (hb : Base rd p n c1 B X0 M0) (h : PSt rd p n c1 B X0 M0 i bt w q0 q dX dM)
    (fX : ∀ d, F (0, d) = some (false, d)) (tX : ∀ v d, v ≠ 0 → F (v, d) = X' v d) (fM : ∀ d, H (false, d) = some (false, d)) (tM : ∀ d, H (true, d) = H' d)
    (ok : ∀ v dX dM, dM.2 167 23 = v → PSt rd p n c1 B X0 M0 (i + 1) bt w q0 q dX dM → PTwo rd p n c1 B X0 M0 (X' v dX) (H' dM) P) : PTwo rd p n c1 B X0 M0 ((mX7_takeNewName rd 152 p dX).bind F) ((mX12_passesNew 167 dM).bind H) P := by
  have hs : mX7_sees rd 152 p 1 dX = some (decide ((T B n i).2.1 = 1)) := x_sees hb h (v := 1) (by omega)
  have hn : mX12_isName 167 dM = some (decide ((T B n i).2.1 = 1)) := by
    obtain ⟨s, s1, s2⟩ := T_tok B n i
    have ht := h.2.2.1
    rw [s2] at ht ⊢
    exact M_isName (PSt_mx hb h) s1 ht
  unfold mX7_takeNewName mX12_passesNew
  rw [hs, hn, Option.bind_some, Option.bind_some]
  by_cases h1 : (T B n i).2.1 = 1
  · obtain ⟨r, r1, r2, r3⟩ := p_mean hb h h1
    have hsp : mX12_spelt 167 dM = some (L64 (T B n i).2.2.2) := by
      obtain ⟨s, s1, s2⟩ := T_tok B n i
      have ht := h.2.2.1
      rw [s2] at ht h1 ⊢
      exact M_spelt (PSt_mx hb h) s1 ht h1
    obtain ⟨v1, v2⟩ := T_val hb.2.2.2.2.1 (Or.inl h1)
    rw [decide_eq_true h1, if_pos rfl, if_pos rfl, x_val hb h (by omega), Option.bind_some, r1, Option.bind_some, r2, Option.bind_some]
    rcases r3 with rfl | ⟨u, u0, rfl, u1⟩
    · have m1 := PSt_m (d1 := uL dM 167 23 (L64 (T B n i).2.2.2)) (j := i) h ⟨h.2.2.1.1, h.2.2.1.2.1, h.2.2.1.2.2.1, h.2.2.1.2.2.2⟩ h.1 h.2.1 (fun o k _ => rfl) (fun o k z => dL_ne (by omega))
      obtain ⟨d1, g1, g2, g3⟩ := p_go hb m1 (by omega)
      rw [if_pos (show (-1 : Int32) < 0 by decide), if_pos rfl, Option.bind_some, hsp, Option.bind_some, g1, Option.bind_some, Option.bind_some, tM, h.2.1, nI_1, tX _ _ (fun z => by have := L64_inj (b := 0) (by omega) (by omega) z; omega)]
      exact ok _ _ _ (by rw [g3, dL_at]) g2
    · rw [if_neg (nI_pos (by omega)), if_neg (show ¬ nI u = -1 from by
        have : ∀ u, u < 400 → ¬ nI u = (-1 : Int32) := by decide +kernel
        exact this u u0), Option.bind_some, Option.bind_some, fM]
      exact two_err h 3 (fX _) rfl
  · rw [decide_eq_false h1, if_neg Bool.false_ne_true, if_neg Bool.false_ne_true, Option.bind_some, Option.bind_some, fM]
    exact two_err h 1 (fX _) rfl
