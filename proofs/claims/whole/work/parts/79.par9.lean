/-! lines: nets; while its pins are read the class has told the net already -/
def Vn (p k c : Nat) (d : Dt) : Dt := uI (uI d p 3 (nI k)) (p + 32) 0 (nI c)
theorem uI_comm {d : Dt} {o k o' k' : Nat} {v v' : Int32} (h : o ≠ o') : uI (uI d o k v) o' k' v' = uI (uI d o' k' v') o k v := by
  apply Prod.ext
  · funext i j
    show (if i = o' ∧ j = k' then v' else if i = o ∧ j = k then v else d.1 i j) = if i = o ∧ j = k then v else if i = o' ∧ j = k' then v' else d.1 i j
    by_cases a : i = o' ∧ j = k'
    · rw [if_pos a, if_neg (show ¬ (i = o ∧ j = k) by omega), if_pos a]
    · rw [if_neg a, if_neg a]
  · rfl
theorem Vn_comm {rd p k c s : Nat} {d : Dt} {v : Int32} (hp : (p = 2 ∨ p = 77) ∧ 183 ≤ rd) : Vn p k c (uI d rd s v) = uI (Vn p k c d) rd s v := by
  unfold Vn
  rw [uI_comm (d := d) (o := rd) (o' := p) (by omega), uI_comm (d := uI d p 3 (nI k)) (o := rd) (o' := p + 32) (by omega)]
theorem Vn_ne {p k c : Nat} {d : Dt} {o j : Nat} (h1 : ¬ (o = p ∧ j = 3)) (h2 : ¬ (o = p + 32 ∧ j = 0)) : (Vn p k c d).1 o j = d.1 o j := by
  unfold Vn
  rw [dI_ne (by omega), dI_ne (by omega)]
theorem Vn_sees {rd p k c : Nat} {d : Dt} {v : Int32} (hp : (p = 2 ∨ p = 77) ∧ 183 ≤ rd) : mX7_sees rd 152 p v d = mX7_sees rd 152 p v (Vn p k c d) := by
  unfold mX7_sees mX8_kindOf
  rw [Vn_ne (by omega) (by omega), Vn_ne (by omega) (by omega), Vn_ne (by omega) (by omega)]
theorem Vn_val {rd p k c : Nat} {d : Dt} (hp : (p = 2 ∨ p = 77) ∧ 183 ≤ rd) : mX8_valueOf 152 (d.1 rd 2) d = mX8_valueOf 152 ((Vn p k c d).1 rd 2) (Vn p k c d) := by
  unfold mX8_valueOf
  rw [Vn_ne (by omega) (by omega), Vn_ne (by omega) (by omega)]; rfl
theorem PFl_V {rd p n c1 : Nat} {B : Nat → Nat} {X0 M0 : Dt} {k c : Nat} {dX dM : Dt} (hp : (p = 2 ∨ p = 77) ∧ 183 ≤ rd) (h : PFl rd p n c1 B X0 M0 (Vn p k c dX) dM) : PFl rd p n c1 B X0 M0 dX dM := by
  obtain ⟨j, f, a1, a2, a3, a4, a5, a6, a7⟩ := h
  refine ⟨j, f, a1, by rw [← Vn_ne (p := p) (k := k) (c := c) (by omega) (by omega)]; exact a2, by rw [← Vn_ne (p := p) (k := k) (c := c) (by omega) (by omega)]; exact a3, a4, a5, ⟨fun o j z1 z2 => ?_, a6.2⟩, a7⟩
  rw [← Vn_ne (p := p) (k := k) (c := c) (by omega) (by omega)]; exact a6.1 o j z1 z2
def NS (p : Nat) (q0 q : Nat → Int32) (c k z : Nat) (v : Int64) (dX : Dt) : Prop :=
  dX.1 p 3 = nI (k + 1) ∧ dX.1 (p + 2) k = nI (300 + c) ∧ dX.2 (p + 1) k = v ∧ dX.1 (p + 32) 0 = nI (c + 1) ∧
  (∀ j, j < 6 → j ≠ 2 → dX.1 (p + 32 + 1 + j) c = q (97 + 16 * c + j)) ∧ dX.1 (p + 32 + 3) c = nI z ∧ q (97 + 16 * c + 2) = nI z ∧ z ≤ 5 ∧
  ∀ l, l < z → ∃ pl cv, pl < nP q0 ∧ cv < 12 ∧ dX.1 (p + 32 + 8 + c) l = nI pl ∧ q (97 + 16 * c + (6 + 2 * l)) = nI pl ∧ dX.1 (p + 32 + 19 + c) l = nI cv ∧ q (97 + 16 * c + (6 + 2 * l) + 1) = nI cv ∧ dX.1 (p + 32 + 30 + c) l = q0 (49 + 6 * pl) ∧ ∃ ho, q0 (49 + 6 * pl + 1) = nI ho ∧ cv < ho ∧ ho ≤ 12
theorem NS_x {rd p : Nat} {q0 q : Nat → Int32} {c k z s : Nat} {v : Int64} {dX : Dt} {u : Int32} (hp : (p = 2 ∨ p = 77) ∧ 183 ≤ rd) (hc : c < 10) (h : NS p q0 q c k z v dX) : NS p q0 q c k z v (uI dX rd s u) := by
  obtain ⟨h1, h2, h3, h4, h5, h6, h7, h8, h9⟩ := h
  refine ⟨by rw [dI_ne (by omega)]; exact h1, by rw [dI_ne (by omega)]; exact h2, h3, by rw [dI_ne (by omega)]; exact h4, fun j z1 z2 => by rw [dI_ne (by omega)]; exact h5 j z1 z2, by rw [dI_ne (by omega)]; exact h6, h7, h8, fun l hl => ?_⟩
  obtain ⟨pl, cv, y1, y2, y3, y4, y5, y6, y7, y8⟩ := h9 l hl
  exact ⟨pl, cv, y1, y2, by rw [dI_ne (by omega)]; exact y3, y4, by rw [dI_ne (by omega)]; exact y5, y6, by rw [dI_ne (by omega)]; exact y7, y8⟩
theorem PSt_c {rd p n c1 : Nat} {B : Nat → Nat} {X0 M0 : Dt} {i : Nat} {w : Int32 × Int32} {q0 q : Nat → Int32} {dX dM d1 : Dt} {c : Nat} (hb : Base rd p n c1 B X0 M0) (h : PSt rd p n c1 B X0 M0 i true w q0 q dX dM) (hc : nT q0 ≤ c) (hc10 : c < 10) (f : ∀ o j, ¬ (o = p + 40 + c ∨ o = p + 51 + c ∨ o = p + 62 + c) → ¬ (p + 33 ≤ o ∧ o ≤ p + 38 ∧ j = c) → d1.1 o j = dX.1 o j) (g : d1.2 = dX.2) : PSt rd p n c1 B X0 M0 i true w q0 q d1 dM := by
  obtain ⟨b1, b2, b3, b4, b5, b6, b7, b8, b9, b10, b11⟩ := h
  have hp := hb.1
  obtain ⟨⟨-, a1⟩, ⟨-, a2⟩, ⟨-, a3⟩, ⟨-, a4⟩, ⟨-, a5⟩⟩ := b11.cs
  refine ⟨b1, by rw [f _ _ (by omega) (by omega)]; exact b2, b3, ⟨fun o j z1 z2 => by rw [f _ _ (by omega) (by omega)]; exact b4.1 o j z1 z2, fun o j z => by rw [g]; exact b4.2 o j z⟩, b5, ⟨by rw [f _ _ (by omega) (by omega)]; exact b6.1, by rw [f _ _ (by omega) (by omega)]; exact b6.2⟩, ⟨by rw [f _ _ (by omega) (by omega)]; exact b7.1, b7.2⟩, b8, ⟨fun z => ⟨by rw [f _ _ (by omega) (by omega)]; exact (b9.1 z).1, by rw [f _ _ (by omega) (by omega)]; exact (b9.1 z).2⟩, by rw [f _ _ (by omega) (by omega)]; exact b9.2.1, ?_, ?_, ⟨?_, fun i hi => ⟨fun k hk => ?_, fun k hk => ?_⟩⟩, ?_⟩, NmR_congr b10 (f _ _ (by omega) (by omega)) (fun j => f _ _ (by omega) (by omega)) (fun j => by rw [g]) rfl (fun _ => rfl) (fun _ => rfl), b11⟩
  · exact XTr_c b9.2.2.1 rfl (fun _ _ _ => rfl) a1 (fun o j _ _ => f _ _ (by omega) (by omega))
  · exact XPl_c b9.2.2.2.1 rfl (fun _ _ _ => rfl) a3 (fun o j _ _ => f _ _ (by omega) (by omega))
  · rw [f _ _ (by omega) (by omega)]; exact b9.2.2.2.2.1.1
  · rw [f _ _ (by omega) (by omega)]; exact (b9.2.2.2.2.1.2 i hi).1 k hk
  · rw [f _ _ (by omega) (by omega), f _ _ (by omega) (by omega), f _ _ (by omega) (by omega)]; exact (b9.2.2.2.2.1.2 i hi).2 k hk
  · exact XBu_c b9.2.2.2.2.2 rfl (fun _ _ _ => rfl) a5 (fun o j _ _ => f _ _ (by omega) (by omega))
theorem findI_s {c : Nat → Bool} : ∀ k i, i + k < 100 → findI c i (k + 1) = if findI c i k = -1 then (if c (i + k) = true then nI (i + k) else -1) else findI c i k := by
  intro k
  induction k with
  | zero => intro i _; rw [if_pos (show findI c i 0 = -1 from rfl)]; rfl
  | succ k ih =>
    intro i hi
    have e : ∀ m, findI c i (m + 1) = if c i = true then nI i else findI c (i + 1) m := fun _ => rfl
    rw [e (k + 1), e k]
    by_cases h : c i = true
    · rw [if_pos h, if_pos h, if_neg (nI_m1 (by omega))]
    · rw [if_neg h, if_neg h, ih (i + 1) (by omega), show i + 1 + k = i + (k + 1) by omega]
/-- a plug's name where the net itself is told already -/
theorem pn_here {rd p n c1 : Nat} {B : Nat → Nat} {X0 M0 : Dt} {i : Nat} {w : Int32 × Int32} {q0 q : Nat → Int32} {dX dM : Dt} {c k z : Nat} {v : Int64} (hb : Base rd p n c1 B X0 M0) (h : PSt rd p n c1 B X0 M0 i true w q0 q (Vn p k c dX) dM) (hN : NS p q0 q c k z v dX) (hk : k = nN q0 + nO q0 + nP q0 + nT q0) (hk36 : k < 36) (hc10 : c < 10) : (∃ a, a < nP q0 ∧ mX7_takeNamed rd 152 p 200 dX = some (nI a, uI dX rd 2 (nI (i + 1))) ∧ mX12_here 167 200 dM = some (nI a, dM) ∧ (T B n i).2.1 = 1) ∨
    ∃ f, mX7_takeNamed rd 152 p 200 dX = some (-1, uI dX rd 6 (nI f)) ∧ mX12_here 167 200 dM = some (-1, (mX12_errs 167 (nI f) dM).2) := by
  have hp := hb.1
  have at2 : dX.1 rd 2 = nI i := by rw [← Vn_ne (p := p) (k := k) (c := c) (by omega) (by omega)]; exact h.2.1
  have w11 := h.wp
  obtain ⟨⟨-, a1⟩, ⟨-, a2⟩, ⟨-, a3⟩, ⟨-, a4⟩, -⟩ := w11.cs
  have hs : mX7_sees rd 152 p 1 dX = some (decide ((T B n i).2.1 = 1)) := (Vn_sees (k := k) (c := c) hp).trans (x_sees hb h (v := 1) (by omega))
  have hn : mX12_isName 167 dM = some (decide ((T B n i).2.1 = 1)) := by
    obtain ⟨s, s1, s2⟩ := T_tok B n i
    have ht := h.2.2.1
    rw [s2] at ht ⊢
    exact M_isName (PSt_mx hb h) s1 ht
  unfold mX7_takeNamed mX12_here
  rw [hs, hn, Option.bind_some, Option.bind_some]
  by_cases h1 : (T B n i).2.1 = 1
  · obtain ⟨r, r1, r2, r3⟩ := p_mean hb h h1
    have vl : mX8_valueOf 152 (dX.1 rd 2) dX = some (L64 (T B n i).2.2.2) := (Vn_val (k := k) (c := c) hp).trans (x_val hb h (by omega))
    obtain ⟨n1, n2, n3, n4, -⟩ := hN
    obtain ⟨k', y1, y2, y3, y4⟩ := h.nm
    obtain rfl : k' = k := by omega
    have rX : ∃ r', mX4_meaningOf p (L64 (T B n i).2.2.2) dX = some r' ∧ (r' = r ∨ (r = -1 ∧ r' = nI (300 + c))) := by
      generalize L64 (T B n i).2.2.2 = u at r1 ⊢
      have lX : mX4_meaningOf p u dX = (fun z : Int32 => if z = -1 then some (-1) else some (dX.1 (p + 2) z.toNatClampNeg)) (findI (fun j => decide (dX.2 (p + 1) j = u)) 0 (k' + 1)) := loop_find (fun n i => mX4_meaningOf_2 dX p u n i) (fun j => decide (dX.2 (p + 1) j = u)) (fun z => if z = -1 then some (-1) else some (dX.1 (p + 2) z.toNatClampNeg)) (k' + 1)
        (fun fuel i hi => by
          show mX4_meaningOf_2 dX p u (fuel + 1) (nI i) = _
          rw [mX4_meaningOf_2, n1, if_neg (nI_ge hi (by omega)), if_pos (inB_nI (by omega) (by decide)), if_pos (inB_nI (by omega) (by decide)), cl_nI (by omega), nI_1, if_neg (nI_m1 (show i < 100 by omega))]
          by_cases e : dX.2 (p + 1) i = u
          · rw [if_pos e, if_pos (by simp [e])]
          · rw [if_neg e, if_neg (by simp [e])])
        (fun fuel => by
          show mX4_meaningOf_2 dX p u (fuel + 1) (nI (k' + 1)) = _
          rw [mX4_meaningOf_2, n1, if_pos (Int32.le_refl _), if_pos rfl]) (k' + 1) 0 FUEL (Nat.zero_add _) (fuel_big (by omega))
      have lV : mX4_meaningOf p u (Vn p k' c dX) = (fun z : Int32 => if z = -1 then some (-1) else some (dX.1 (p + 2) z.toNatClampNeg)) (findI (fun j => decide (dX.2 (p + 1) j = u)) 0 k') := loop_find (fun n i => mX4_meaningOf_2 (Vn p k' c dX) p u n i) (fun j => decide (dX.2 (p + 1) j = u)) (fun z => if z = -1 then some (-1) else some (dX.1 (p + 2) z.toNatClampNeg)) k'
        (fun fuel i hi => by
          show mX4_meaningOf_2 (Vn p k' c dX) p u (fuel + 1) (nI i) = _
          rw [mX4_meaningOf_2, y2, if_neg (nI_ge hi (by omega)), if_pos (inB_nI (by omega) (by decide)), if_pos (inB_nI (by omega) (by decide)), cl_nI (by omega), nI_1, if_neg (nI_m1 (show i < 100 by omega)), Vn_ne (by omega) (by omega), show (Vn p k' c dX).2 = dX.2 from rfl]
          by_cases e : dX.2 (p + 1) i = u
          · rw [if_pos e, if_pos (by simp [e])]
          · rw [if_neg e, if_neg (by simp [e])])
        (fun fuel => by
          show mX4_meaningOf_2 (Vn p k' c dX) p u (fuel + 1) (nI k') = _
          rw [mX4_meaningOf_2, y2, if_pos (Int32.le_refl _), if_pos rfl]) k' 0 FUEL (Nat.zero_add _) (fuel_big (by omega))
      rw [findI_s k' 0 (by omega), Nat.zero_add] at lX
      by_cases e : findI (fun j => decide (dX.2 (p + 1) j = u)) 0 k' = -1
      · rw [if_pos e] at lX
        rw [e] at lV
        have er : r = -1 := by
          have := r1.symm.trans lV
          exact Option.some.inj this
        by_cases e2 : decide (dX.2 (p + 1) k' = u) = true
        · rw [if_pos e2] at lX
          refine ⟨_, lX.trans ?_, Or.inr ⟨er, rfl⟩⟩
          dsimp only
          rw [if_neg (nI_m1 (by omega)), cl_nI (by omega), n2]
        · rw [if_neg e2] at lX
          exact ⟨_, lX, Or.inl er.symm⟩
      · rw [if_neg e] at lX
        exact ⟨r, lX.trans (lV.symm.trans r1), Or.inl rfl⟩
    obtain ⟨r', q1, q2⟩ := rX
    rw [decide_eq_true h1, if_pos rfl, if_pos rfl, vl, Option.bind_some, q1, Option.bind_some, r2, Option.bind_some]
    rcases q2 with rfl | ⟨rfl, rfl⟩
    · rcases r3 with rfl | ⟨u, u0, rfl, u1⟩
      · refine Or.inr ⟨2, ?_, ?_⟩
        · rw [if_pos (show (-1 : Int32) < 200 by decide)]; rfl
        · rw [if_pos rfl]; rfl
      · have hd : (nI u / (100 : Int32) = (200 : Int32) / (100 : Int32)) ↔ u / 100 = 2 := by
          rw [show (100 : Int32) = nI 100 from rfl, show (200 : Int32) = nI 200 from rfl, pk_div (by omega) (by omega) (by omega), pk_div (by omega) (by omega) (by omega)]
          exact nI_eq (by omega) (by omega)
        have n1 : ¬ nI u = (-1 : Int32) := by
          have : ∀ u, u < 400 → ¬ nI u = (-1 : Int32) := by decide +kernel
          exact this u u0
        rw [if_neg n1]
        unfold MOk at u1
        by_cases e : u / 100 = 2
        · refine Or.inl ⟨u - 200, by omega, ?_, ?_, h1⟩
          · rw [if_neg (show ¬ nI u < 200 from fun t => by have := (nI_ltI (b := 200) (by omega) (by omega)).mp t; omega), show (200 : Int32) + 100 = nI 300 from rfl, if_pos (nI_lt (by omega) (by omega)), show (200 : Int32) = nI 200 from rfl, nI_sub (by omega), at2, nI_1]
          · rw [if_pos (hd.mpr e), show (200 : Int32) = nI 200 from rfl, nI_sub (by omega)]
        · refine Or.inr ⟨2, ?_, ?_⟩
          · by_cases e2 : u < 200
            · rw [if_pos (show nI u < 200 from nI_lt (b := 200) e2 (by omega))]; rfl
            · rw [if_neg (show ¬ nI u < 200 from fun t => e2 ((nI_ltI (b := 200) (by omega) (by omega)).mp t)), show (200 : Int32) + 100 = nI 300 from rfl, if_neg (fun t => by have := (nI_ltI (by omega) (by omega)).mp t; omega)]; rfl
          · rw [if_neg (fun t => e (hd.mp t))]; rfl
    · refine Or.inr ⟨2, ?_, ?_⟩
      · rw [if_neg (show ¬ nI (300 + c) < 200 from fun t => by have := (nI_ltI (b := 200) (by omega) (by omega)).mp t; omega), show (200 : Int32) + 100 = nI 300 from rfl, if_neg (fun t => by have := (nI_ltI (by omega) (by omega)).mp t; omega)]; rfl
      · rw [if_pos rfl]; rfl
  · rw [decide_eq_false h1, if_neg Bool.false_ne_true, if_neg Bool.false_ne_true]
    exact Or.inr ⟨1, rfl, rfl⟩
