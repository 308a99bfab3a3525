/-! lines: WHEN, plugs -/
theorem dI_is {d : Dt} {o k o' k' : Nat} {v : Int32} (h1 : o' = o) (h2 : k' = k) : (uI d o k v).1 o' k' = v := by subst h1 h2; exact dI_at _ _ _ _
theorem PFl_x {rd p n c1 : Nat} {B : Nat → Nat} {X0 M0 : Dt} {dX dM : Dt} {k : Nat} {v : Int32} (h : PFl rd p n c1 B X0 M0 dX dM) (hk : k ≠ 2 ∧ k ≠ 6) : PFl rd p n c1 B X0 M0 (uI dX rd k v) dM := by
  obtain ⟨j, f, a1, a2, a3, a4, a5, a6, a7⟩ := h
  refine ⟨j, f, a1, by rw [dI_ne (by omega)]; exact a2, by rw [dI_ne (by omega)]; exact a3, a4, a5, ⟨fun o k z1 z2 => ?_, a6.2⟩, a7⟩
  rw [dI_ne (by omega)]; exact a6.1 o k z1 z2
theorem PSt_w {rd p n c1 : Nat} {B : Nat → Nat} {X0 M0 : Dt} {i : Nat} {bt : Bool} {w : Int32 × Int32} {q0 q : Nat → Int32} {dX dM : Dt} (hb : Base rd p n c1 B X0 M0) (h : PSt rd p n c1 B X0 M0 i bt w q0 q dX dM) (a b : Int32) : PSt rd p n c1 B X0 M0 i bt (a, b) q0 q (uI (uI dX rd 3 a) rd 4 b) dM :=
  PSt_x hb h h.1 (by rw [dI_ne (by omega), dI_ne (by omega)]; exact h.2.1) ⟨by rw [dI_ne (by omega), dI_at], dI_at _ _ _ _⟩ (by rw [dI_ne (by omega), dI_ne (by omega)]) (fun o k z => by rw [dI_ne (by omega), dI_ne (by omega)]) rfl h.2.2.1
theorem two_when {rd p n c1 : Nat} {B : Nat → Nat} {X0 M0 : Dt} {i : Nat} {bt : Bool} {w : Int32 × Int32} {q0 q : Nat → Int32} {dX dM : Dt} {A : Nat} {sl : Int32} {F H : Bool × Dt → Option (Bool × Dt)} {X' H' : Dt → Option (Bool × Dt)} {P : Dt → Dt → Prop} (hb : Base rd p n c1 B X0 M0) (h : PSt rd p n c1 B X0 M0 i bt w q0 q dX dM) (hA : A + 1 < 267) (hsl : sl = nI A)
    (fX : ∀ d, F (false, d) = some (false, d)) (tX : ∀ d, F (true, d) = X' d) (fM : ∀ d, H (false, d) = some (false, d)) (tM : ∀ d, H (true, d) = H' d)
    (ok : ∀ j q' a b dX dM, i ≤ j → whenOk (nO q0) a b → q' A = a → q' (A + 1) = b → (∀ k, k ≠ A → k ≠ A + 1 → q' k = q k) → PSt rd p n c1 B X0 M0 j bt (a, b) q0 q' dX dM → PTwo rd p n c1 B X0 M0 (X' dX) (H' dM) P) :
    PTwo rd p n c1 B X0 M0 ((mX7_takeWhen rd 152 p dX).bind F) ((mX12_readWhen 167 sl dM).bind H) P := by
  subst hsl
  have a2 := h.wp.cs.2.1.2
  have hX := PSt_w hb h (-2) (-2)
  have h2 := PSt_row (A := A + 1) (v := -2) (PSt_row (A := A) (v := -2) hX)
  unfold mX7_takeWhen mX12_readWhen
  rw [nI_1, if_pos (ib267 (by omega)), if_pos (ib267 (by omega)), cl_nI (by omega), cl_nI (by omega), x_reads hb h2 (show 7 < 24 by decide), m_word hb h2 (show 7 < 24 by decide), Option.bind_some, Option.bind_some]
  have go : ∀ (k : Nat) (b : Bool), k < 24 → wd (T B n i) k = true → wd (T B n i) 7 = b →
      PTwo rd p n c1 B X0 M0 ((mX7_takeWhen_34 rd 152 p (b2i b) (uI (uI dX rd 3 (-2)) rd 4 (-2))).bind F) ((mX12_readWhen_38 167 (nI A) (uI (uI dM (167 + 3) A (-2)) (167 + 3) (A + 1) (-2))).bind H) P := fun k b hk hw hb7 => by
    unfold mX7_takeWhen_34 mX12_readWhen_38
    rw [m_word hb h2 (show 7 < 24 by decide), Option.bind_some, hb7]
    have hv : b2i b = if b = true then 1 else 0 := by cases b <;> rfl
    have h3 := PSt_row (A := A + 1) (v := b2i b) h2
    obtain ⟨d1, g1, g2, -⟩ := p_go hb h3 (wd_ne hw)
    have eM : (if b = true then mX12_readWhen_59 167 (nI A) 1 (nI A + 1) (167 + 3) (uI (uI dM (167 + 3) A (-2)) (167 + 3) (A + 1) (-2)) else mX12_readWhen_59 167 (nI A) 0 (nI A + 1) (167 + 3) (uI (uI dM (167 + 3) A (-2)) (167 + 3) (A + 1) (-2))) = (mX12_passesOne 167 100 d1).bind fun x16 => (mX12_lays 167 (nI A) x16.1 x16.2).bind fun x18 => some (x18.1, x18.2) := by
      cases b
      · rw [if_neg Bool.false_ne_true]
        unfold mX12_readWhen_59
        rw [nI_1, if_pos (ib267 (by omega)), cl_nI (by omega), show (0 : Int32) = b2i false from rfl, g1, Option.bind_some]
      · rw [if_pos rfl]
        unfold mX12_readWhen_59
        rw [nI_1, if_pos (ib267 (by omega)), cl_nI (by omega), show (1 : Int32) = b2i true from rfl, g1, Option.bind_some]
    have eX : (uI (uI dX rd 3 (-2)) rd 4 (-2)).1 rd 2 = nI i := hX.2.1
    rw [eM, eX, nI_1]
    rcases val_named hb g2 (z := 1) (v := 100) (by omega) rfl with ⟨a, x1, x2, v1, v2, v3, v4, v5, v6⟩ | ⟨x1, x2, v2, v3, v4⟩
    · rw [v2, v3, Option.bind_some, Option.bind_some, lays_v (by omega) v1, Option.bind_some, Option.bind_some, tM]
      have e3 : ∀ c, (uI (uI x1 rd 3 (nI a)) rd 4 c).1 rd 3 = nI a := fun c => by rw [dI_ne (by omega), dI_at]
      have h6 := PSt_row (A := A) (v := nI a) (PSt_w hb v6 (nI a) (b2i b))
      have hok := ok _ _ (nI a) (b2i b) _ _ (by omega) (Or.inr ⟨a, v4, rfl, by cases b; exact Or.inl rfl; exact Or.inr rfl⟩) (up_at _ _ _) ((up_ne (by omega)).trans (up_at _ _ _)) (fun k z1 z2 => by rw [up_ne z1, up_ne z2, up_ne z2, up_ne z1]) h6
      cases b
      · rw [if_pos (show b2i false = 0 from rfl)]
        dsimp only
        rw [e3, if_neg (nI_pos (by omega)), Option.bind_some, tX]
        exact hok
      · rw [if_neg (show ¬ b2i true = 0 by decide)]
        dsimp only
        rw [e3, if_neg (nI_pos (by omega)), Option.bind_some, tX]
        exact hok
    · rw [v2, v3, Option.bind_some, Option.bind_some, lays_m1 (by omega), Option.bind_some, Option.bind_some, fM]
      have e3 : ∀ c, (uI (uI x1 rd 3 (-1)) rd 4 c).1 rd 3 = -1 := fun c => by rw [dI_ne (by omega), dI_at]
      cases b
      · rw [if_pos (show b2i false = 0 from rfl)]
        dsimp only
        rw [e3, if_pos m1p, Option.bind_some, fX]
        exact ⟨_, _, _, _, rfl, rfl, Or.inr (Or.inl ⟨rfl, rfl, PFl_row (PFl_x (PFl_x v4 (by omega)) (by omega))⟩)⟩
      · rw [if_neg (show ¬ b2i true = 0 by decide)]
        dsimp only
        rw [e3, if_pos m1p, Option.bind_some, fX]
        exact ⟨_, _, _, _, rfl, rfl, Or.inr (Or.inl ⟨rfl, rfl, PFl_row (PFl_x (PFl_x v4 (by omega)) (by omega))⟩)⟩
  cases e7 : wd (T B n i) 7 with
  | true =>
    rw [if_pos rfl, if_pos rfl]
    exact go 7 true (by decide) e7 e7
  | false =>
    rw [if_neg Bool.false_ne_true, if_neg Bool.false_ne_true, x_reads hb h2 (show 8 < 24 by decide), m_word hb h2 (show 8 < 24 by decide), Option.bind_some, Option.bind_some]
    cases e8 : wd (T B n i) 8 with
    | true =>
      rw [if_pos rfl, if_pos rfl]
      exact go 8 false (by decide) e8 e7
    | false =>
      rw [if_neg Bool.false_ne_true, if_neg Bool.false_ne_true, Option.bind_some, Option.bind_some, tX, tM]
      exact ok i _ (-2) (-2) _ _ (Nat.le_refl _) (Or.inl ⟨rfl, rfl⟩) ((up_ne (by omega)).trans (up_at _ _ _)) (up_at _ _ _) (fun k z1 z2 => by rw [up_ne z2, up_ne z1]) h2
theorem fin_plug {rd p n c1 : Nat} {B : Nat → Nat} {X0 M0 : Dt} {i i0 c : Nat} {w : Int32 × Int32} {q0 q : Nat → Int32} {dX dM : Dt} {a1 a2 a3 a4 : Int32} {v : Int64} {H : Dt → Option (Bool × Dt)} (hb : Base rd p n c1 B X0 M0) (h : PSt rd p n c1 B X0 M0 i true w q0 q dX dM) (hi : i0 < i) (hc : c = nP q0) (hc8 : c < 8)
    (hH : ∀ x, H x = if inB (4 : Int32) 267 = true then (if inB (4 : Int32) 267 = true then some (true, (uI x (167 + 3) (4 : Int32).toNatClampNeg ((x.1 (167 + 3) (4 : Int32).toNatClampNeg) + (1 : Int32)))) else none) else none)
    (ag : ∀ j, ¬ (49 + 6 * c ≤ j ∧ j < 49 + 6 * c + 6) → q j = q0 j) (e1 : q (49 + 6 * c) = a1) (e2 : q (49 + 6 * c + 1) = a2) (e3 : q (49 + 6 * c + 2) = a3) (e4 : q (49 + 6 * c + 3) = a4) (e5 : q (49 + 6 * c + 4) = w.1) (e6 : q (49 + 6 * c + 5) = w.2)
    (r1 : ∃ a, a < nN q0 ∧ a1 = nI a) (r2 : ∃ a, 1 ≤ a ∧ a ≤ 12 ∧ a2 = nI a) (r3 : ∃ a, a ≤ 9 ∧ a3 = nI a) (r4 : ∃ a, a ≤ 9 ∧ a4 = nI a) (r5 : whenOk (nO q0) w.1 w.2) :
    PTwo rd p n c1 B X0 M0 ((mX4_addName p v ((200 : Int32) + dX.1 (p + 25) 0) dX).bind fun x32 => (mX6_add (p + 25) a1 a2 a3 a4 (x32.1 rd 3) (x32.1 rd 4) x32).bind fun x34 => (mX7_lineEnds rd 152 p x34).bind fun x36 => some (x36.1, x36.2)) ((mX12_tells 167 v ((200 : Int32) + nI c) dM).bind H) (PLn rd p n c1 B X0 M0 i0) := by
  have w11 := h.wp
  obtain ⟨⟨c1', b1⟩, ⟨c2', b2⟩, ⟨c3', b3⟩, ⟨c4', b4⟩, ⟨c5', b5⟩⟩ := w11.cs
  have hp := hb.1
  obtain ⟨k, k1, k2, k3, k4⟩ := h.nm
  have xt0 : dX.1 (p + 25) 0 = nI c := by rw [h.xp.2.2.2.1.1, c3', hc]
  have g2 : q 4 = nI c := by rw [ag _ (by omega), c3', hc]
  rw [xt0, show (200 : Int32) = nI 200 from rfl, nI_add, adN k2 (by omega), Option.bind_some, mtl k3 (by omega), Option.bind_some, hH, if_pos (show inB (4 : Int32) 267 = true from ib267 (a := 4) (by omega)), if_pos (show inB (4 : Int32) 267 = true from ib267 (a := 4) (by omega)), show (4 : Int32).toNatClampNeg = 4 from rfl,
    show (uI (uI (uL dM (167 + 6) k v) (167 + 7) k (nI (200 + c))) 167 13 (nI (k + 1))).1 (167 + 3) 4 = nI c from (dI_ne (by omega)).trans ((dI_ne (by omega)).trans ((h.row 4 (by omega)).trans g2)), nI_1,
    show (uI (uI (uL dX (p + 1) k v) (p + 2) k (nI (200 + c))) p 3 (nI (k + 1))).1 rd 3 = w.1 from (dI_ne (by omega)).trans ((dI_ne (by omega)).trans h.2.2.2.2.2.1.1),
    show (uI (uI (uL dX (p + 1) k v) (p + 2) k (nI (200 + c))) p 3 (nI (k + 1))).1 rd 4 = w.2 from (dI_ne (by omega)).trans ((dI_ne (by omega)).trans h.2.2.2.2.2.1.2),
    ad6 (t := p + 25) (c := c) (by rw [dI_ne (by omega), dI_ne (by omega)]; exact xt0) hc8, Option.bind_some]
  have ag : ∀ j, j ≠ 4 → ¬ (49 + 6 * c ≤ j ∧ j < 49 + 6 * c + 6) → upq q 4 (nI (c + 1)) j = q0 j := fun j h1 h2 => (up_ne h1).trans (ag j h2)
  have eP : nP (upq q 4 (nI (c + 1))) = c + 1 := by unfold nP; rw [up_at, cl_nI (by omega)]
  have eO : nO (upq q 4 (nI (c + 1))) = nO q0 := by unfold nO; rw [ag _ (by omega) (by omega)]
  have eN : nN (upq q 4 (nI (c + 1))) = nN q0 := by unfold nN; rw [ag _ (by omega) (by omega)]
  have eT : nT (upq q 4 (nI (c + 1))) = nT q0 := by unfold nT; rw [ag _ (by omega) (by omega)]
  have eB : nB (upq q 4 (nI (c + 1))) = nB q0 := by unfold nB; rw [ag _ (by omega) (by omega)]
  have e1 : upq q 4 (nI (c + 1)) (49 + 6 * c) = a1 := (up_ne (by omega)).trans e1
  have e2 : upq q 4 (nI (c + 1)) (49 + 6 * c + 1) = a2 := (up_ne (by omega)).trans e2
  have e3 : upq q 4 (nI (c + 1)) (49 + 6 * c + 2) = a3 := (up_ne (by omega)).trans e3
  have e4 : upq q 4 (nI (c + 1)) (49 + 6 * c + 3) = a4 := (up_ne (by omega)).trans e4
  have e5 : upq q 4 (nI (c + 1)) (49 + 6 * c + 4) = w.1 := (up_ne (by omega)).trans e5
  have e6 : upq q 4 (nI (c + 1)) (49 + 6 * c + 5) = w.2 := (up_ne (by omega)).trans e6
  have sj := w11.2.2.2.2.2.2.2.2.2.2.1 rfl
  have row : ∀ j, j < 267 → (uI (uI (uI (uL dM (167 + 6) k v) (167 + 7) k (nI (200 + c))) 167 13 (nI (k + 1))) (167 + 3) 4 (nI (c + 1))).1 (167 + 3) j = upq q 4 (nI (c + 1)) j := fun j hj => by
    by_cases e : j = 4
    · subst e; rw [dI_at, up_at]
    · rw [dI_ne (by omega), dI_ne (by omega), dI_ne (by omega), up_ne e]; exact h.row j hj
  have eq2 : upq q 4 (nI (c + 1)) 4 = nI (c + 1) := up_at _ _ _
  have f : ∀ o j, ¬ (p + 25 ≤ o ∧ o < p + 32) → ¬ (o = p ∧ j = 3) → o ≠ p + 2 → (uI (uI (uI (uI (uI (uI (uI (uI (uI (uL dX (p + 1) k v) (p + 2) k (nI (200 + c))) p 3 (nI (k + 1))) (p + 25 + 1) c a1) (p + 25 + 2) c a2) (p + 25 + 3) c a3) (p + 25 + 4) c a4) (p + 25 + 5) c w.1) (p + 25 + 6) c w.2) (p + 25) 0 (nI (c + 1))).1 o j = dX.1 o j := fun o j z1 z2 z3 => by
    rw [dI_ne (by omega), dI_ne (by omega), dI_ne (by omega), dI_ne (by omega), dI_ne (by omega), dI_ne (by omega), dI_ne (by omega), dI_ne (by omega), dI_ne (by omega), uL_1]
  have f2 : ∀ o j, p + 25 ≤ o → j ≠ c → ¬ (o = p + 25 ∧ j = 0) → (uI (uI (uI (uI (uI (uI (uI (uI (uI (uL dX (p + 1) k v) (p + 2) k (nI (200 + c))) p 3 (nI (k + 1))) (p + 25 + 1) c a1) (p + 25 + 2) c a2) (p + 25 + 3) c a3) (p + 25 + 4) c a4) (p + 25 + 5) c w.1) (p + 25 + 6) c w.2) (p + 25) 0 (nI (c + 1))).1 o j = dX.1 o j := fun o j z1 z2 z3 => by
    rw [dI_ne (by omega), dI_ne (by omega), dI_ne (by omega), dI_ne (by omega), dI_ne (by omega), dI_ne (by omega), dI_ne (by omega), dI_ne (by omega), dI_ne (by omega), uL_1]
  generalize upq q 4 (nI (c + 1)) = q1 at *
  refine two_ends (q := q1) hb (PSt_new hb h (fun o j z => f _ _ (by omega) (by omega) (by omega)) (fun o j z => dL_ne (Or.inl z)) (fun o j z1 z2 z3 => ?_) (fun o j z => dL_ne (Or.inl z)) row ⟨fun _ => ⟨?_, ?_⟩, ?_, ?_, ⟨?_, fun j hj l hl => ?_⟩, ?_, ?_⟩ ?_ ?_) hi (fun _ _ => rfl)
  · rw [dI_ne (by omega), dI_ne (by omega), dI_ne (by omega)]; rfl
  · rw [f _ _ (by omega) (by omega) (by omega), ag _ (by omega) (by omega)]; exact (h.xp.1 rfl).1
  · rw [f _ _ (by omega) (by omega) (by omega), ag _ (by omega) (by omega)]; exact (h.xp.1 rfl).2
  · rw [f _ _ (by omega) (by omega) (by omega), ag _ (by omega) (by omega)]; exact h.xp.2.1
  · exact XTr_c h.xp.2.2.1 (ag _ (by omega) (by omega)) (fun j _ _ => ag j (by omega) (by omega)) b1 (fun o j _ _ => f _ _ (by omega) (by omega) (by omega))
  · rw [dI_at, eq2]
  · by_cases e : j = c
    · subst e
      rcases (show l = 0 ∨ l = 1 ∨ l = 2 ∨ l = 3 ∨ l = 4 ∨ l = 5 by omega) with rfl | rfl | rfl | rfl | rfl | rfl
      · rw [dI_ne (by omega), dI_ne (by omega), dI_ne (by omega), dI_ne (by omega), dI_ne (by omega), dI_ne (by omega), dI_is (by omega) rfl]; exact e1.symm
      · rw [dI_ne (by omega), dI_ne (by omega), dI_ne (by omega), dI_ne (by omega), dI_ne (by omega), dI_is (by omega) rfl]; exact e2.symm
      · rw [dI_ne (by omega), dI_ne (by omega), dI_ne (by omega), dI_ne (by omega), dI_is (by omega) rfl]; exact e3.symm
      · rw [dI_ne (by omega), dI_ne (by omega), dI_ne (by omega), dI_is (by omega) rfl]; exact e4.symm
      · rw [dI_ne (by omega), dI_ne (by omega), dI_is (by omega) rfl]; exact e5.symm
      · rw [dI_ne (by omega), dI_is (by omega) rfl]; exact e6.symm
    · rw [f2 _ _ (by omega) e (by omega), ag _ (by omega) (by omega)]
      exact h.xp.2.2.2.1.2 j (by omega) l hl
  · exact XNe_c h.xp.2.2.2.2.1 w11 (ag _ (by omega) (by omega)) (fun j _ _ => ag j (by omega) (by omega)) (fun j _ => ag _ (by omega) (by omega)) (fun o j _ _ => f _ _ (by omega) (by omega) (by omega))
  · exact XBu_c h.xp.2.2.2.2.2 (ag _ (by omega) (by omega)) (fun j _ _ => ag j (by omega) (by omega)) b5 (fun o j _ _ => f _ _ (by omega) (by omega) (by omega))
  · refine NmR_add (k := k) (u := 200 + c) (v := v) h.nm k1 (by omega) (by omega) (by omega) (by omega) (by omega) (by unfold MOk; omega) ?_ ⟨?_, fun j hj => ?_⟩ ⟨?_, fun j hj => ?_⟩ ?_ ⟨?_, fun j hj => ?_⟩ ⟨?_, fun j hj => ?_⟩
    · rw [dI_ne (by omega), dI_ne (by omega), dI_ne (by omega), dI_ne (by omega), dI_ne (by omega), dI_ne (by omega), dI_ne (by omega), dI_at]
    · rw [dI_ne (by omega), dI_ne (by omega), dI_ne (by omega), dI_ne (by omega), dI_ne (by omega), dI_ne (by omega), dI_ne (by omega), dI_ne (by omega), dI_at]
    · rw [dI_ne (by omega), dI_ne (by omega), dI_ne (by omega), dI_ne (by omega), dI_ne (by omega), dI_ne (by omega), dI_ne (by omega), dI_ne (by omega), dI_ne (by omega), uL_1]
    · exact dL_at _ _ _ _
    · exact dL_ne (Or.inr (by omega))
    · rw [dI_ne (by omega), dI_at]
    · rw [dI_ne (by omega), dI_ne (by omega), dI_at]
    · rw [dI_ne (by omega), dI_ne (by omega), dI_ne (by omega)]; rfl
    · exact dL_at _ _ _ _
    · exact dL_ne (Or.inr (by omega))
  · refine WP_ext w11 ⟨⟨?_, ?_⟩, ⟨?_, ?_⟩, ⟨?_, ?_⟩, ⟨?_, ?_⟩, ⟨?_, ?_⟩⟩ (by omega) (by omega) (by omega) (fun j _ => ⟨ag _ (by omega) (by omega), ag _ (by omega) (by omega), ag _ (by omega) (by omega)⟩) (fun j _ k _ => ag _ (by omega) (by omega)) (fun j _ k _ => ag _ (by omega) (by omega)) (fun j _ => ⟨ag _ (by omega) (by omega), ag _ (by omega) (by omega)⟩) (fun j _ _ => by omega) (fun j z1 z2 => ?_) (fun j _ _ => by omega) (fun j _ _ => by omega) (by rw [ag _ (by omega) (by omega), ag _ (by omega) (by omega)]; exact sj)
    · rw [eN, ag _ (by omega) (by omega)]; exact c1'
    · omega
    · rw [eO, ag _ (by omega) (by omega)]; exact c2'
    · omega
    · rw [eP, eq2]
    · omega
    · rw [eT, ag _ (by omega) (by omega)]; exact c4'
    · omega
    · rw [eB, ag _ (by omega) (by omega)]; exact c5'
    · omega
    · obtain rfl : j = c := by omega
      rw [e1, e2, e3, e4, e5, e6, eN, eO]
      exact ⟨r1, r2, r3, r4, r5⟩
theorem sl49 (c j : Nat) : ((49 : Int32) + (6 : Int32) * nI c) + nI j = nI (49 + 6 * c + j) := by
  rw [show (49 : Int32) = nI 49 from rfl, show (6 : Int32) = nI 6 from rfl, pk_mul, nI_add, nI_add]
theorem ln_plug {rd p n c1 : Nat} {B : Nat → Nat} {X0 M0 : Dt} {i : Nat} {bt : Bool} {w : Int32 × Int32} {q : Nat → Int32} {dX dM : Dt} (hb : Base rd p n c1 B X0 M0) (h : PSt rd p n c1 B X0 M0 i bt w q q dX dM) (hk : (T B n i).2.1 ≠ 6) :
    PTwo rd p n c1 B X0 M0 (if (mX7_opens rd 152 p (dX.1 (p + 25) 0) 8 dX).1 = true then (mX7_readPlug rd 152 p (mX7_opens rd 152 p (dX.1 (p + 25) 0) 8 dX).2).bind (fun x => if x.1 = true then some (true, x.2) else some (false, x.2)) else some (false, (mX7_opens rd 152 p (dX.1 (p + 25) 0) 8 dX).2)) ((mX12_readPlug 167 dM).bind fun x => some (x.1, x.2)) (PLn rd p n c1 B X0 M0 i) := by
  have w11 := h.wp
  obtain ⟨-, -, ⟨c3', a3⟩, -⟩ := w11.cs
  unfold mX12_readPlug mX12_readPlug_19
  rw [if_pos (show inB (4 : Int32) 267 = true from ib267 (a := 4) (by omega)), show (4 : Int32).toNatClampNeg = 4 from rfl, h.row 4 (by omega), c3', h.xp.2.2.2.1.1, c3']
  refine ln_open (c := nP q) (mx := 8) (R := mX7_readPlug rd 152 p) hb h hk rfl rfl (by omega) (by omega) (fun z => by have := (w11.2.2.2.2.2.2.2.2.2.2.2 z).2.2.1; omega) (fun d => if_neg Bool.false_ne_true) (fun d => if_pos rfl) (fun hbt hc dX dM h => ?_)
  subst hbt
  unfold mX7_readPlug
  refine two_new hb h (fun d => if_pos rfl) (fun v d hv => if_neg hv) (fun d => if_neg Bool.false_ne_true) (fun d => if_pos rfl) (fun v dX dM hv h => ?_)
  dsimp only
  rw [hv]
  generalize hcc : nP q = c at *
  have s0 : ((49 : Int32) + (6 : Int32) * nI c) + 0 = nI (49 + 6 * c) := sl49 c 0
  have s1 : ((49 : Int32) + (6 : Int32) * nI c) + 1 = nI (49 + 6 * c + 1) := sl49 c 1
  have s2 : ((49 : Int32) + (6 : Int32) * nI c) + 2 = nI (49 + 6 * c + 2) := sl49 c 2
  have s3 : ((49 : Int32) + (6 : Int32) * nI c) + 3 = nI (49 + 6 * c + 3) := sl49 c 3
  have s4 : ((49 : Int32) + (6 : Int32) * nI c) + 4 = nI (49 + 6 * c + 4) := sl49 c 4
  rw [s0, s1, s2, s3, s4]
  refine two_take hb h (by decide) (fun d => if_neg Bool.false_ne_true) (fun d => if_pos rfl) (if_neg Bool.false_ne_true) (if_pos rfl) (fun dX dM h => ?_)
  refine two_val (val_named hb h (z := 0) (by omega) rfl) (A := 49 + 6 * c) (by omega) rfl (fun d => if_pos m1p) (fun a d ha => if_neg (nI_pos (by omega))) (fun d => if_neg Bool.false_ne_true) (fun d => if_pos rfl) (fun b1 dX dM ⟨hb1, hb14, h⟩ => ?_)
  have h := PSt_row (A := 49 + 6 * c) (v := nI b1) h
  refine two_after (lo := 1) (hi := 12) (A := 49 + 6 * c + 1) hb h (by decide) rfl rfl (by omega) (by omega) (by omega) rfl (fun d => if_neg Bool.false_ne_true) (fun d => if_pos rfl) (fun d => if_pos m1p) (fun a d ha => if_neg (nI_pos (by omega))) (fun d => if_neg Bool.false_ne_true) (fun d => if_pos rfl) (fun b2 dX dM x1 x2 h => ?_)
  refine two_after (lo := 1) (hi := 9) (A := 49 + 6 * c + 2) hb h (by decide) rfl rfl (by omega) (by omega) (by omega) rfl (fun d => if_neg Bool.false_ne_true) (fun d => if_pos rfl) (fun d => if_pos m1p) (fun a d ha => if_neg (nI_pos (by omega))) (fun d => if_neg Bool.false_ne_true) (fun d => if_pos rfl) (fun b3 dX dM y1 y2 h => ?_)
  dsimp only
  rw [if_pos (ib267 (by omega)), cl_nI (by omega), h.row _ (by omega), up_at]
  refine two_after (lo := b3) (hi := 9) (A := 49 + 6 * c + 3) hb h (by decide) rfl rfl (by omega) (by omega) (by omega) rfl (fun d => if_neg Bool.false_ne_true) (fun d => if_pos rfl) (fun d => if_pos m1p) (fun a d ha => if_neg (nI_pos (by omega))) (fun d => if_neg Bool.false_ne_true) (fun d => if_pos rfl) (fun b4 dX dM z1 z2 h => ?_)
  refine two_when (A := 49 + 6 * c + 4) hb h (by omega) rfl (fun d => if_neg Bool.false_ne_true) (fun d => if_pos rfl) (fun d => if_neg Bool.false_ne_true) (fun d => if_pos rfl) (fun j q' e1 e2 dX dM hij hw g1 g2 g3 h => ?_)
  refine fin_plug (c := c) (w := (e1, e2)) (q0 := q) (q := q') hb h (by omega) hcc.symm hc (fun x => rfl) (fun l hl => ?_) ?_ ?_ ?_ ?_ g1 g2 ⟨b1, hb1, rfl⟩ ⟨b2, x1, x2, rfl⟩ ⟨b3, y2, rfl⟩ ⟨b4, z2, rfl⟩ hw
  · rw [g3 _ (by omega) (by omega), up_ne (by omega), up_ne (by omega), up_ne (by omega), up_ne (by omega)]
  · rw [g3 _ (by omega) (by omega), up_ne (by omega), up_ne (by omega), up_ne (by omega), up_at]
  · rw [g3 _ (by omega) (by omega), up_ne (by omega), up_ne (by omega), up_at]
  · rw [g3 _ (by omega) (by omega), up_ne (by omega), up_at]
  · rw [g3 _ (by omega) (by omega), up_at]
