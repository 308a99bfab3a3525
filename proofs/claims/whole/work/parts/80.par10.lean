/-! lines: nets, a pin -/
theorem Vn_congr {p k c o j : Nat} {d1 d : Dt} (h : d1.1 o j = d.1 o j) : (Vn p k c d1).1 o j = (Vn p k c d).1 o j := by
  show (if o = p + 32 ∧ j = 0 then nI c else if o = p ∧ j = 3 then nI k else d1.1 o j) = if o = p + 32 ∧ j = 0 then nI c else if o = p ∧ j = 3 then nI k else d.1 o j
  rw [h]
theorem has_m1 : ∀ j, j < 5 → mX10_has (-1) (nI j) = true := by decide +kernel
theorem sA (c l : Nat) : (nI (97 + 16 * c) + (6 : Int32)) + (2 : Int32) * nI l = nI (97 + 16 * c + (6 + 2 * l)) := by
  rw [show (6 : Int32) = nI 6 from rfl, show (2 : Int32) = nI 2 from rfl, pk_mul, nI_add, nI_add, Nat.add_assoc]
theorem sA2 (c : Nat) : nI (97 + 16 * c) + (2 : Int32) = nI (97 + 16 * c + 2) := nI_add _ 2
theorem adP {t c z : Nat} {d : Dt} (h : d.1 (t + 3) c = nI z) (hc : c < 10) (hz : z < 5) (a b e : Int32) : mX5_addPin t (nI c) a b e d = some (uI (uI (uI (uI d (t + 8 + c) z a) (t + 19 + c) z b) (t + 30 + c) z e) (t + 3) c (nI (z + 1))) := by
  have ib : inB (nI c) 10 = true := inB_nI hc (by omega)
  have iz : inB (nI z) 5 = true := inB_nI hz (by omega)
  unfold mX5_addPin
  rw [if_pos ib, cl_nI (by omega), h, if_neg (show ¬ (5 : Int32) ≤ nI z from nI_ge (b := 5) hz (by omega)), if_pos ib, if_pos iz, if_pos ib, if_pos iz, if_pos ib, if_pos iz, if_pos ib, cl_nI (by omega), nI_1]
theorem pin_step {rd p n c1 : Nat} {B : Nat → Nat} {X0 M0 : Dt} {i c k z : Nat} {w : Int32 × Int32} {q0 q : Nat → Int32} {d0 dM : Dt} {v : Int64} {vs0 vs1 : Int32} {g2 : Int32 → Dt → Option (Bool × Dt)} {G H : Bool × Dt → Option (Bool × Dt)} {H' : Dt → Option (Bool × Dt)} {P : Dt → Dt → Prop} (hb : Base rd p n c1 B X0 M0)
    (h : PSt rd p n c1 B X0 M0 i true w q0 q (Vn p k c (uI d0 rd 2 (nI i))) dM) (hN : NS p q0 q c k z v (uI d0 rd 2 (nI i))) (hv : vs1 + vs0 = nI i) (hc : c = nT q0) (hc10 : c < 10) (hk : k = nN q0 + nO q0 + nP q0 + nT q0) (hk36 : k < 36) (hz : z < 5) (agq : ∀ j, 49 ≤ j → j < 97 → q j = q0 j)
    (fG : ∀ d, G (false, d) = some (false, d)) (fM : ∀ d, H (false, d) = some (false, d)) (tM : ∀ d, H (true, d) = H' d)
    (ok : ∀ i' q' dX dM, i < i' → PSt rd p n c1 B X0 M0 i' true w q0 q' (Vn p k c dX) dM → NS p q0 q' c k (z + 1) v dX → (∀ j, ¬ (j = 97 + 16 * c + 2 ∨ j = 97 + 16 * c + (6 + 2 * z) ∨ j = 97 + 16 * c + (6 + 2 * z) + 1) → q' j = q j) → PTwo rd p n c1 B X0 M0 ((g2 (nI (z + 1)) dX).bind G) (H' dM) P) :
    PTwo rd p n c1 B X0 M0 ((mX7_readPins_54 g2 rd 152 p (nI c) (nI z) vs0 vs1 rd 152 p d0).bind G) ((mX12_readPin 167 (nI (97 + 16 * c)) dM).bind H) P := by
  have hp := hb.1
  unfold mX7_readPins_54 mX12_readPin mX12_passesOne
  rw [hv]
  generalize uI d0 rd 2 (nI i) = dX at *
  have w11 := h.wp
  have a3 := w11.cs.2.2.1.2
  rcases pn_here hb h hN hk hk36 hc10 with ⟨a, y1, y3, y4, y5⟩ | ⟨f, y1, y2⟩
  · obtain ⟨d1, g1, h1, -⟩ := p_go hb h (by omega)
    rw [← Vn_comm hp] at h1
    have N1 := NS_x (s := 2) (u := nI (i + 1)) hp hc10 hN
    obtain ⟨-, ⟨ho, o1, o2, o3⟩, -⟩ := w11.2.2.2.2.2.2.2.1 a y1
    have rw1 : d1.1 (167 + 3) (49 + 6 * a + 1) = nI ho := (h1.row _ (by omega)).trans ((agq _ (by omega) (by omega)).trans o3)
    rw [y3, y4, Option.bind_some, Option.bind_some, if_pos (nI_pos' (by omega)), if_neg (nI_m1 (show a < 100 by omega)), g1, Option.bind_some, Option.bind_some, if_neg (nI_m1 (show a < 100 by omega))]
    dsimp only
    generalize uI dX rd 2 (nI (i + 1)) = dX1 at *
    have s1 : ((49 : Int32) + (6 : Int32) * nI a) + 1 = nI (49 + 6 * a + 1) := sl49 a 1
    have at2 : dX1.1 rd 2 = nI (i + 1) := by rw [← Vn_ne (p := p) (k := k) (c := c) (by omega) (by omega)]; exact h1.2.1
    have hs : mX7_sees rd 152 p 3 dX1 = some (decide ((T B n (i + 1)).2.1 = 3)) := (Vn_sees (k := k) (c := c) hp).trans (x_sees hb h1 (v := 3) (by omega))
    have xho : dX1.1 (p + 27) a = nI ho := by
      have := h1.xp.2.2.2.1.2 a y1 1 (by omega)
      rw [Vn_ne (by omega) (by omega), o3] at this
      exact this
    have xnd : dX1.1 (p + 26) a = q0 (49 + 6 * a) := by
      have := h1.xp.2.2.2.1.2 a y1 0 (by omega)
      rw [Vn_ne (by omega) (by omega)] at this
      exact this
    obtain ⟨n1, n2, n3, n4, n5, n6, n7, n8, n9⟩ := N1
    have fail : ∀ f, PTwo rd p n c1 B X0 M0 (some (false, uI dX1 rd 6 (nI f))) (some (false, (mX12_errs 167 (nI f) d1).2)) P := fun f =>
      ⟨_, _, _, _, rfl, rfl, Or.inr (Or.inl ⟨rfl, rfl, PFl_V hp (by rw [Vn_comm hp]; exact p_err h1 f)⟩)⟩
    rw [hs, Option.bind_some, m_18 h1]
    by_cases e3 : (T B n (i + 1)).2.1 = 3
    · have ha : (T B n (i + 1)).2.2.2 < 1000 := by
        obtain ⟨s, s1, s2⟩ := T_tok B n (i + 1)
        rw [s2] at e3 ⊢
        exact (tok_p (B := B) s1).2.2.2.2.1 e3
      have h19 : d1.1 167 19 = nI (T B n (i + 1)).2.2.2 := h1.2.2.1.2.2.2 e3
      have vl : mX8_valueOf 152 (dX1.1 rd 2) dX1 = some (L64 (T B n (i + 1)).2.2.2) := (Vn_val (k := k) (c := c) hp).trans (x_val hb h1 (by omega))
      generalize (T B n (i + 1)).2.2.2 = cv at ha h19 vl
      have lX : mX5_hasPinAt (p + 32) (nI c) (-1) (nI a) (nI cv) dX1 = if anyB (fun l => decide (q (97 + 16 * c + (6 + 2 * l)) = nI a) && decide (q (97 + 16 * c + (6 + 2 * l) + 1) = nI cv)) 0 z = true then some true else some false :=
        loop_any (fun f i => mX5_hasPinAt_3 dX1 (p + 32) (nI c) (-1) (nI a) (nI cv) f i) (fun l => decide (q (97 + 16 * c + (6 + 2 * l)) = nI a) && decide (q (97 + 16 * c + (6 + 2 * l) + 1) = nI cv)) (some true) (some false) z
          (fun fuel l hl => by
            obtain ⟨pl, cl, -, -, x3, x4, x5, x6, -⟩ := n9 l hl
            show mX5_hasPinAt_3 dX1 (p + 32) (nI c) (-1) (nI a) (nI cv) (fuel + 1) (nI l) = _
            rw [mX5_hasPinAt_3, if_pos (inB_nI hc10 (by omega)), cl_nI (by omega), n6, if_neg (nI_ge hl (by omega)), has_m1 l (by omega), if_pos rfl, if_pos (inB_nI hc10 (by omega)), if_pos (inB_nI (by omega) (by omega)), if_pos (inB_nI hc10 (by omega)), if_pos (inB_nI (by omega) (by omega)), cl_nI (by omega), x3, x5, x4, x6, nI_1]
            by_cases e1 : nI pl = nI a
            · rw [if_pos e1, decide_eq_true e1]
              by_cases e2 : nI cl = nI cv
              · rw [if_pos e2, decide_eq_true e2]; rfl
              · rw [if_neg e2, decide_eq_false e2]; rfl
            · rw [if_neg e1, decide_eq_false e1]; rfl)
          (fun fuel => by
            show mX5_hasPinAt_3 dX1 (p + 32) (nI c) (-1) (nI a) (nI cv) (fuel + 1) (nI z) = _
            rw [mX5_hasPinAt_3, if_pos (inB_nI hc10 (by omega)), cl_nI (by omega), n6, if_pos (Int32.le_refl _)]) z 0 FUEL (Nat.zero_add _) (fuel_big (by omega))
      have tw : mX7_takeWhole rd 152 p 0 (nI ho - 1) dX1 = if cv < ho then some (nI cv, uI dX1 rd 2 (nI (i + 1 + 1))) else some (-1, uI dX1 rd 6 4) := by
        unfold mX7_takeWhole
        rw [hs, Option.bind_some, decide_eq_true e3, if_pos rfl, vl, Option.bind_some, L64_32 _ ha, at2, nI_1, if_neg (nI_pos (by omega)), show (1 : Int32) = nI 1 from rfl, nI_sub (by omega)]
        by_cases e : cv < ho
        · rw [if_pos e, if_pos (nI_le (by omega) (by omega))]
        · rw [if_neg e, if_neg (nI_ge (by omega) (by omega))]; rfl
      rw [decide_eq_true e3, if_pos rfl, if_pos (mkd_3.mpr e3), s1, if_pos (ib267 (by omega)), cl_nI (by omega), rw1, h19, vl, Option.bind_some, L64_32 _ ha, lX]
      by_cases e : cv < ho
      · rw [if_pos (nI_lt e (by omega)), sA2, if_pos (ib267 (by omega)), cl_nI (by omega), h1.row _ (by omega), n7]
        have lM := loop_any (fun f i => mX12_readPin_72 167 (nI (97 + 16 * c)) (nI a) (nI z) f i d1) (fun l => decide (q (97 + 16 * c + (6 + 2 * l)) = nI a) && decide (q (97 + 16 * c + (6 + 2 * l) + 1) = nI cv)) (some (false, (mX12_errs 167 3 d1).2)) ((mX12_goesOn 167 (uI (uI (uI d1 (167 + 3) (97 + 16 * c + (6 + 2 * z)) (nI a)) (167 + 3) (97 + 16 * c + (6 + 2 * z) + 1) (nI cv)) (167 + 3) (97 + 16 * c + 2) (nI (z + 1)))).bind fun x18 => some (true, x18)) z
          (fun fuel l hl => by
            obtain ⟨pl, cl, -, -, x3, x4, x5, x6, -⟩ := n9 l hl
            show mX12_readPin_72 167 (nI (97 + 16 * c)) (nI a) (nI z) (fuel + 1) (nI l) d1 = _
            rw [mX12_readPin_72, if_neg (nI_ge hl (by omega)), sA, nI_1, if_pos (ib267 (by omega)), if_pos (ib267 (by omega)), cl_nI (by omega), cl_nI (by omega), h1.row _ (by omega), h1.row _ (by omega), h19, x4, x6, nI_1]
            by_cases e1 : nI pl = nI a
            · rw [if_pos e1, decide_eq_true e1]
              by_cases e2 : nI cl = nI cv
              · rw [if_pos e2, decide_eq_true e2]; rfl
              · rw [if_neg e2, decide_eq_false e2]; rfl
            · rw [if_neg e1, decide_eq_false e1]; rfl)
          (fun fuel => by
            show mX12_readPin_72 167 (nI (97 + 16 * c)) (nI a) (nI z) (fuel + 1) (nI z) d1 = _
            rw [mX12_readPin_72, if_pos (Int32.le_refl _), sA, nI_1, sA2, if_pos (ib267 (by omega)), if_pos (ib267 (by omega)), if_pos (ib267 (by omega)), if_pos (ib267 (by omega)), cl_nI (by omega), cl_nI (by omega), cl_nI (by omega),
              show (uI d1 (167 + 3) (97 + 16 * c + (6 + 2 * z)) (nI a)).1 167 19 = nI cv from (dI_ne (by omega)).trans h19,
              show (uI (uI d1 (167 + 3) (97 + 16 * c + (6 + 2 * z)) (nI a)) (167 + 3) (97 + 16 * c + (6 + 2 * z) + 1) (nI cv)).1 (167 + 3) (97 + 16 * c + 2) = nI z from (dI_ne (by omega)).trans ((dI_ne (by omega)).trans ((h1.row _ (by omega)).trans n7)), nI_1]) z 0 FUEL (Nat.zero_add _) (fuel_big (by omega))
        rw [show mX12_readPin_72 167 (nI (97 + 16 * c)) (nI a) (nI z) FUEL 0 d1 = _ from lM]
        cases hd : anyB (fun l => decide (q (97 + 16 * c + (6 + 2 * l)) = nI a) && decide (q (97 + 16 * c + (6 + 2 * l) + 1) = nI cv)) 0 z with
        | true =>
          rw [if_pos rfl, if_pos rfl, Option.bind_some, if_pos rfl, Option.bind_some, Option.bind_some, fM]
          show PTwo rd p n c1 B X0 M0 (G (false, uI dX1 rd 6 3)) _ _
          rw [fG]
          exact fail 3
        | false =>
          have h2 := PSt_row (A := 97 + 16 * c + 2) (v := nI (z + 1)) (PSt_row (A := 97 + 16 * c + (6 + 2 * z) + 1) (v := nI cv) (PSt_row (A := 97 + 16 * c + (6 + 2 * z)) (v := nI a) h1))
          obtain ⟨d2, g3, h3, -⟩ := p_go hb h2 (by omega)
          rw [← Vn_comm hp] at h3
          rw [if_neg Bool.false_ne_true, if_neg Bool.false_ne_true, Option.bind_some, if_neg Bool.false_ne_true, g3, Option.bind_some, Option.bind_some, tM]
          unfold mX7_readPins_114
          rw [if_pos (inB_nI (by omega) (by omega)), cl_nI (by omega), xho, tw, if_pos e, Option.bind_some, if_pos (nI_pos' (by omega)), if_pos (inB_nI (by omega) (by omega))]
          dsimp only
          rw [show (uI dX1 rd 2 (nI (i + 1 + 1))).1 (p + 26) a = q0 (49 + 6 * a) from (dI_ne (by omega)).trans xnd, adP (t := p + 32) (z := z) (by rw [dI_ne (by omega)]; exact n6) hc10 hz, Option.bind_some, nI_1]
          refine ok (i + 1 + 1) _ _ _ (by omega) (PSt_c hb h3 (c := c) (by omega) hc10 (fun o j z1 z2 => Vn_congr ?_) rfl) ⟨?_, ?_, n3, ?_, fun j z1 z2 => ?_, dI_at _ _ _ _, up_at _ _ _, by omega, fun l hl => ?_⟩ (fun j hj => ?_)
          · rw [dI_ne (by omega), dI_ne (by omega), dI_ne (by omega), dI_ne (by omega)]
          · rw [dI_ne (by omega), dI_ne (by omega), dI_ne (by omega), dI_ne (by omega), dI_ne (by omega)]; exact n1
          · rw [dI_ne (by omega), dI_ne (by omega), dI_ne (by omega), dI_ne (by omega), dI_ne (by omega)]; exact n2
          · rw [dI_ne (by omega), dI_ne (by omega), dI_ne (by omega), dI_ne (by omega), dI_ne (by omega)]; exact n4
          · rw [dI_ne (by omega), dI_ne (by omega), dI_ne (by omega), dI_ne (by omega), dI_ne (by omega), up_ne (by omega), up_ne (by omega), up_ne (by omega)]; exact n5 j z1 z2
          · by_cases el : l = z
            · subst el
              refine ⟨a, cv, y1, by omega, ?_, ?_, ?_, ?_, ?_, ho, o3, e, o2⟩
              · rw [dI_ne (by omega), dI_ne (by omega), dI_ne (by omega), dI_at]
              · rw [up_ne (by omega), up_ne (by omega), up_at]
              · rw [dI_ne (by omega), dI_ne (by omega), dI_at]
              · rw [up_ne (by omega), up_at]
              · rw [dI_ne (by omega), dI_at]
            · obtain ⟨pl, cl, x1, x2, x3, x4, x5, x6, x7, x8⟩ := n9 l (by omega)
              refine ⟨pl, cl, x1, x2, ?_, ?_, ?_, ?_, ?_, x8⟩
              · rw [dI_ne (by omega), dI_ne (by omega), dI_ne (by omega), dI_ne (by omega), dI_ne (by omega)]; exact x3
              · rw [up_ne (by omega), up_ne (by omega), up_ne (by omega)]; exact x4
              · rw [dI_ne (by omega), dI_ne (by omega), dI_ne (by omega), dI_ne (by omega), dI_ne (by omega)]; exact x5
              · rw [up_ne (by omega), up_ne (by omega), up_ne (by omega)]; exact x6
              · rw [dI_ne (by omega), dI_ne (by omega), dI_ne (by omega), dI_ne (by omega), dI_ne (by omega)]; exact x7
          · rw [up_ne (by omega), up_ne (by omega), up_ne (by omega)]
      · have hd : anyB (fun l => decide (q (97 + 16 * c + (6 + 2 * l)) = nI a) && decide (q (97 + 16 * c + (6 + 2 * l) + 1) = nI cv)) 0 z = false := by
          refine (anyB_all _ _).mpr (fun l _ hl => ?_)
          obtain ⟨pl, cl, x1, x2, x3, x4, x5, x6, x7, ho', x8, x9, x10⟩ := n9 l (by omega)
          rw [x4, x6]
          by_cases e1 : nI pl = nI a
          · obtain rfl := nI_inj (by omega) (by omega) e1
            have : ho' = ho := nI_inj (by omega) (by omega) (x8.symm.trans o3)
            rw [decide_eq_false (show ¬ nI cl = nI cv from fun z => by have := nI_inj (by omega) (by omega) z; omega)]
            exact Bool.and_false _
          · rw [decide_eq_false e1]; rfl
        rw [hd, if_neg (show ¬ nI cv < nI ho from fun t => e ((nI_ltI (by omega) (by omega)).mp t)), if_neg Bool.false_ne_true, Option.bind_some, if_neg Bool.false_ne_true, Option.bind_some, fM]
        unfold mX7_readPins_114
        rw [if_pos (inB_nI (by omega) (by omega)), cl_nI (by omega), xho, tw, if_neg e, Option.bind_some, if_neg m1n, Option.bind_some, fG]
        exact fail 4
    · have tw : mX7_takeWhole rd 152 p 0 (nI ho - 1) dX1 = some (-1, uI dX1 rd 6 1) := by
        unfold mX7_takeWhole
        rw [hs, Option.bind_some, decide_eq_false e3, if_neg Bool.false_ne_true]; rfl
      rw [decide_eq_false e3, if_neg Bool.false_ne_true, if_neg (fun z => e3 (mkd_3.mp z)), Option.bind_some, fM]
      unfold mX7_readPins_114
      rw [if_pos (inB_nI (by omega) (by omega)), cl_nI (by omega), xho, tw, Option.bind_some, if_neg m1n, Option.bind_some, fG]
      exact fail 1
  · rw [y1, y2, Option.bind_some, Option.bind_some, if_neg m1n, if_pos rfl, Option.bind_some, Option.bind_some, if_pos rfl, Option.bind_some, fG, fM]
    exact ⟨_, _, _, _, rfl, rfl, Or.inr (Or.inl ⟨rfl, rfl, PFl_V hp (by rw [Vn_comm hp]; exact p_err h f)⟩)⟩
