/-! lines: nets, to the end -/
theorem x_endsV {rd p n c1 : Nat} {B : Nat → Nat} {X0 M0 : Dt} {i k c : Nat} {w : Int32 × Int32} {q0 q : Nat → Int32} {dX dM : Dt} (hb : Base rd p n c1 B X0 M0) (h : PSt rd p n c1 B X0 M0 i true w q0 q (Vn p k c dX) dM) : mX7_lineEnds rd 152 p dX = some (if (T B n i).2.1 = 5 ∨ (T B n i).2.1 = 6 then (true, dX) else (false, uI dX rd 6 1)) := by
  have hp := hb.1
  unfold mX7_lineEnds
  rw [show mX7_sees rd 152 p 5 dX = _ from (Vn_sees (k := k) (c := c) hp).trans (x_sees hb h (v := 5) (by omega)), Option.bind_some]
  by_cases e5 : (T B n i).2.1 = 5
  · rw [decide_eq_true e5, if_pos rfl, if_pos (Or.inl e5)]
  · rw [decide_eq_false e5, if_neg Bool.false_ne_true, show mX7_sees rd 152 p 6 dX = _ from (Vn_sees (k := k) (c := c) hp).trans (x_sees hb h (v := 6) (by omega)), Option.bind_some]
    by_cases e6 : (T B n i).2.1 = 6
    · rw [decide_eq_true e6, if_pos rfl, if_pos (Or.inr e6)]
    · rw [decide_eq_false e6, if_neg Bool.false_ne_true, if_neg (show ¬ (mX7_fail rd 152 p 1 dX).1 = true from Bool.false_ne_true), if_neg (show ¬ ((T B n i).2.1 = 5 ∨ (T B n i).2.1 = 6) by omega)]; rfl
def Stt (q0 q : Nat → Int32) (c : Nat) : Prop := (∀ j, ¬ (97 + 16 * c ≤ j ∧ j < 97 + 16 * c + 16) → q j = q0 j) ∧ (∃ a, a < 3 ∧ q (97 + 16 * c) = nI a) ∧ (∃ a, 1 ≤ a ∧ a ≤ 9 ∧ q (97 + 16 * c + 1) = nI a) ∧ whenOk (nO q0) (q (97 + 16 * c + 3)) (q (97 + 16 * c + 4)) ∧ q (97 + 16 * c + 5) = -2
theorem fin_net {rd p n c1 : Nat} {B : Nat → Nat} {X0 M0 : Dt} {i i0 c k z : Nat} {w : Int32 × Int32} {q0 q : Nat → Int32} {dX dM : Dt} {v : Int64} (hb : Base rd p n c1 B X0 M0) (h : PSt rd p n c1 B X0 M0 i true w q0 q (Vn p k c dX) dM) (hN : NS p q0 q c k z v dX) (hS : Stt q0 q c) (hi : i0 < i) (hc : c = nT q0) (hc10 : c < 10) (hk : k = nN q0 + nO q0 + nP q0 + nT q0) (hk36 : k < 36) (hz : 2 ≤ z) (he : (T B n i).2.1 = 5 ∨ (T B n i).2.1 = 6) :
    PTwo rd p n c1 B X0 M0 (some (true, dX)) (mX12_readNet_223 167 (nI c) v dM) (PLn rd p n c1 B X0 M0 i0) := by
  have w11 := h.wp
  obtain ⟨⟨c1', b1⟩, ⟨c2', b2⟩, ⟨c3', b3⟩, ⟨c4', b4⟩, ⟨c5', b5⟩⟩ := w11.cs
  have hp := hb.1
  obtain ⟨n1, n2, n3, n4, n5, n6, n7, n8, n9⟩ := hN
  obtain ⟨ag, s1, s2, s3, s4⟩ := hS
  obtain ⟨k', k1, k2, k3, k4⟩ := h.nm
  obtain rfl : k' = k := by omega
  have xp := h.xp
  unfold mX12_readNet_223
  rw [show (300 : Int32) = nI 300 from rfl, nI_add, mtl k3 hk36, Option.bind_some, if_pos (show inB (5 : Int32) 267 = true from ib267 (a := 5) (by omega)), if_pos (show inB (5 : Int32) 267 = true from ib267 (a := 5) (by omega)), show (5 : Int32).toNatClampNeg = 5 from rfl,
    show (uI (uI (uL dM (167 + 6) k' v) (167 + 7) k' (nI (300 + c))) 167 13 (nI (k' + 1))).1 (167 + 3) 5 = nI c from (dI_ne (by omega)).trans ((dI_ne (by omega)).trans ((h.row 5 (by omega)).trans ((ag _ (by omega)).trans (c4'.trans (by rw [hc]))))), nI_1]
  have row : ∀ j, j < 267 → (uI (uI (uI (uL dM (167 + 6) k' v) (167 + 7) k' (nI (300 + c))) 167 13 (nI (k' + 1))) (167 + 3) 5 (nI (c + 1))).1 (167 + 3) j = upq q 5 (nI (c + 1)) j := fun j hj => by
    by_cases e : j = 5
    · subst e; rw [dI_at, up_at]
    · rw [dI_ne (by omega), dI_ne (by omega), dI_ne (by omega), up_ne e]; exact h.row j hj
  have qa : ∀ j, j ≠ 5 → upq q 5 (nI (c + 1)) j = q j := fun j h1 => up_ne h1
  have ag : ∀ j, j ≠ 5 → ¬ (97 + 16 * c ≤ j ∧ j < 97 + 16 * c + 16) → upq q 5 (nI (c + 1)) j = q0 j := fun j h1 h2 => (up_ne h1).trans (ag j h2)
  have eq2 : upq q 5 (nI (c + 1)) 5 = nI (c + 1) := up_at _ _ _
  have sj := w11.2.2.2.2.2.2.2.2.2.2.1 rfl
  generalize upq q 5 (nI (c + 1)) = q1 at *
  have eT : nT q1 = c + 1 := by unfold nT; rw [eq2, cl_nI (by omega)]
  have eO : nO q1 = nO q0 := by unfold nO; rw [ag _ (by omega) (by omega)]
  have eN : nN q1 = nN q0 := by unfold nN; rw [ag _ (by omega) (by omega)]
  have eB : nB q1 = nB q0 := by unfold nB; rw [ag _ (by omega) (by omega)]
  have eP : nP q1 = nP q0 := by unfold nP; rw [ag _ (by omega) (by omega)]
  have em : many q1 c = z := by unfold many; rw [qa _ (by omega), n7, cl_nI (by omega)]
  have epp : ∀ l, l < z → ∃ pl cv, pl < nP q0 ∧ cv < 12 ∧ pp q1 c l = pl ∧ pn q1 c l = (q0 (49 + 6 * pl)).toNatClampNeg ∧ q1 (97 + 16 * c + (6 + 2 * l)) = nI pl ∧ q1 (97 + 16 * c + (6 + 2 * l) + 1) = nI cv ∧ dX.1 (p + 32 + 8 + c) l = nI pl ∧ dX.1 (p + 32 + 19 + c) l = nI cv ∧ dX.1 (p + 32 + 30 + c) l = q0 (49 + 6 * pl) := fun l hl => by
    obtain ⟨pl, cv, x1, x2, x3, x4, x5, x6, x7, -⟩ := n9 l hl
    have e1 : q1 (97 + 16 * c + (6 + 2 * l)) = nI pl := (qa _ (by omega)).trans x4
    have e2 : pp q1 c l = pl := by unfold pp; rw [e1, cl_nI (by omega)]
    exact ⟨pl, cv, x1, x2, e2, by unfold pn; rw [e2, ag _ (by omega) (by omega)], e1, (qa _ (by omega)).trans x6, x3, x5, x7⟩
  refine ⟨true, _, true, _, rfl, rfl, Or.inl ⟨rfl, rfl, i, w, q1, hi, PSt_new hb h (fun o j z => (Vn_ne (by omega) (by omega)).symm) (fun o j z => rfl) (fun o j z1 z2 z3 => by rw [dI_ne (by omega), dI_ne (by omega), dI_ne (by omega)]; rfl) (fun o j z => dL_ne (Or.inl z)) row ⟨fun _ => ⟨?_, ?_⟩, ?_, ?_, ?_, ⟨?_, fun j hj => ?_⟩, ?_⟩ ?_ ?_, he⟩⟩
  · rw [← Vn_ne (p := p) (k := k') (c := c) (by omega) (by omega), ag _ (by omega) (by omega)]; exact (xp.1 rfl).1
  · rw [← Vn_ne (p := p) (k := k') (c := c) (by omega) (by omega), ag _ (by omega) (by omega)]; exact (xp.1 rfl).2
  · rw [← Vn_ne (p := p) (k := k') (c := c) (by omega) (by omega), ag _ (by omega) (by omega)]; exact xp.2.1
  · exact XTr_c xp.2.2.1 (ag _ (by omega) (by omega)) (fun j _ _ => ag j (by omega) (by omega)) b1 (fun o j _ _ => (Vn_ne (by omega) (by omega)).symm)
  · exact XPl_c xp.2.2.2.1 (ag _ (by omega) (by omega)) (fun j _ _ => ag j (by omega) (by omega)) b3 (fun o j _ _ => (Vn_ne (by omega) (by omega)).symm)
  · rw [n4, eq2]
  · by_cases e : j = c
    · subst e
      refine ⟨fun l hl => ?_, fun l hl => ?_⟩
      · by_cases el : l = 2
        · subst el
          rw [qa _ (by omega), n7]; exact n6
        · rw [qa _ (by omega)]; exact n5 l hl el
      · rw [em] at hl
        obtain ⟨pl, cv, x1, x2, x3, x4, x5, x6, x7, x8, x9⟩ := epp l hl
        obtain ⟨⟨nd, d1, d2⟩, -⟩ := w11.2.2.2.2.2.2.2.1 pl x1
        unfold pinA pinB
        rw [x5, x6, x4, x7, x8, x9, d2, cl_nI (by omega)]
        exact ⟨rfl, rfl, rfl⟩
    · have y := xp.2.2.2.2.1.2 j (by omega)
      have fj : ∀ l, l < 16 → q1 (97 + 16 * j + l) = q0 (97 + 16 * j + l) := fun l hl => ag _ (by omega) (by omega)
      refine ⟨fun l hl => ?_, fun l hl => ?_⟩
      · rw [fj l (by omega), ← y.1 l hl, Vn_ne (by omega) (by omega)]
      · have hm : many q1 j = many q0 j := by unfold many; rw [fj 2 (by omega)]
        rw [hm] at hl
        obtain ⟨-, -, ⟨-, -, m5⟩, -, -, k6⟩ := w11.2.2.2.2.2.2.2.2.1 j (by omega)
        have ep : pp q1 j l = pp q0 j l := by unfold pp; rw [fj _ (by omega)]
        have en : pn q1 j l = pn q0 j l := by unfold pn; rw [ep, ag _ (by have := (k6 l hl).1.2; omega) (by have := (k6 l hl).1.2; omega)]
        have ea : pinA q1 j l = pinA q0 j l := by unfold pinA; exact fj _ (by omega)
        have eb : pinB q1 j l = pinB q0 j l := by unfold pinB; exact fj (6 + 2 * l + 1) (by omega)
        have y2 := y.2 l hl
        rw [Vn_ne (by omega) (by omega), Vn_ne (by omega) (by omega), Vn_ne (by omega) (by omega)] at y2
        rw [ea, eb, en]; exact y2
  · exact XBu_c xp.2.2.2.2.2 (ag _ (by omega) (by omega)) (fun j _ _ => ag j (by omega) (by omega)) b5 (fun o j _ _ => (Vn_ne (by omega) (by omega)).symm)
  · refine NmR_add (k := k') (u := 300 + c) (v := v) h.nm k1 (by omega) (by omega) (by omega) (by omega) (by omega) (by unfold MOk; omega) n1 ⟨n2, fun j hj => (Vn_ne (by omega) (by omega)).symm⟩ ⟨n3, fun j hj => rfl⟩ ?_ ⟨?_, fun j hj => ?_⟩ ⟨?_, fun j hj => ?_⟩
    · rw [dI_ne (by omega), dI_at]
    · rw [dI_ne (by omega), dI_ne (by omega), dI_at]
    · rw [dI_ne (by omega), dI_ne (by omega), dI_ne (by omega)]; rfl
    · exact dL_at _ _ _ _
    · exact dL_ne (Or.inr (by omega))
  · refine WP_ext w11 ⟨⟨?_, ?_⟩, ⟨?_, ?_⟩, ⟨?_, ?_⟩, ⟨?_, ?_⟩, ⟨?_, ?_⟩⟩ (by omega) (by omega) (by omega) (fun j _ => ⟨ag _ (by omega) (by omega), ag _ (by omega) (by omega), ag _ (by omega) (by omega)⟩) (fun j _ k _ => ag _ (by omega) (by omega)) (fun j _ k _ => ag _ (by omega) (by omega)) (fun j _ => ⟨ag _ (by omega) (by omega), ag _ (by omega) (by omega)⟩) (fun j _ _ => by omega) (fun j _ _ => by omega) (fun j z1 z2 => ?_) (fun j _ _ => by omega) (by rw [ag _ (by omega) (by omega), ag _ (by omega) (by omega)]; exact sj)
    · rw [eN, ag _ (by omega) (by omega)]; exact c1'
    · omega
    · rw [eO, ag _ (by omega) (by omega)]; exact c2'
    · omega
    · rw [eP, ag _ (by omega) (by omega)]; exact c3'
    · omega
    · rw [eT, eq2]
    · omega
    · rw [eB, ag _ (by omega) (by omega)]; exact c5'
    · omega
    · obtain rfl : j = c := by omega
      rw [em, eN, eO, eP, qa (97 + 16 * j) (by omega), qa (97 + 16 * j + 1) (by omega), qa (97 + 16 * j + 2) (by omega), qa (97 + 16 * j + 3) (by omega), qa (97 + 16 * j + 4) (by omega), qa (97 + 16 * j + 5) (by omega)]
      refine ⟨s1, s2, ⟨n7, hz, n8⟩, s3, Or.inl s4, fun l hl => ?_⟩
      obtain ⟨pl, cv, x1, x2, x3, x4, x5, x6, x7, x8, x9⟩ := epp l hl
      rw [x3, x5, x6]
      exact ⟨⟨rfl, x1⟩, cv, x2, rfl⟩
theorem lp_pins {rd p n c1 : Nat} {B : Nat → Nat} {X0 M0 : Dt} {i0 c k : Nat} {w : Int32 × Int32} {q0 : Nat → Int32} {v : Int64} {G : Bool × Dt → Option (Bool × Dt)} (hb : Base rd p n c1 B X0 M0) (hc : c = nT q0) (hc10 : c < 10) (hk : k = nN q0 + nO q0 + nP q0 + nT q0) (hk36 : k < 36)
    (fG : ∀ d, G (false, d) = some (false, d)) (tG : ∀ d, G (true, d) = (mX7_lineEnds rd 152 p d).bind fun x27 => if x27.1 = true then some (true, x27.2) else some (false, x27.2)) :
    ∀ f z i fX fM q dX dM, 5 - z = f → 1 ≤ z → i0 < i → PSt rd p n c1 B X0 M0 i true w q0 q (Vn p k c dX) dM → NS p q0 q c k z v dX → Stt q0 q c → f < fX → f < fM →
    PTwo rd p n c1 B X0 M0 ((mX7_readPins_2 rd 152 p (nI c) fX (nI z) dX).bind G) (mX12_readNet_149 167 (nI c) v (nI (97 + 16 * c)) fM dM) (PLn rd p n c1 B X0 M0 i0) := by
  intro f
  induction f with
  | zero =>
    intro z i fX fM q dX dM hf hz1 hi h hN hS hfX hfM
    obtain ⟨gX, rfl⟩ : ∃ e, fX = e + 1 := ⟨fX - 1, by omega⟩
    obtain ⟨gM, rfl⟩ : ∃ e, fM = e + 1 := ⟨fM - 1, by omega⟩
    have hN' := hN
    obtain ⟨n1, n2, n3, n4, n5, n6, n7, n8, n9⟩ := hN'
    obtain rfl : z = 5 := by omega
    obtain ⟨k1, k2, k3⟩ := mkd_all _ (kind6 hb h).1
    have row2 : dM.1 (167 + 3) (97 + 16 * c + 2) = nI 5 := (h.row _ (by omega)).trans n7
    have hp := hb.1
    have e86 : mX12_readNet_149 167 (nI c) v (nI (97 + 16 * c)) (gM + 1) dM = mX12_readNet_186 167 (nI c) v (nI (97 + 16 * c)) dM := by
      rw [mX12_readNet_149, sA2, if_pos (ib267 (by omega)), cl_nI (by omega), row2, if_pos (show (5 : Int32) ≤ nI 5 from Int32.le_refl _), ite_self]
    rw [e86, mX7_readPins_2, if_pos (show (5 : Int32) ≤ nI 5 from Int32.le_refl _), Option.bind_some, tG, x_endsV hb h, Option.bind_some]
    unfold mX12_readNet_186
    rw [sA2, if_pos (ib267 (by omega)), cl_nI (by omega), row2, if_neg (show ¬ nI 5 < 2 by decide), m_18 h]
    by_cases e5 : (T B n i).2.1 = 5 ∨ (T B n i).2.1 = 6
    · rw [if_pos e5, if_pos rfl]
      have := fin_net hb h hN hS hi hc hc10 hk hk36 (by omega) e5
      rcases e5 with e | e
      · rw [if_pos (k2.mpr e)]; exact this
      · rw [if_neg (fun z => by have := k2.mp z; omega), if_pos (k1.mpr e)]; exact this
    · rw [if_neg e5, if_neg Bool.false_ne_true, if_neg (fun z => e5 (Or.inl (k2.mp z))), if_neg (fun z => e5 (Or.inr (k1.mp z)))]
      exact ⟨_, _, _, _, rfl, rfl, Or.inr (Or.inl ⟨rfl, rfl, PFl_V hp (by rw [Vn_comm hp]; exact p_err h 1)⟩)⟩
  | succ f ih =>
    intro z i fX fM q dX dM hf hz1 hi h hN hS hfX hfM
    obtain ⟨gX, rfl⟩ : ∃ e, fX = e + 1 := ⟨fX - 1, by omega⟩
    obtain ⟨gM, rfl⟩ : ∃ e, fM = e + 1 := ⟨fM - 1, by omega⟩
    have hN' := hN
    obtain ⟨n1, n2, n3, n4, n5, n6, n7, n8, n9⟩ := hN'
    obtain ⟨k1, k2, k3⟩ := mkd_all _ (kind6 hb h).1
    have row2 : dM.1 (167 + 3) (97 + 16 * c + 2) = nI z := (h.row _ (by omega)).trans n7
    have hp := hb.1
    have hs : mX7_sees rd 152 p 4 dX = some (decide ((T B n i).2.1 = 4)) := (Vn_sees (k := k) (c := c) hp).trans (x_sees hb h (v := 4) (by omega))
    have at2 : dX.1 rd 2 = nI i := by rw [← Vn_ne (p := p) (k := k) (c := c) (by omega) (by omega)]; exact h.2.1
    have z0 : ¬ nI z ≤ 0 := nI_ge (a := 0) (by omega) (by omega)
    rw [mX7_readPins_2, if_neg (show ¬ (5 : Int32) ≤ nI z from nI_ge (b := 5) (by omega) (by omega)), hs, Option.bind_some, mX12_readNet_149, m_18 h]
    unfold mX7_readPins_22
    rw [if_neg z0, if_neg z0, hs, Option.bind_some]
    by_cases e4 : (T B n i).2.1 = 4
    · obtain ⟨d1, g1, h1, -⟩ := p_go hb h (by omega)
      rw [← Vn_comm hp] at h1
      rw [decide_eq_true e4, if_pos rfl, if_pos rfl, ite_self, if_pos (k3.mpr e4), sA2, if_pos (ib267 (by omega)), cl_nI (by omega), row2, if_neg (show ¬ (5 : Int32) ≤ nI z from nI_ge (b := 5) (by omega) (by omega)), g1, Option.bind_some]
      refine pin_step (i := i + 1) hb h1 (NS_x hp hc10 hN) (by rw [at2, nI_1]) hc hc10 hk hk36 (by omega) (fun j z1 z2 => hS.1 j (by omega)) fG (fun d => if_neg Bool.false_ne_true) (fun d => if_pos rfl) (fun i' q' dX dM hi' h' hN'' hq => ?_)
      refine ih (z + 1) i' gX gM q' dX dM (by omega) (by omega) (by omega) h' hN'' ⟨fun j hj => (hq j (by omega)).trans (hS.1 j hj), ?_, ?_, ?_, ?_⟩ (by omega) (by omega)
      · rw [hq _ (by omega)]; exact hS.2.1
      · rw [hq _ (by omega)]; exact hS.2.2.1
      · rw [hq _ (by omega), hq _ (by omega)]; exact hS.2.2.2.1
      · rw [hq _ (by omega)]; exact hS.2.2.2.2
    · rw [decide_eq_false e4, if_neg Bool.false_ne_true, if_neg Bool.false_ne_true, if_neg (fun z => e4 (k3.mp z))]
      unfold mX12_readNet_186
      rw [sA2, if_pos (ib267 (by omega)), cl_nI (by omega), row2, m_18 h]
      by_cases ez : z = 1
      · subst ez
        rw [if_pos (show nI 1 ≤ 1 from Int32.le_refl _), if_pos (show nI 1 < 2 by decide), Option.bind_some]
        show PTwo rd p n c1 B X0 M0 (G (false, uI dX rd 6 1)) _ _
        rw [fG]
        exact ⟨_, _, _, _, rfl, rfl, Or.inr (Or.inl ⟨rfl, rfl, PFl_V hp (by rw [Vn_comm hp]; exact p_err h 1)⟩)⟩
      · rw [if_neg (show ¬ nI z ≤ 1 from nI_ge (a := 1) (by omega) (by omega)), if_neg (show ¬ nI z < 2 from fun t => by have := (nI_ltI (b := 2) (by omega) (by omega)).mp t; omega), Option.bind_some, tG, x_endsV hb h, Option.bind_some]
        by_cases e5 : (T B n i).2.1 = 5 ∨ (T B n i).2.1 = 6
        · rw [if_pos e5, if_pos rfl]
          have := fin_net hb h hN hS hi hc hc10 hk hk36 (by omega) e5
          rcases e5 with e | e
          · rw [if_pos (k2.mpr e)]; exact this
          · rw [if_neg (fun z => by have := k2.mp z; omega), if_pos (k1.mpr e)]; exact this
        · rw [if_neg e5, if_neg Bool.false_ne_true, if_neg (fun z => e5 (Or.inl (k2.mp z))), if_neg (fun z => e5 (Or.inr (k1.mp z)))]
          exact ⟨_, _, _, _, rfl, rfl, Or.inr (Or.inl ⟨rfl, rfl, PFl_V hp (by rw [Vn_comm hp]; exact p_err h 1)⟩)⟩
