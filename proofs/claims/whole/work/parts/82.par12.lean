/-! lines: nets, all of it; a line; the text -/
theorem PSt_d {rd p n c1 : Nat} {B : Nat → Nat} {X0 M0 : Dt} {i : Nat} {w : Int32 × Int32} {q0 q : Nat → Int32} {dX dM d1 : Dt} {c k : Nat} (hb : Base rd p n c1 B X0 M0) (h : PSt rd p n c1 B X0 M0 i true w q0 q dX dM) (hc : nT q0 ≤ c) (hc10 : c < 10) (hk : k = nN q0 + nO q0 + nP q0 + nT q0) (f : ∀ o j, ¬ (p + 33 ≤ o ∧ o ≤ p + 38 ∧ j = c) → ¬ (o = p + 2 ∧ j = k) → d1.1 o j = dX.1 o j) (g : ∀ o j, ¬ (o = p + 1 ∧ j = k) → d1.2 o j = dX.2 o j) : PSt rd p n c1 B X0 M0 i true w q0 q d1 dM := by
  obtain ⟨b1, b2, b3, b4, b5, b6, b7, b8, b9, b10, b11⟩ := h
  have hp := hb.1
  obtain ⟨⟨-, a1⟩, ⟨-, a2⟩, ⟨-, a3⟩, ⟨-, a4⟩, ⟨-, a5⟩⟩ := b11.cs
  refine ⟨b1, by rw [f _ _ (by omega) (by omega)]; exact b2, b3, ⟨fun o j z1 z2 => by rw [f _ _ (by omega) (by omega)]; exact b4.1 o j z1 z2, fun o j z => by rw [g _ _ (by omega)]; exact b4.2 o j z⟩, b5, ⟨by rw [f _ _ (by omega) (by omega)]; exact b6.1, by rw [f _ _ (by omega) (by omega)]; exact b6.2⟩, ⟨by rw [f _ _ (by omega) (by omega)]; exact b7.1, b7.2⟩, b8, ⟨fun z => ⟨by rw [f _ _ (by omega) (by omega)]; exact (b9.1 z).1, by rw [f _ _ (by omega) (by omega)]; exact (b9.1 z).2⟩, by rw [f _ _ (by omega) (by omega)]; exact b9.2.1, ?_, ?_, ⟨?_, fun i hi => ⟨fun k hk => ?_, fun k hk => ?_⟩⟩, ?_⟩, ?_, b11⟩
  · exact XTr_c b9.2.2.1 rfl (fun _ _ _ => rfl) a1 (fun o j _ _ => f _ _ (by omega) (by omega))
  · exact XPl_c b9.2.2.2.1 rfl (fun _ _ _ => rfl) a3 (fun o j _ _ => f _ _ (by omega) (by omega))
  · rw [f _ _ (by omega) (by omega)]; exact b9.2.2.2.2.1.1
  · rw [f _ _ (by omega) (by omega)]; exact (b9.2.2.2.2.1.2 i hi).1 k hk
  · rw [f _ _ (by omega) (by omega), f _ _ (by omega) (by omega), f _ _ (by omega) (by omega)]; exact (b9.2.2.2.2.1.2 i hi).2 k hk
  · exact XBu_c b9.2.2.2.2.2 rfl (fun _ _ _ => rfl) a5 (fun o j _ _ => f _ _ (by omega) (by omega))
  · obtain ⟨k', y1, y2, y3, y4⟩ := b10
    refine ⟨k', y1, by rw [f _ _ (by omega) (by omega)]; exact y2, y3, fun j hj => ?_⟩
    rw [g _ _ (by omega), f _ _ (by omega) (by omega)]; exact y4 j hj
theorem ln_net {rd p n c1 : Nat} {B : Nat → Nat} {X0 M0 : Dt} {i : Nat} {bt : Bool} {w : Int32 × Int32} {q : Nat → Int32} {dX dM : Dt} (hb : Base rd p n c1 B X0 M0) (h : PSt rd p n c1 B X0 M0 i bt w q q dX dM) (hk : (T B n i).2.1 ≠ 6) :
    PTwo rd p n c1 B X0 M0 (if (mX7_opens rd 152 p (dX.1 (p + 32) 0) 10 dX).1 = true then (mX7_readNet rd 152 p (mX7_opens rd 152 p (dX.1 (p + 32) 0) 10 dX).2).bind (fun x => if x.1 = true then some (true, x.2) else some (false, x.2)) else some (false, (mX7_opens rd 152 p (dX.1 (p + 32) 0) 10 dX).2)) ((mX12_readNet 167 dM).bind fun x => some (x.1, x.2)) (PLn rd p n c1 B X0 M0 i) := by
  have w11 := h.wp
  obtain ⟨⟨-, a1⟩, ⟨-, a2⟩, ⟨-, a3⟩, ⟨c4', a4⟩, -⟩ := w11.cs
  have hp := hb.1
  unfold mX12_readNet mX12_readNet_19
  rw [if_pos (show inB (5 : Int32) 267 = true from ib267 (a := 5) (by omega)), show (5 : Int32).toNatClampNeg = 5 from rfl, h.row 5 (by omega), c4', h.xp.2.2.2.2.1.1, c4']
  refine ln_open (c := nT q) (mx := 10) (R := mX7_readNet rd 152 p) hb h hk rfl rfl (by omega) (by omega) (fun z => by have := (w11.2.2.2.2.2.2.2.2.2.2.2 z).2.2.2.1; omega) (fun d => if_neg Bool.false_ne_true) (fun d => if_pos rfl) (fun hbt hc dX dM h => ?_)
  subst hbt
  unfold mX7_readNet
  rw [h.xp.2.2.2.2.1.1, c4']
  refine two_new hb h (fun d => if_pos rfl) (fun v d hv => if_neg hv) (fun d => if_neg Bool.false_ne_true) (fun d => if_pos rfl) (fun v dX dM hv h => ?_)
  generalize hcc : nT q = c at *
  dsimp only
  rw [hv, show (97 : Int32) + (16 : Int32) * nI c = nI (97 + 16 * c) by rw [show (97 : Int32) = nI 97 from rfl, show (16 : Int32) = nI 16 from rfl, pk_mul, nI_add], sA2, show nI (97 + 16 * c) + (0 : Int32) = nI (97 + 16 * c) from nI_add _ 0, show nI (97 + 16 * c) + (1 : Int32) = nI (97 + 16 * c + 1) from nI_add _ 1, show nI (97 + 16 * c) + (3 : Int32) = nI (97 + 16 * c + 3) from nI_add _ 3, show nI (97 + 16 * c) + (5 : Int32) = nI (97 + 16 * c + 5) from nI_add _ 5, if_pos (ib267 (by omega)), if_pos (ib267 (by omega)), cl_nI (by omega), cl_nI (by omega)]
  have h := PSt_row (A := 97 + 16 * c + 5) (v := -2) (PSt_row (A := 97 + 16 * c + 2) (v := 0) h)
  refine two_val (val_kind hb h) (A := 97 + 16 * c) (by omega) rfl (fun d => if_pos m1p) (fun a d ha => if_neg (nI_pos (by omega))) (fun d => if_neg Bool.false_ne_true) (fun d => if_pos rfl) (fun kd dX dM ⟨hkd, h⟩ => ?_)
  have h := PSt_row (A := 97 + 16 * c) (v := nI kd) h
  refine two_after (lo := 1) (hi := 9) (A := 97 + 16 * c + 1) hb h (by decide) rfl rfl (by omega) (by omega) (by omega) rfl (fun d => if_neg Bool.false_ne_true) (fun d => if_pos rfl) (fun d => if_pos m1p) (fun a d ha => if_neg (nI_pos (by omega))) (fun d => if_neg Bool.false_ne_true) (fun d => if_pos rfl) (fun gg dX dM g1 g2 h => ?_)
  refine two_when (A := 97 + 16 * c + 3) hb h (by omega) rfl (fun d => if_neg Bool.false_ne_true) (fun d => if_pos rfl) (fun d => if_neg Bool.false_ne_true) (fun d => if_pos rfl) (fun j q' e1 e2 dX dM hij hw g3 g4 g5 h => ?_)
  refine two_take hb h (by decide) (fun d => if_neg Bool.false_ne_true) (fun d => if_pos rfl) (if_neg Bool.false_ne_true) (if_pos rfl) (fun dX dM h => ?_)
  dsimp only
  obtain ⟨k, k1, k2, k3, k4⟩ := h.nm
  have xt0 : dX.1 (p + 32) 0 = nI c := by rw [h.xp.2.2.2.2.1.1, c4']
  have at2 : dX.1 rd 2 = nI (j + 1) := h.2.1
  have q5 : q' (97 + 16 * c + 5) = -2 := by rw [g5 _ (by omega) (by omega), up_ne (by omega), up_ne (by omega), up_at]
  have q2 : q' (97 + 16 * c + 2) = 0 := by rw [g5 _ (by omega) (by omega), up_ne (by omega), up_ne (by omega), up_ne (by omega), up_at]
  have q0' : q' (97 + 16 * c) = nI kd := by rw [g5 _ (by omega) (by omega), up_ne (by omega), up_at]
  have q1' : q' (97 + 16 * c + 1) = nI gg := by rw [g5 _ (by omega) (by omega), up_at]
  have qo : ∀ l, ¬ (97 + 16 * c ≤ l ∧ l < 97 + 16 * c + 16) → q' l = q l := fun l hl => by rw [g5 _ (by omega) (by omega), up_ne (by omega), up_ne (by omega), up_ne (by omega), up_ne (by omega)]
  rw [show (300 : Int32) = nI 300 from rfl, nI_add, adN k2 (by omega), Option.bind_some,
    show (uI (uI (uL dX (p + 1) k v) (p + 2) k (nI (300 + c))) p 3 (nI (k + 1))).1 rd 3 = e1 from (dI_ne (by omega)).trans ((dI_ne (by omega)).trans h.2.2.2.2.2.1.1),
    show (uI (uI (uL dX (p + 1) k v) (p + 2) k (nI (300 + c))) p 3 (nI (k + 1))).1 rd 4 = e2 from (dI_ne (by omega)).trans ((dI_ne (by omega)).trans h.2.2.2.2.2.1.2),
    ad5 (t := p + 32) (c := c) (by rw [dI_ne (by omega), dI_ne (by omega)]; exact xt0) hc, Option.bind_some]
  have ef : ∀ o l, ¬ (p + 33 ≤ o ∧ o ≤ p + 38 ∧ l = c) → ¬ (o = p + 2 ∧ l = k) → ¬ (o = p ∧ l = 3) → ¬ (o = p + 32 ∧ l = 0) → (uI (uI (uI (uI (uI (uI (uI (uI (uI (uL dX (p + 1) k v) (p + 2) k (nI (300 + c))) p 3 (nI (k + 1))) (p + 32 + 1) c (nI kd)) (p + 32 + 2) c (nI gg)) (p + 32 + 3) c 0) (p + 32 + 4) c e1) (p + 32 + 5) c e2) (p + 32 + 6) c (-2)) (p + 32) 0 (nI (c + 1))).1 o l = dX.1 o l := fun o l z1 z2 z3 z4 => by
    rw [dI_ne (by omega), dI_ne (by omega), dI_ne (by omega), dI_ne (by omega), dI_ne (by omega), dI_ne (by omega), dI_ne (by omega), dI_ne (by omega), dI_ne (by omega), uL_1]
  have eL : (uI (uI (uI (uI (uI (uI (uI (uI (uI (uL dX (p + 1) k v) (p + 2) k (nI (300 + c))) p 3 (nI (k + 1))) (p + 32 + 1) c (nI kd)) (p + 32 + 2) c (nI gg)) (p + 32 + 3) c 0) (p + 32 + 4) c e1) (p + 32 + 5) c e2) (p + 32 + 6) c (-2)) (p + 32) 0 (nI (c + 1))).2 = (uL dX (p + 1) k v).2 := rfl
  have hN : NS p q q' c k 0 v (uI (uI (uI (uI (uI (uI (uI (uI (uI (uL dX (p + 1) k v) (p + 2) k (nI (300 + c))) p 3 (nI (k + 1))) (p + 32 + 1) c (nI kd)) (p + 32 + 2) c (nI gg)) (p + 32 + 3) c 0) (p + 32 + 4) c e1) (p + 32 + 5) c e2) (p + 32 + 6) c (-2)) (p + 32) 0 (nI (c + 1))) := by
    refine ⟨?_, ?_, dL_at _ _ _ _, dI_at _ _ _ _, fun l l1 l2 => ?_, ?_, q2, by omega, fun l hl => absurd hl (Nat.not_lt_zero _)⟩
    · rw [dI_ne (by omega), dI_ne (by omega), dI_ne (by omega), dI_ne (by omega), dI_ne (by omega), dI_ne (by omega), dI_ne (by omega), dI_at]
    · rw [dI_ne (by omega), dI_ne (by omega), dI_ne (by omega), dI_ne (by omega), dI_ne (by omega), dI_ne (by omega), dI_ne (by omega), dI_ne (by omega), dI_at]
    · rcases (show l = 0 ∨ l = 1 ∨ l = 3 ∨ l = 4 ∨ l = 5 by omega) with rfl | rfl | rfl | rfl | rfl
      · rw [dI_ne (by omega), dI_ne (by omega), dI_ne (by omega), dI_ne (by omega), dI_ne (by omega), dI_ne (by omega), dI_is (by omega) rfl]; exact q0'.symm
      · rw [dI_ne (by omega), dI_ne (by omega), dI_ne (by omega), dI_ne (by omega), dI_ne (by omega), dI_is (by omega) rfl]; exact q1'.symm
      · rw [dI_ne (by omega), dI_ne (by omega), dI_ne (by omega), dI_is (by omega) rfl]; exact g3.symm
      · rw [dI_ne (by omega), dI_ne (by omega), dI_is (by omega) rfl]; exact g4.symm
      · rw [dI_ne (by omega), dI_is (by omega) rfl]; exact q5.symm
    · rw [dI_ne (by omega), dI_ne (by omega), dI_ne (by omega), dI_ne (by omega), dI_at]; rfl
  generalize uI (uI (uI (uI (uI (uI (uI (uI (uI (uL dX (p + 1) k v) (p + 2) k (nI (300 + c))) p 3 (nI (k + 1))) (p + 32 + 1) c (nI kd)) (p + 32 + 2) c (nI gg)) (p + 32 + 3) c 0) (p + 32 + 4) c e1) (p + 32 + 5) c e2) (p + 32 + 6) c (-2)) (p + 32) 0 (nI (c + 1)) = dY at ef eL hN ⊢
  have eR : mX7_readPins rd 152 p (nI c) dY = mX7_readPins_54 (mX7_readPins_2 rd 152 p (nI c) 999999) rd 152 p (nI c) (nI 0) 0 (dY.1 rd 2) rd 152 p dY := by
    unfold mX7_readPins
    rw [show FUEL = 999999 + 1 from rfl, mX7_readPins_2, if_neg (by decide), if_pos (by decide)]
    unfold mX7_readPins_22
    rw [if_pos (Int32.le_refl _), if_pos (Int32.le_refl _)]; rfl
  have h2 : PSt rd p n c1 B X0 M0 (j + 1) true (e1, e2) q q' (Vn p k c (uI dY rd 2 (nI (j + 1)))) dM := by
    refine PSt_d hb h (c := c) (k := k) (by omega) hc k1 (fun o l z1 z2 => ?_) (fun o l z => ?_)
    · by_cases x1 : o = p + 32 ∧ l = 0
      · obtain ⟨rfl, rfl⟩ := x1
        exact (dI_at _ _ _ _).trans xt0.symm
      · by_cases x2 : o = p ∧ l = 3
        · obtain ⟨rfl, rfl⟩ := x2
          exact (dI_ne (by omega)).trans ((dI_at _ _ _ _).trans k2.symm)
        · rw [Vn_ne x2 x1]
          by_cases x3 : o = rd ∧ l = 2
          · obtain ⟨rfl, rfl⟩ := x3
            rw [dI_at, at2]
          · rw [dI_ne (by omega)]; exact ef o l z1 z2 x2 x1
    · show dY.2 o l = _
      rw [eL]; exact dL_ne (by omega)
  rw [eR]
  refine pin_step (i := j + 1) hb h2 (NS_x hp hc hN) (by rw [ef _ _ (by omega) (by omega) (by omega) (by omega), at2]; exact nI_add _ 0) hcc.symm hc k1 (by omega) (by omega) (fun l z1 z2 => qo l (by omega)) (fun d => if_neg Bool.false_ne_true) (fun d => if_neg Bool.false_ne_true) (fun d => if_pos rfl) (fun i' q'' dX dM hi' h' hN'' hq => ?_)
  refine lp_pins hb hcc.symm hc k1 (by omega) (fun d => if_neg Bool.false_ne_true) (fun d => if_pos rfl) 4 1 i' 999999 FUEL q'' dX dM rfl (by omega) (by omega) h' hN'' ⟨fun l hl => (hq l (by omega)).trans (qo l hl), ?_, ?_, ?_, ?_⟩ (by decide) (by decide)
  · rw [hq _ (by omega)]; exact ⟨kd, hkd, q0'⟩
  · rw [hq _ (by omega)]; exact ⟨gg, g1, g2, q1'⟩
  · rw [hq _ (by omega), hq _ (by omega), g3, g4]; exact hw
  · rw [hq _ (by omega)]; exact q5
