/-! lines: how they open; options, the board, nodes -/
theorem PSt_new {rd p n c1 : Nat} {B : Nat → Nat} {X0 M0 : Dt} {i : Nat} {w : Int32 × Int32} {q0 q : Nat → Int32} {dX dM : Dt} {q1 : Nat → Int32} {dX1 dM1 : Dt} (hb : Base rd p n c1 B X0 M0) (h : PSt rd p n c1 B X0 M0 i true w q0 q dX dM)
    (fx : ∀ o k, ¬ (p ≤ o ∧ o < p + 75) → dX1.1 o k = dX.1 o k) (fl : ∀ o k, o ≠ p + 1 → dX1.2 o k = dX.2 o k)
    (gm : ∀ o k, o ≠ 167 + 3 → o ≠ 167 + 7 → ¬ (o = 167 ∧ k = 13) → dM1.1 o k = dM.1 o k) (gl : ∀ o k, o ≠ 167 + 6 → dM1.2 o k = dM.2 o k)
    (row : ∀ k, k < 267 → dM1.1 (167 + 3) k = q1 k) (x : XP p true dX1 q1) (nm : NmR p q1 dX1 dM1) (wp : WP q1 true) : PSt rd p n c1 B X0 M0 i true w q1 q1 dX1 dM1 := by
  have hp := hb.1
  obtain ⟨b1, b2, ⟨t1, t2, t3, t4⟩, b4, b5, b6, b7, -⟩ := h
  refine ⟨b1, by rw [fx _ _ (by omega)]; exact b2, ⟨by rw [gm _ _ (by omega) (by omega) (by omega)]; exact t1, by rw [gm _ _ (by omega) (by omega) (by omega)]; exact t2, by rw [gm _ _ (by omega) (by omega) (by omega)]; exact t3, fun z => by rw [gm _ _ (by omega) (by omega) (by omega)]; exact t4 z⟩, ⟨fun o k z1 z2 => by rw [fx _ _ z2]; exact b4.1 o k z1 z2, fun o k z => by rw [fl _ _ z]; exact b4.2 o k z⟩, ⟨fun o k z1 z2 z3 => by rw [gm _ _ z1 z2 (by omega)]; exact b5.1 o k z1 z2 z3, fun o k z1 z2 => by rw [gl _ _ z1]; exact b5.2 o k z1 z2⟩, ⟨by rw [fx _ _ (by omega)]; exact b6.1, by rw [fx _ _ (by omega)]; exact b6.2⟩, ⟨by rw [fx _ _ (by omega)]; exact b7.1, by rw [gm _ _ (by omega) (by omega) (by omega)]; exact b7.2⟩, row, x, nm, wp⟩
theorem ln_open {rd p n c1 : Nat} {B : Nat → Nat} {X0 M0 : Dt} {i : Nat} {bt : Bool} {w : Int32 × Int32} {q : Nat → Int32} {dX dM : Dt} {c mx : Nat} {vc vm : Int32} {R : Dt → Option (Bool × Dt)} {H : Bool × Dt → Option (Bool × Dt)} {H' : Dt → Option (Bool × Dt)} {P : Dt → Dt → Prop} (hb : Base rd p n c1 B X0 M0) (h : PSt rd p n c1 B X0 M0 i bt w q q dX dM) (hk : (T B n i).2.1 ≠ 6)
    (hc : vc = nI c) (hm : vm = nI mx) (h1 : c < 1000) (h2 : mx < 1000) (h0 : bt = false → c < mx) (fM : ∀ d, H (false, d) = some (false, d)) (tM : ∀ d, H (true, d) = H' d)
    (ok : bt = true → c < mx → ∀ dX dM, PSt rd p n c1 B X0 M0 (i + 1) bt w q q dX dM → PTwo rd p n c1 B X0 M0 (R dX) (H' dM) P) :
    PTwo rd p n c1 B X0 M0 (if (mX7_opens rd 152 p vc vm dX).1 = true then (R (mX7_opens rd 152 p vc vm dX).2).bind (fun x => if x.1 = true then some (true, x.2) else some (false, x.2)) else some (false, (mX7_opens rd 152 p vc vm dX).2)) ((if vm ≤ vc then (mX12_begins 167 0 dM).bind H else (mX12_begins 167 1 dM).bind H).bind fun x => some (x.1, x.2)) P := by
  have b5 := h.2.2.2.2.2.2.1
  subst hc hm
  unfold mX7_opens mX12_begins
  rw [b5.1, b5.2]
  cases bt with
  | false =>
    have := h0 rfl
    rw [if_pos (show b2i false = 0 from rfl), if_neg (show ¬ ((mX7_fail rd 152 p 6 dX).1, (mX7_fail rd 152 p 6 dX).2).1 = true from Bool.false_ne_true), if_neg (nI_ge this (by omega)), if_neg (show ¬ (1 : Int32) = 0 by decide), if_pos (show b2i false = 0 from rfl), Option.bind_some, fM, Option.bind_some]
    exact two_err h 6 rfl rfl
  | true =>
    rw [if_neg (show ¬ b2i true = 0 by decide)]
    by_cases e : c < mx
    · obtain ⟨d1, g1, g2, -⟩ := p_go hb h hk
      rw [if_pos (nI_lt e (by omega)), if_pos rfl, if_neg (nI_ge e (by omega)), if_neg (show ¬ (1 : Int32) = 0 by decide), if_neg (show ¬ b2i true = 0 by decide), g1, Option.bind_some, Option.bind_some, tM, h.2.1, nI_1]
      obtain ⟨b, x1, m, x2, y1, y2, y3⟩ := ok rfl e _ _ g2
      refine ⟨b, x1, m, x2, ?_, by rw [y2]; rfl, y3⟩
      show (R (uI dX rd 2 (nI (i + 1)))).bind _ = _
      rw [y1, Option.bind_some]
      cases b <;> rfl
    · rw [if_neg (show ¬ nI c < nI mx from fun z => e ((nI_ltI (by omega) (by omega)).mp z)), if_neg (show ¬ ((mX7_fail rd 152 p 5 dX).1, (mX7_fail rd 152 p 5 dX).2).1 = true from Bool.false_ne_true), if_pos (nI_le (by omega) (by omega)), if_pos (show (0 : Int32) = 0 from rfl), Option.bind_some, fM, Option.bind_some]
      exact two_err h 5 rfl rfl
theorem PSt.nm {rd p n c1 : Nat} {B : Nat → Nat} {X0 M0 : Dt} {i : Nat} {bt : Bool} {w : Int32 × Int32} {q0 q : Nat → Int32} {dX dM : Dt} (h : PSt rd p n c1 B X0 M0 i bt w q0 q dX dM) : NmR p q0 dX dM := h.2.2.2.2.2.2.2.2.2.1
theorem PSt.xp {rd p n c1 : Nat} {B : Nat → Nat} {X0 M0 : Dt} {i : Nat} {bt : Bool} {w : Int32 × Int32} {q0 q : Nat → Int32} {dX dM : Dt} (h : PSt rd p n c1 B X0 M0 i bt w q0 q dX dM) : XP p bt dX q0 := h.2.2.2.2.2.2.2.2.1
theorem PSt.wp {rd p n c1 : Nat} {B : Nat → Nat} {X0 M0 : Dt} {i : Nat} {bt : Bool} {w : Int32 × Int32} {q0 q : Nat → Int32} {dX dM : Dt} (h : PSt rd p n c1 B X0 M0 i bt w q0 q dX dM) : WP q0 bt := h.2.2.2.2.2.2.2.2.2.2
theorem PSt.row {rd p n c1 : Nat} {B : Nat → Nat} {X0 M0 : Dt} {i : Nat} {bt : Bool} {w : Int32 × Int32} {q0 q : Nat → Int32} {dX dM : Dt} (h : PSt rd p n c1 B X0 M0 i bt w q0 q dX dM) : ∀ k, k < 267 → dM.1 (167 + 3) k = q k := h.2.2.2.2.2.2.2.1
theorem ib267 {a : Nat} (h : a < 267) : inB (nI a) 267 = true := inB_nI h (by decide)
theorem ln_option {rd p n c1 : Nat} {B : Nat → Nat} {X0 M0 : Dt} {i : Nat} {bt : Bool} {w : Int32 × Int32} {q : Nat → Int32} {dX dM : Dt} (hb : Base rd p n c1 B X0 M0) (h : PSt rd p n c1 B X0 M0 i bt w q q dX dM) (hk : (T B n i).2.1 ≠ 6) :
    PTwo rd p n c1 B X0 M0 (if (mX7_opens rd 152 p (dX.1 p 2) 4 dX).1 = true then (mX7_readOption rd 152 p (mX7_opens rd 152 p (dX.1 p 2) 4 dX).2).bind (fun x => if x.1 = true then some (true, x.2) else some (false, x.2)) else some (false, (mX7_opens rd 152 p (dX.1 p 2) 4 dX).2)) ((mX12_readOption 167 dM).bind fun x => some (x.1, x.2)) (PLn rd p n c1 B X0 M0 i) := by
  have w11 := h.wp
  obtain ⟨⟨c1', a1⟩, ⟨c2', a2⟩, ⟨c3', a3⟩, ⟨c4', a4⟩, ⟨c5', a5⟩⟩ := w11.cs
  have hp := hb.1
  unfold mX12_readOption mX12_readOption_18
  rw [if_pos (show inB (3 : Int32) 267 = true from ib267 (a := 3) (by omega)), show (3 : Int32).toNatClampNeg = 3 from rfl, h.row 3 (by omega), c2', h.xp.2.1, c2']
  refine ln_open (c := nO q) (mx := 4) (R := mX7_readOption rd 152 p) hb h hk rfl rfl (by omega) (by omega) (fun z => by have := (w11.2.2.2.2.2.2.2.2.2.2.2 z).2.1; omega) (fun d => if_neg Bool.false_ne_true) (fun d => if_pos rfl) (fun hbt hc dX dM h => ?_)
  subst hbt
  unfold mX7_readOption
  refine two_new hb h (fun d => if_pos rfl) (fun v d hv => if_neg hv) (fun d => if_neg Bool.false_ne_true) (fun d => if_pos rfl) (fun v dX dM hv h => ?_)
  obtain ⟨k, k1, k2, k3, k4⟩ := h.nm
  dsimp only
  rw [hv, h.xp.2.1, c2', show (100 : Int32) = nI 100 from rfl, nI_add, adN k2 (by omega), Option.bind_some, mtl k3 (by omega), Option.bind_some, if_pos (show inB (3 : Int32) 267 = true from ib267 (a := 3) (by omega)), if_pos (show inB (3 : Int32) 267 = true from ib267 (a := 3) (by omega)),
    show (uI (uI (uL dX (p + 1) k v) (p + 2) k (nI (100 + nO q))) p 3 (nI (k + 1))).1 p 2 = nI (nO q) from (dI_ne (by omega)).trans ((dI_ne (by omega)).trans (h.xp.2.1.trans c2')), nI_1,
    show (uI (uI (uL dM (167 + 6) k v) (167 + 7) k (nI (100 + nO q))) 167 13 (nI (k + 1))).1 (167 + 3) 3 = nI (nO q) from (dI_ne (by omega)).trans ((dI_ne (by omega)).trans ((h.row 3 (by omega)).trans c2')), nI_1]
  have ag : ∀ j, j ≠ 3 → upq q 3 (nI (nO q + 1)) j = q j := fun j hj => up_ne hj
  have eO : nO (upq q 3 (nI (nO q + 1))) = nO q + 1 := by unfold nO; rw [up_at, cl_nI (by unfold nO at a2; omega)]
  have eN : nN (upq q 3 (nI (nO q + 1))) = nN q := by unfold nN; rw [ag _ (by omega)]
  have eP : nP (upq q 3 (nI (nO q + 1))) = nP q := by unfold nP; rw [ag _ (by omega)]
  have eT : nT (upq q 3 (nI (nO q + 1))) = nT q := by unfold nT; rw [ag _ (by omega)]
  have eB : nB (upq q 3 (nI (nO q + 1))) = nB q := by unfold nB; rw [ag _ (by omega)]
  have sj := w11.2.2.2.2.2.2.2.2.2.2.1 rfl
  refine two_ends (q := upq q 3 (nI (nO q + 1))) (i := i + 1 + 1) hb (PSt_new hb h (fun o j z => ?_) (fun o j z => dL_ne (Or.inl z)) (fun o j z1 z2 z3 => ?_) (fun o j z => dL_ne (Or.inl z)) (fun j hj => ?_) ⟨fun _ => ⟨?_, ?_⟩, ?_, ?_, ?_, ?_, ?_⟩ ?_ ?_) (by omega) (fun _ _ => rfl)
  · rw [dI_ne (by omega), dI_ne (by omega), dI_ne (by omega)]; rfl
  · rw [dI_ne (by omega), dI_ne (by omega), dI_ne (by omega)]; rfl
  · by_cases e : j = 3
    · subst e; rw [dI_at, up_at]
    · rw [dI_ne (by omega), dI_ne (by omega), dI_ne (by omega), up_ne e]; exact h.row j hj
  · rw [dI_ne (by omega), dI_ne (by omega), dI_ne (by omega), up_ne (by omega)]; exact (h.xp.1 rfl).1
  · rw [dI_ne (by omega), dI_ne (by omega), dI_ne (by omega), up_ne (by omega)]; exact (h.xp.1 rfl).2
  · rw [dI_at, up_at]
  · exact XTr_c h.xp.2.2.1 (ag _ (by omega)) (fun j _ _ => ag j (by omega)) a1 (fun o j _ _ => by rw [dI_ne (by omega), dI_ne (by omega), dI_ne (by omega)]; rfl)
  · exact XPl_c h.xp.2.2.2.1 (ag _ (by omega)) (fun j _ _ => ag j (by omega)) a3 (fun o j _ _ => by rw [dI_ne (by omega), dI_ne (by omega), dI_ne (by omega)]; rfl)
  · exact XNe_c h.xp.2.2.2.2.1 w11 (ag _ (by omega)) (fun j _ _ => ag j (by omega)) (fun j _ => ag _ (by omega)) (fun o j _ _ => by rw [dI_ne (by omega), dI_ne (by omega), dI_ne (by omega)]; rfl)
  · exact XBu_c h.xp.2.2.2.2.2 (ag _ (by omega)) (fun j _ _ => ag j (by omega)) a5 (fun o j _ _ => by rw [dI_ne (by omega), dI_ne (by omega), dI_ne (by omega)]; rfl)
  · refine NmR_add (k := k) (u := 100 + nO q) (v := v) h.nm k1 (by omega) (by omega) (by omega) (by omega) (by omega) (by unfold MOk; omega) ?_ ⟨?_, fun j hj => ?_⟩ ⟨?_, fun j hj => ?_⟩ ?_ ⟨?_, fun j hj => ?_⟩ ⟨?_, fun j hj => ?_⟩
    · rw [dI_ne (by omega), dI_at]
    · rw [dI_ne (by omega), dI_ne (by omega), dI_at]
    · rw [dI_ne (by omega), dI_ne (by omega), dI_ne (by omega)]; rfl
    · exact dL_at _ _ _ _
    · exact dL_ne (Or.inr (by omega))
    · rw [dI_ne (by omega), dI_at]
    · rw [dI_ne (by omega), dI_ne (by omega), dI_at]
    · rw [dI_ne (by omega), dI_ne (by omega), dI_ne (by omega)]; rfl
    · exact dL_at _ _ _ _
    · exact dL_ne (Or.inr (by omega))
  · refine WP_ext w11 ⟨⟨?_, ?_⟩, ⟨?_, ?_⟩, ⟨?_, ?_⟩, ⟨?_, ?_⟩, ⟨?_, ?_⟩⟩ (by omega) (by omega) (by omega) (fun j _ => ⟨ag _ (by omega), ag _ (by omega), ag _ (by omega)⟩) (fun j _ k _ => ag _ (by omega)) (fun j _ k _ => ag _ (by omega)) (fun j _ => ⟨ag _ (by omega), ag _ (by omega)⟩) (fun j _ _ => by omega) (fun j _ _ => by omega) (fun j _ _ => by omega) (fun j _ _ => by omega) (by rw [ag _ (by omega), ag _ (by omega)]; exact sj)
    · rw [eN, ag _ (by omega)]; exact c1'
    · omega
    · rw [eO, up_at]
    · omega
    · rw [eP, ag _ (by omega)]; exact c3'
    · omega
    · rw [eT, ag _ (by omega)]; exact c4'
    · omega
    · rw [eB, ag _ (by omega)]; exact c5'
    · omega
