theorem m1n : ¬ (0 : Int32) ≤ -1 := by decide
theorem m1p : (-1 : Int32) < 0 := by decide
theorem ln_node {rd p n c1 : Nat} {B : Nat → Nat} {X0 M0 : Dt} {i : Nat} {bt : Bool} {w : Int32 × Int32} {q : Nat → Int32} {dX dM : Dt} (hb : Base rd p n c1 B X0 M0) (h : PSt rd p n c1 B X0 M0 i bt w q q dX dM) (hk : (T B n i).2.1 ≠ 6) :
    PTwo rd p n c1 B X0 M0 (if (mX7_opens rd 152 p (dX.1 (p + 3) 0) 14 dX).1 = true then (mX7_readNode rd 152 p (mX7_opens rd 152 p (dX.1 (p + 3) 0) 14 dX).2).bind (fun x => if x.1 = true then some (true, x.2) else some (false, x.2)) else some (false, (mX7_opens rd 152 p (dX.1 (p + 3) 0) 14 dX).2)) ((mX12_readNode 167 dM).bind fun x => some (x.1, x.2)) (PLn rd p n c1 B X0 M0 i) := by
  have w11 := h.wp
  obtain ⟨⟨c1', a1⟩, -⟩ := w11.cs
  unfold mX12_readNode mX12_readNode_19
  rw [if_pos (show inB (2 : Int32) 267 = true from ib267 (a := 2) (by omega)), show (2 : Int32).toNatClampNeg = 2 from rfl, h.row 2 (by omega), c1', h.xp.2.2.1.1, c1']
  refine ln_open (c := nN q) (mx := 14) (R := mX7_readNode rd 152 p) hb h hk rfl rfl (by omega) (by omega) (fun z => by have := (w11.2.2.2.2.2.2.2.2.2.2.2 z).1; omega) (fun d => if_neg Bool.false_ne_true) (fun d => if_pos rfl) (fun hbt hc dX dM h => ?_)
  subst hbt
  unfold mX7_readNode
  rw [h.xp.2.2.1.1, c1']
  refine two_new hb h (fun d => if_pos rfl) (fun v d hv => if_neg hv) (fun d => if_neg Bool.false_ne_true) (fun d => if_pos rfl) (fun v dX dM hv h => ?_)
  dsimp only
  rw [show (7 : Int32) = nI 7 from rfl, show (21 : Int32) = nI 21 from rfl, show (35 : Int32) = nI 35 from rfl, nI_add, nI_add, nI_add, if_pos (ib267 (by omega)), if_pos (ib267 (by omega)), cl_nI (by omega), cl_nI (by omega), hv]
  by_cases e : nN q = 0
  · rw [if_pos (show nI (nN q) = 0 by rw [e]; rfl), if_pos (show nI (nN q) ≤ 0 by rw [e]; exact Int32.le_refl _)]
    exact fin_node (c := nN q) (w := w) (q0 := q) (q := upq (upq q (7 + nN q) (-2)) (21 + nN q) 0) hb (PSt_row (PSt_row h)) (by omega) rfl hc (fun x => rfl) (fun j h1 h2 h3 => (up_ne h2).trans (up_ne h1)) ((up_ne (by omega)).trans (up_at _ _ _)) (up_at _ _ _) (fun z => by omega) (fun _ => ⟨rfl, rfl⟩) (fun z => by omega)
  · rw [if_neg (show ¬ nI (nN q) = 0 from fun z => e (nI_inj (b := 0) (by omega) (by omega) z)), if_neg (show ¬ nI (nN q) ≤ 0 from nI_ge (a := 0) (by omega) (by omega)), branch_bind (fun d => if_neg Bool.false_ne_true)]
    have h := PSt_row (A := 21 + nN q) (v := 0) (PSt_row (A := 7 + nN q) (v := -2) h)
    refine two_take hb h (by decide) (fun d => if_neg Bool.false_ne_true) (fun d => if_pos rfl) (if_neg Bool.false_ne_true) (if_pos rfl) (fun dX dM h => ?_)
    refine two_val (val_named hb h (z := 0) (by omega) rfl) (A := 7 + nN q) (by omega) rfl (fun d => if_neg m1n) (fun a d ha => if_pos (nI_pos' (by omega))) (fun d => if_neg Bool.false_ne_true) (fun d => if_pos rfl) (fun a dX dM ⟨ha, ha14, h⟩ => ?_)
    have h := PSt_row (A := 7 + nN q) (v := nI a) h
    refine two_val (val_side hb h) (A := 35 + nN q) (by omega) rfl (fun d => if_pos m1p) (fun a d ha => if_neg (nI_pos (by omega))) (fun d => if_neg Bool.false_ne_true) (fun d => if_pos rfl) (fun s dX dM ⟨hs, h⟩ => ?_)
    have h := PSt_row (A := 35 + nN q) (v := nI s) h
    refine two_after (lo := 1) (hi := 999) (A := 21 + nN q) hb h (by decide) rfl rfl (by omega) (by omega) (by omega) rfl (fun d => if_neg Bool.false_ne_true) (fun d => if_pos rfl) (fun d => if_neg m1n) (fun a d ha => if_pos (nI_pos' (by omega))) (fun d => if_neg Bool.false_ne_true) (fun d => if_pos rfl) (fun l dX dM l1 l2 h => ?_)
    refine fin_node (c := nN q) (w := w) (q0 := q) hb h (by omega) rfl hc (fun x => if_pos rfl) (fun j h1 h2 h3 => ?_) ?_ (up_at _ _ _) (fun _ => ?_) (fun z => absurd z e) (fun _ => ⟨⟨a, ha, rfl⟩, ⟨l, l1, l2, rfl⟩, s, hs, rfl⟩)
    · rw [up_ne h2, up_ne h3, up_ne h1, up_ne h2, up_ne h1]
    · rw [up_ne (by omega), up_ne (by omega), up_at]
    · rw [up_ne (by omega), up_at]
theorem two_val2 {rd p n c1 : Nat} {B : Nat → Nat} {X0 M0 : Dt} {A : Nat} {sl : Int32} {X M : Option (Int32 × Dt)} {Q : Nat → Dt → Dt → Prop} {F : Int32 × Dt → Option (Bool × Dt)} {H : Bool × Dt → Option (Bool × Dt)} {X' : Nat → Dt → Option (Bool × Dt)} {H' : Dt → Option (Bool × Dt)} {P : Dt → Dt → Prop} (hv : PVal rd p n c1 B X0 M0 X M Q) (hA : A < 267) (hsl : sl = nI A)
    (fX : ∀ d, F (-1, d) = some (false, d)) (tX : ∀ a d, a < 1000 → F (nI a, d) = X' a d) (fM : ∀ dX d, PFl rd p n c1 B X0 M0 dX d → ∃ d', H (false, d) = some (false, d') ∧ PFl rd p n c1 B X0 M0 dX d') (tM : ∀ d, H (true, d) = H' d)
    (ok : ∀ a dX dM, Q a dX dM → PTwo rd p n c1 B X0 M0 (X' a dX) (H' (uI dM (167 + 3) A (nI a))) P) : PTwo rd p n c1 B X0 M0 (X.bind F) (M.bind fun x => (mX12_lays 167 sl x.1 x.2).bind H) P := by
  subst hsl
  rcases hv with ⟨a, dX, dM, a1, a2, a3, a4⟩ | ⟨dX, dM, a2, a3, a4⟩
  · rw [a2, a3, Option.bind_some, Option.bind_some, lays_v hA a1, Option.bind_some, tX a dX a1, tM]
    exact ok a dX dM a4
  · obtain ⟨d', f1, f2⟩ := fM _ _ (PFl_row (A := A) (v := -1) a4)
    rw [a2, a3, Option.bind_some, Option.bind_some, lays_m1 hA, Option.bind_some, fX, f1]
    exact ⟨_, _, _, _, rfl, rfl, Or.inr (Or.inl ⟨rfl, rfl, f2⟩)⟩
theorem two_after2 {rd p n c1 : Nat} {B : Nat → Nat} {X0 M0 : Dt} {i : Nat} {bt : Bool} {w : Int32 × Int32} {q0 q : Nat → Int32} {dX dM : Dt} {k A lo hi : Nat} {sl vl vh : Int32} {F H : Bool × Dt → Option (Bool × Dt)} {G : Int32 × Dt → Option (Bool × Dt)} {X' : Nat → Dt → Option (Bool × Dt)} {H' : Dt → Option (Bool × Dt)} {P : Dt → Dt → Prop} (hb : Base rd p n c1 B X0 M0) (h : PSt rd p n c1 B X0 M0 i bt w q0 q dX dM) (hk : k < 24) (hl : vl = nI lo) (hh : vh = nI hi) (h1 : lo < 1000) (h2 : hi < 1000) (hA : A < 267) (hsl : sl = nI A)
    (fX : ∀ d, F (false, d) = some (false, d)) (tX : ∀ d, F (true, d) = (mX7_takeWhole rd 152 p vl vh d).bind G) (fG : ∀ d, G (-1, d) = some (false, d)) (tG : ∀ a d, a < 1000 → G (nI a, d) = X' a d) (fM : ∀ dX d, PFl rd p n c1 B X0 M0 dX d → ∃ d', H (false, d) = some (false, d') ∧ PFl rd p n c1 B X0 M0 dX d') (tM : ∀ d, H (true, d) = H' d)
    (ok : ∀ a dX dM, lo ≤ a → a ≤ hi → PSt rd p n c1 B X0 M0 (i + 2) bt w q0 (upq q A (nI a)) dX dM → PTwo rd p n c1 B X0 M0 (X' a dX) (H' dM) P) : PTwo rd p n c1 B X0 M0 ((mX7_take rd 152 p k dX).bind F) ((mX12_after 167 k vl vh dM).bind fun x => (mX12_lays 167 sl x.1 x.2).bind H) P := by
  unfold mX12_after
  by_cases e : wd (T B n i) k = true
  · obtain ⟨d1, g1, g2, -⟩ := p_go hb h (wd_ne e)
    have eX : mX7_take rd 152 p k dX = some (true, uI dX rd 2 (nI (i + 1))) := by
      unfold mX7_take
      rw [x_reads hb h hk, Option.bind_some, if_pos e, h.2.1, nI_1]
    rw [eX, Option.bind_some, tX, m_word hb h hk, Option.bind_some, if_pos e, g1, Option.bind_some]
    have v := val_whole hb g2 hl hh h1 h2
    refine two_val2 (X := mX7_takeWhole rd 152 p vl vh (uI dX rd 2 (nI (i + 1)))) (M := (mX12_passes 167 vl vh d1).bind fun x7 => some (x7.1, x7.2)) (Q := fun a dX' dM' => lo ≤ a ∧ a ≤ hi ∧ PSt rd p n c1 B X0 M0 (i + 1 + 1) bt w q0 q dX' dM') ?_ hA hsl fG tG fM tM (fun a dX dM ⟨z1, z2, z3⟩ => ok a _ _ z1 z2 (PSt_row z3))
    rcases v with ⟨a, x1, x2, v1, v2, v3, v4⟩ | ⟨x1, x2, v2, v3, v4⟩
    · exact Or.inl ⟨a, x1, x2, v1, v2, by rw [v3]; rfl, v4⟩
    · exact Or.inr ⟨x1, x2, v2, by rw [v3]; rfl, v4⟩
  · have e := Bool.eq_false_iff.mpr e
    have eX : mX7_take rd 152 p k dX = some (false, uI dX rd 6 1) := by
      unfold mX7_take
      rw [x_reads hb h hk, Option.bind_some, e, if_neg Bool.false_ne_true]; rfl
    obtain ⟨d', f1, f2⟩ := fM _ _ (PFl_row (A := A) (v := -1) (p_err h 1))
    rw [eX, Option.bind_some, fX, m_word hb h hk, Option.bind_some, e, if_neg Bool.false_ne_true, Option.bind_some, show (mX12_errs 167 1 dM).1 = -1 from rfl, hsl, lays_m1 hA, Option.bind_some]
    refine ⟨_, _, _, _, rfl, f1, Or.inr (Or.inl ⟨rfl, rfl, f2⟩)⟩
theorem PFl_22 {rd p n c1 : Nat} {B : Nat → Nat} {X0 M0 : Dt} {dX dM : Dt} {v : Int32} (h : PFl rd p n c1 B X0 M0 dX dM) : PFl rd p n c1 B X0 M0 dX (uI dM 167 22 v) := by
  obtain ⟨j, f, a1, a2, a3, a4, a5, a6, a7⟩ := h
  refine ⟨j, f, a1, a2, a3, by rw [dI_ne (by omega)]; exact a4, by rw [dI_ne (by omega)]; exact a5, a6, ⟨fun o k z1 z2 z3 => ?_, a7.2⟩⟩
  rw [dI_ne (by omega)]; exact a7.1 o k z1 z2 z3
theorem ln_board {rd p n c1 : Nat} {B : Nat → Nat} {X0 M0 : Dt} {i : Nat} {bt : Bool} {w : Int32 × Int32} {q : Nat → Int32} {dX dM : Dt} (hb : Base rd p n c1 B X0 M0) (h : PSt rd p n c1 B X0 M0 i bt w q q dX dM) (hk : (T B n i).2.1 ≠ 6) :
    PTwo rd p n c1 B X0 M0 (if dX.1 rd 5 = 0 then (mX7_readBoard rd 152 p dX).bind (fun x => some (x.1, x.2)) else some ((mX7_fail rd 152 p 3 dX).1, (mX7_fail rd 152 p 3 dX).2)) ((mX12_readBoard 167 dM).bind fun x => some (x.1, x.2)) (PLn rd p n c1 B X0 M0 i) := by
  have w11 := h.wp
  have hp := hb.1
  have b5 := h.2.2.2.2.2.2.1
  unfold mX12_readBoard
  rw [b5.1, b5.2]
  cases bt with
  | true =>
    rw [if_neg (show ¬ b2i true = 0 by decide), if_neg (show ¬ b2i true = 0 by decide), Option.bind_some]
    exact two_err h 3 rfl rfl
  | false =>
    rw [if_pos (show b2i false = 0 from rfl), if_pos (show b2i false = 0 from rfl)]
    obtain ⟨d1, g1, g2, -⟩ := p_go hb h hk
    rw [g1, Option.bind_some]
    unfold mX7_readBoard
    rw [h.2.1, nI_1]
    have main : PTwo rd p n c1 B X0 M0 ((mX7_take rd 152 p 10 (uI dX rd 2 (nI (i + 1)))).bind fun x2 => if x2.1 = true then (mX7_takeWhole rd 152 p 0 99 x2.2).bind fun x5 => if x5.1 < 0 then some (false, x5.2) else (mX7_take rd 152 p 11 x5.2).bind fun x8 => if x8.1 = true then (mX7_takeWhole rd 152 p 0 99 x8.2).bind fun x11 => if 0 ≤ x11.1 then (mX7_lineEnds rd 152 p (uI (uI (uI x11.2 p 0 x5.1) p 1 x11.1) rd 5 1)).bind fun x14 => some (x14.1, x14.2) else some (false, x11.2) else some (false, x8.2) else some (false, x2.2))
      ((mX12_after 167 10 0 99 d1).bind fun x5 => (mX12_lays 167 0 x5.1 x5.2).bind fun x7 => if x7.1 = true then (mX12_after 167 11 0 99 x7.2).bind fun x10 => (mX12_lays 167 1 x10.1 x10.2).bind fun x12 => if x12.1 = true then (bq ((uI x12.2 167 22 1).1 167 22)).bind fun b => some (b, uI x12.2 167 22 1) else (bq ((uI x12.2 167 22 0).1 167 22)).bind fun b => some (b, uI x12.2 167 22 0) else (bq ((uI x7.2 167 22 0).1 167 22)).bind fun b => some (b, uI x7.2 167 22 0)) (PLn rd p n c1 B X0 M0 i) := by
      have fM : ∀ d, (bq ((uI d 167 22 0).1 167 22)).bind (fun b => some (b, uI d 167 22 0)) = some (false, uI d 167 22 0) := fun d => by rw [dI_at]; rfl
      refine two_after2 (lo := 0) (hi := 99) (A := 0) hb g2 (by decide) rfl rfl (by omega) (by omega) (by omega) rfl (fun d => if_neg Bool.false_ne_true) (fun d => if_pos rfl) (fun d => if_pos m1p) (fun a d ha => if_neg (nI_pos (by omega))) (fun x d hf => ⟨_, (if_neg Bool.false_ne_true).trans (fM d), PFl_22 hf⟩) (fun d => if_pos rfl) (fun a dX dM l1 l2 h => ?_)
      refine two_after2 (lo := 0) (hi := 99) (A := 1) hb h (by decide) rfl rfl (by omega) (by omega) (by omega) rfl (fun d => if_neg Bool.false_ne_true) (fun d => if_pos rfl) (fun d => if_neg m1n) (fun a d ha => if_pos (nI_pos' (by omega))) (fun x d hf => ⟨_, (if_neg Bool.false_ne_true).trans (fM d), PFl_22 hf⟩) (fun d => if_pos rfl) (fun b dX dM k1 k2 h => ?_)
      dsimp only
      rw [dI_at, show bq 1 = some true from rfl, Option.bind_some]
      have ag : ∀ j, 2 ≤ j → upq (upq q 0 (nI a)) 1 (nI b) j = q j := fun j hj => (up_ne (by omega)).trans (up_ne (by omega))
      have e0 : upq (upq q 0 (nI a)) 1 (nI b) 0 = nI a := (up_ne (by omega)).trans (up_at _ _ _)
      have e1 : upq (upq q 0 (nI a)) 1 (nI b) 1 = nI b := up_at _ _ _
      obtain ⟨b1, b2, ⟨t1, t2, t3, t4⟩, b4, b5, b6, b7, b8, b9, b10, b11⟩ := h
      generalize upq (upq q 0 (nI a)) 1 (nI b) = q1 at *
      have eN : nN q1 = nN q := by unfold nN; rw [ag _ (by omega)]
      have eO : nO q1 = nO q := by unfold nO; rw [ag _ (by omega)]
      have eP : nP q1 = nP q := by unfold nP; rw [ag _ (by omega)]
      have eT : nT q1 = nT q := by unfold nT; rw [ag _ (by omega)]
      have eB : nB q1 = nB q := by unfold nB; rw [ag _ (by omega)]
      obtain ⟨⟨c1', a1⟩, ⟨c2', a2⟩, ⟨c3', a3⟩, ⟨c4', a4⟩, ⟨c5', a5⟩⟩ := w11.cs
      have wp : WP q1 true := by
        refine WP_ext w11 ⟨⟨?_, ?_⟩, ⟨?_, ?_⟩, ⟨?_, ?_⟩, ⟨?_, ?_⟩, ⟨?_, ?_⟩⟩ (by omega) (by omega) (by omega) (fun j _ => ⟨ag _ (by omega), ag _ (by omega), ag _ (by omega)⟩) (fun j _ k _ => ag _ (by omega)) (fun j _ k _ => ag _ (by omega)) (fun j _ => ⟨ag _ (by omega), ag _ (by omega)⟩) (fun j _ _ => by omega) (fun j _ _ => by omega) (fun j _ _ => by omega) (fun j _ _ => by omega) ⟨⟨a, l2, e0⟩, b, k2, e1⟩
        · rw [eN, ag _ (by omega)]; exact c1'
        · omega
        · rw [eO, ag _ (by omega)]; exact c2'
        · omega
        · rw [eP, ag _ (by omega)]; exact c3'
        · omega
        · rw [eT, ag _ (by omega)]; exact c4'
        · omega
        · rw [eB, ag _ (by omega)]; exact c5'
        · omega
      have f : ∀ o j, p ≤ o → o < p + 75 → ¬ (o = p ∧ (j = 0 ∨ j = 1)) → (uI (uI (uI dX p 0 (nI a)) p 1 (nI b)) rd 5 1).1 o j = dX.1 o j := fun o j z1 z2 z3 => by rw [dI_ne (by omega), dI_ne (by omega), dI_ne (by omega)]
      have g : ∀ o j, ¬ (o = 167 ∧ j = 22) → (uI dM 167 22 1).1 o j = dM.1 o j := fun o j z => dI_ne (by omega)
      refine two_ends (i := i + 1 + 2 + 2) (w := w) (q := q1) hb ⟨b1, ?_, ⟨by rw [g _ _ (by omega)]; exact t1, by rw [g _ _ (by omega)]; exact t2, by rw [g _ _ (by omega)]; exact t3, fun z => by rw [g _ _ (by omega)]; exact t4 z⟩, ⟨fun o j z1 z2 => ?_, b4.2⟩, ⟨fun o j z1 z2 z3 => by rw [g _ _ (by omega)]; exact b5.1 o j z1 z2 z3, b5.2⟩, ⟨?_, ?_⟩, ⟨dI_at _ _ _ _, dI_at _ _ _ _⟩, fun j hj => by rw [g _ _ (by omega)]; exact b8 j hj, ⟨fun _ => ⟨?_, ?_⟩, ?_, ?_, ?_, ?_, ?_⟩, ?_, wp⟩ (by omega) (fun _ _ => rfl)
      · rw [dI_ne (by omega), dI_ne (by omega), dI_ne (by omega)]; exact b2
      · rw [dI_ne (by omega), dI_ne (by omega), dI_ne (by omega)]; exact b4.1 o j z1 z2
      · rw [dI_ne (by omega), dI_ne (by omega), dI_ne (by omega)]; exact b6.1
      · rw [dI_ne (by omega), dI_ne (by omega), dI_ne (by omega)]; exact b6.2
      · rw [dI_ne (by omega), dI_ne (by omega), dI_at, e0]
      · rw [dI_ne (by omega), dI_at, e1]
      · rw [f _ _ (by omega) (by omega) (by omega), ag _ (by omega)]; exact b9.2.1
      · exact XTr_c b9.2.2.1 (ag _ (by omega)) (fun j _ _ => ag j (by omega)) a1 (fun o j _ _ => f _ _ (by omega) (by omega) (by omega))
      · exact XPl_c b9.2.2.2.1 (ag _ (by omega)) (fun j _ _ => ag j (by omega)) a3 (fun o j _ _ => f _ _ (by omega) (by omega) (by omega))
      · exact XNe_c b9.2.2.2.2.1 w11 (ag _ (by omega)) (fun j _ _ => ag j (by omega)) (fun j _ => ag _ (by omega)) (fun o j _ _ => f _ _ (by omega) (by omega) (by omega))
      · exact XBu_c b9.2.2.2.2.2 (ag _ (by omega)) (fun j _ _ => ag j (by omega)) a5 (fun o j _ _ => f _ _ (by omega) (by omega) (by omega))
      · obtain ⟨k, y1, y2, y3, y4⟩ := b10
        refine ⟨k, by omega, by rw [f _ _ (by omega) (by omega) (by omega)]; exact y2, by rw [g _ _ (by omega)]; exact y3, fun j hj => ?_⟩
        obtain ⟨z1, u, z2, z3, z4⟩ := y4 j hj
        refine ⟨z1, u, by rw [f _ _ (by omega) (by omega) (by omega)]; exact z2, by rw [g _ _ (by omega)]; exact z3, ?_⟩
        unfold MOk at z4 ⊢
        omega
    obtain ⟨b, x1, m, x2, y1, y2, y3⟩ := main
    exact ⟨b, x1, m, x2, (by rw [y1]; rfl), (by rw [y2]; rfl), y3⟩
