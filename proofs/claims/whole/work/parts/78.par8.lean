/-! lines: builds -/
def pc4 (V : Nat) : Nat := V % 2 + V / 2 % 2 + V / 4 % 2 + V / 8 % 2
theorem pc4_all : ∀ V, V < 16 → ∀ j, j < 4 → (mX10_has (nI V) (nI j) = decide (V / 2 ^ j % 2 = 1)) ∧ (((nI V >>> (nI j &&& 31)) &&& (1 : Int32) = 1) ↔ V / 2 ^ j % 2 = 1) ∧ (V / 2 ^ j % 2 ≠ 1 → (nI V ||| ((1 : Int32) <<< (nI j &&& 31))) = nI (V + 2 ^ j) ∧ pc4 (V + 2 ^ j) = pc4 V + 1) := by decide +kernel
theorem pc4_lt0 : ∀ o, o < 5 → ∀ V, V < 16 → ∀ j, j < 4 → (decide (V < 2 ^ o) && decide (j < o) && !decide (V / 2 ^ j % 2 = 1)) = true → V + 2 ^ j < 2 ^ o := by decide +kernel
theorem pc4_lt {o : Nat} (ho : o ≤ 4) {V : Nat} (hV : V < 16) (h1 : V < 2 ^ o) {j : Nat} (hj : j < 4) (h2 : j < o) (h3 : V / 2 ^ j % 2 ≠ 1) : V + 2 ^ j < 2 ^ o :=
  pc4_lt0 o (by omega) V hV j hj (by rw [decide_eq_true h1, decide_eq_true h2, decide_eq_false h3]; rfl)
theorem pc4_le (V : Nat) : pc4 V ≤ 4 := by unfold pc4; omega
theorem fin_build {rd p n c1 : Nat} {B : Nat → Nat} {X0 M0 : Dt} {i i0 c V hn : Nat} {w : Int32 × Int32} {q0 q : Nat → Int32} {dX dM : Dt} (hb : Base rd p n c1 B X0 M0) (h : PSt rd p n c1 B X0 M0 i true w q0 q dX dM) (hi : i0 < i) (hc : c = nB q0) (hc5 : c < 5) (hV : V < 2 ^ nO q0) (h1 : 1 ≤ hn) (h99 : hn ≤ 99)
    (ag : ∀ j, ¬ (257 + 2 * c ≤ j ∧ j < 257 + 2 * c + 2) → q j = q0 j) (e1 : q (257 + 2 * c + 1) = nI hn) (hk : (T B n i).2.1 = 5 ∨ (T B n i).2.1 = 6) :
    PTwo rd p n c1 B X0 M0 (mX7_readBuild_84 rd 152 p (nI hn) (nI V) dX) (mX12_readBuild_114 167 (nI c) (nI V) FUEL 0 dM) (PLn rd p n c1 B X0 M0 i0) := by
  have w11 := h.wp
  obtain ⟨⟨c1', b1⟩, ⟨c2', b2⟩, ⟨c3', b3⟩, ⟨c4', b4⟩, ⟨c5', b5⟩⟩ := w11.cs
  have hp := hb.1
  have xt0 : dX.1 (p + 72) 0 = nI c := by rw [h.xp.2.2.2.2.2.1, c5', hc]
  have s0 : ∀ j, (257 : Int32) + (2 : Int32) * nI j = nI (257 + 2 * j) := fun j => by
    rw [show (257 : Int32) = nI 257 from rfl, show (2 : Int32) = nI 2 from rfl, pk_mul, nI_add]
  have lX : mX1_hasVariant (p + 72) (nI V) dX = if anyB (fun j => decide (q0 (257 + 2 * j) = nI V)) 0 c = true then some true else some false :=
    loop_any (fun f i => mX1_hasVariant_2 dX (p + 72) (nI V) f i) (fun j => decide (q0 (257 + 2 * j) = nI V)) (some true) (some false) c
      (fun fuel j hj => by
        show mX1_hasVariant_2 dX (p + 72) (nI V) (fuel + 1) (nI j) = _
        rw [mX1_hasVariant_2, xt0, if_neg (nI_ge hj (by omega)), if_pos (inB_nI (by omega) (by decide)), cl_nI (by omega), (h.xp.2.2.2.2.2.2 j (by omega)).1, nI_1]
        by_cases e : q0 (257 + 2 * j) = nI V
        · rw [if_pos e, decide_eq_true e, if_pos rfl]
        · rw [if_neg e, decide_eq_false e, if_neg Bool.false_ne_true])
      (fun fuel => by
        show mX1_hasVariant_2 dX (p + 72) (nI V) (fuel + 1) (nI c) = _
        rw [mX1_hasVariant_2, xt0, if_pos (Int32.le_refl _)]) c 0 FUEL (Nat.zero_add _) (fuel_big (by omega))
  have lM : mX12_readBuild_114 167 (nI c) (nI V) FUEL 0 dM = if anyB (fun j => decide (q0 (257 + 2 * j) = nI V)) 0 c = true then some (false, (mX12_errs 167 7 dM).2) else some (true, uI (uI dM (167 + 3) (257 + 2 * c) (nI V)) (167 + 3) 6 (nI (c + 1))) :=
    loop_any (fun f i => mX12_readBuild_114 167 (nI c) (nI V) f i dM) (fun j => decide (q0 (257 + 2 * j) = nI V)) (some (false, (mX12_errs 167 7 dM).2)) (some (true, uI (uI dM (167 + 3) (257 + 2 * c) (nI V)) (167 + 3) 6 (nI (c + 1)))) c
      (fun fuel j hj => by
        show mX12_readBuild_114 167 (nI c) (nI V) (fuel + 1) (nI j) dM = _
        rw [mX12_readBuild_114, if_neg (nI_ge hj (by omega)), s0, if_pos (ib267 (by omega)), cl_nI (by omega), h.row _ (by omega), ag _ (by omega), nI_1]
        by_cases e : q0 (257 + 2 * j) = nI V
        · rw [if_pos e, decide_eq_true e, if_pos rfl]
        · rw [if_neg e, decide_eq_false e, if_neg Bool.false_ne_true])
      (fun fuel => by
        show mX12_readBuild_114 167 (nI c) (nI V) (fuel + 1) (nI c) dM = _
        rw [mX12_readBuild_114, if_pos (Int32.le_refl _), s0, if_pos (ib267 (by omega)), if_pos (show inB (6 : Int32) 267 = true from ib267 (a := 6) (by omega)), if_pos (show inB (6 : Int32) 267 = true from ib267 (a := 6) (by omega)), cl_nI (by omega), show (6 : Int32).toNatClampNeg = 6 from rfl,
          show (uI dM (167 + 3) (257 + 2 * c) (nI V)).1 (167 + 3) 6 = nI c from (dI_ne (by omega)).trans ((h.row 6 (by omega)).trans ((ag _ (by omega)).trans (c5'.trans (by rw [hc])))), nI_1]) c 0 FUEL (Nat.zero_add _) (fuel_big (by omega))
  unfold mX7_readBuild_84
  rw [x_ends hb h, if_pos hk, Option.bind_some, if_pos rfl, lX, lM]
  cases ha : anyB (fun j => decide (q0 (257 + 2 * j) = nI V)) 0 c with
  | true =>
    rw [if_pos rfl, if_pos rfl, Option.bind_some, if_pos rfl]
    exact two_err h 7 rfl rfl
  | false =>
    rw [if_neg Bool.false_ne_true, if_neg Bool.false_ne_true, Option.bind_some, if_neg Bool.false_ne_true, ad1 (t := p + 72) (c := c) xt0 hc5, Option.bind_some]
    have ag : ∀ j, j ≠ 6 → ¬ (257 + 2 * c ≤ j ∧ j < 257 + 2 * c + 2) → upq (upq q (257 + 2 * c) (nI V)) 6 (nI (c + 1)) j = q0 j := fun j h1 h2 => (up_ne h1).trans ((up_ne (by omega)).trans (ag j h2))
    have e0 : upq (upq q (257 + 2 * c) (nI V)) 6 (nI (c + 1)) (257 + 2 * c) = nI V := (up_ne (by omega)).trans (up_at _ _ _)
    have e1 : upq (upq q (257 + 2 * c) (nI V)) 6 (nI (c + 1)) (257 + 2 * c + 1) = nI hn := (up_ne (by omega)).trans ((up_ne (by omega)).trans e1)
    have eq2 : upq (upq q (257 + 2 * c) (nI V)) 6 (nI (c + 1)) 6 = nI (c + 1) := up_at _ _ _
    have row := (PSt_row (A := 6) (v := nI (c + 1)) (PSt_row (A := 257 + 2 * c) (v := nI V) h)).row
    have sj := w11.2.2.2.2.2.2.2.2.2.2.1 rfl
    generalize upq (upq q (257 + 2 * c) (nI V)) 6 (nI (c + 1)) = q1 at *
    have eB : nB q1 = c + 1 := by unfold nB; rw [eq2, cl_nI (by omega)]
    have eO : nO q1 = nO q0 := by unfold nO; rw [ag _ (by omega) (by omega)]
    have eN : nN q1 = nN q0 := by unfold nN; rw [ag _ (by omega) (by omega)]
    have eT : nT q1 = nT q0 := by unfold nT; rw [ag _ (by omega) (by omega)]
    have eP : nP q1 = nP q0 := by unfold nP; rw [ag _ (by omega) (by omega)]
    have f : ∀ o j, ¬ (p + 72 ≤ o ∧ o < p + 75) → (uI (uI (uI dX (p + 72 + 1) c (nI V)) (p + 72 + 2) c (nI hn)) (p + 72) 0 (nI (c + 1))).1 o j = dX.1 o j := fun o j z1 => by
      rw [dI_ne (by omega), dI_ne (by omega), dI_ne (by omega)]
    refine ⟨true, _, true, _, rfl, rfl, Or.inl ⟨rfl, rfl, i, w, q1, hi, PSt_new hb h (fun o j z => f _ _ (by omega)) (fun o j z => rfl) (fun o j z1 z2 z3 => by rw [dI_ne (by omega), dI_ne (by omega)]) (fun o j z => rfl) row ⟨fun _ => ⟨?_, ?_⟩, ?_, ?_, ?_, ?_, ?_, fun j hj => ?_⟩ ?_ ?_, hk⟩⟩
    · rw [f _ _ (by omega), ag _ (by omega) (by omega)]; exact (h.xp.1 rfl).1
    · rw [f _ _ (by omega), ag _ (by omega) (by omega)]; exact (h.xp.1 rfl).2
    · rw [f _ _ (by omega), ag _ (by omega) (by omega)]; exact h.xp.2.1
    · exact XTr_c h.xp.2.2.1 (ag _ (by omega) (by omega)) (fun j _ _ => ag j (by omega) (by omega)) b1 (fun o j _ _ => f _ _ (by omega))
    · exact XPl_c h.xp.2.2.2.1 (ag _ (by omega) (by omega)) (fun j _ _ => ag j (by omega) (by omega)) b3 (fun o j _ _ => f _ _ (by omega))
    · exact XNe_c h.xp.2.2.2.2.1 w11 (ag _ (by omega) (by omega)) (fun j _ _ => ag j (by omega) (by omega)) (fun j _ => ag _ (by omega) (by omega)) (fun o j _ _ => f _ _ (by omega))
    · rw [dI_at, eq2]
    · by_cases e : j = c
      · subst e
        refine ⟨?_, ?_⟩
        · rw [dI_ne (by omega), dI_ne (by omega), dI_at]; exact e0.symm
        · rw [dI_ne (by omega), dI_at]; exact e1.symm
      · have y := h.xp.2.2.2.2.2.2 j (by omega)
        refine ⟨?_, ?_⟩
        · rw [dI_ne (by omega), dI_ne (by omega), dI_ne (by omega), ag _ (by omega) (by omega)]; exact y.1
        · rw [dI_ne (by omega), dI_ne (by omega), dI_ne (by omega), ag _ (by omega) (by omega)]; exact y.2
    · obtain ⟨k, y1, y2, y3, y4⟩ := h.nm
      refine ⟨k, by omega, by rw [f _ _ (by omega)]; exact y2, by rw [dI_ne (by omega), dI_ne (by omega)]; exact y3, fun j hj => ?_⟩
      obtain ⟨z1, u, z2, z3, z4⟩ := y4 j hj
      refine ⟨z1, u, by rw [f _ _ (by omega)]; exact z2, by rw [dI_ne (by omega), dI_ne (by omega)]; exact z3, ?_⟩
      unfold MOk at z4 ⊢
      omega
    · refine WP_ext w11 ⟨⟨?_, ?_⟩, ⟨?_, ?_⟩, ⟨?_, ?_⟩, ⟨?_, ?_⟩, ⟨?_, ?_⟩⟩ (by omega) (by omega) (by omega) (fun j _ => ⟨ag _ (by omega) (by omega), ag _ (by omega) (by omega), ag _ (by omega) (by omega)⟩) (fun j _ k _ => ag _ (by omega) (by omega)) (fun j _ k _ => ag _ (by omega) (by omega)) (fun j _ => ⟨ag _ (by omega) (by omega), ag _ (by omega) (by omega)⟩) (fun j _ _ => by omega) (fun j _ _ => by omega) (fun j _ _ => by omega) (fun j z1 z2 => ?_) (by rw [ag _ (by omega) (by omega), ag _ (by omega) (by omega)]; exact sj)
      · rw [eN, ag _ (by omega) (by omega)]; exact c1'
      · omega
      · rw [eO, ag _ (by omega) (by omega)]; exact c2'
      · omega
      · rw [eP, ag _ (by omega) (by omega)]; exact c3'
      · omega
      · rw [eT, ag _ (by omega) (by omega)]; exact c4'
      · omega
      · rw [eB, eq2]
      · omega
      · obtain rfl : j = c := by omega
        rw [e0, e1, eO]
        exact ⟨⟨V, hV, rfl⟩, hn, h1, h99, rfl⟩
theorem lp_build {rd p n c1 : Nat} {B : Nat → Nat} {X0 M0 : Dt} {i0 c hn : Nat} {w : Int32 × Int32} {q0 q : Nat → Int32} (hb : Base rd p n c1 B X0 M0) (hc : c = nB q0) (hc5 : c < 5) (h1 : 1 ≤ hn) (h99 : hn ≤ 99)
    (ag : ∀ j, ¬ (257 + 2 * c ≤ j ∧ j < 257 + 2 * c + 2) → q j = q0 j) (e1 : q (257 + 2 * c + 1) = nI hn) :
    ∀ f V i fX fM dX dM, 4 - pc4 V = f → V < 2 ^ nO q0 → i0 < i → PSt rd p n c1 B X0 M0 i true w q0 q dX dM → f < fX → f < fM →
    PTwo rd p n c1 B X0 M0 (mX7_readBuild_18 rd 152 p (nI hn) fX (nI V) (nI (pc4 V)) dX) (mX12_readBuild_52 167 (nI c) fM (nI V) dM) (PLn rd p n c1 B X0 M0 i0) := by
  intro f
  induction f using Nat.strongRecOn with
  | ind f ih =>
    intro V i fX fM dX dM hf hV hi h hfX hfM
    obtain ⟨gX, rfl⟩ : ∃ e, fX = e + 1 := ⟨fX - 1, by omega⟩
    obtain ⟨gM, rfl⟩ : ∃ e, fM = e + 1 := ⟨fM - 1, by omega⟩
    have a2 := h.wp.cs.2.1.2
    have hle := pc4_le V
    have V16 : V < 16 := Nat.lt_of_lt_of_le hV (Nat.le_trans (Nat.pow_le_pow_right (by decide) a2) (by decide))
    obtain ⟨k1, k2, k3⟩ := mkd_all _ (kind6 hb h).1
    rw [mX7_readBuild_18, mX12_readBuild_52, m_18 h, if_neg (show ¬ (4 : Int32) < nI (pc4 V) from fun z => by have := (nI_ltI (a := 4) (by omega) (by omega)).mp z; omega), show mX7_sees rd 152 p 1 dX = _ from x_sees hb h (v := 1) (by omega), Option.bind_some]
    by_cases e5 : (T B n i).2.1 = 5
    · rw [decide_eq_false (by omega), if_neg Bool.false_ne_true, if_pos (k2.mpr e5)]
      exact fin_build hb h hi hc hc5 hV h1 h99 ag e1 (Or.inl e5)
    · rw [if_neg (fun z => e5 (k2.mp z))]
      by_cases e6 : (T B n i).2.1 = 6
      · rw [decide_eq_false (by omega), if_neg Bool.false_ne_true, if_pos (k1.mpr e6)]
        exact fin_build hb h hi hc hc5 hV h1 h99 ag e1 (Or.inr e6)
      · rw [if_neg (fun z => e6 (k1.mp z))]
        by_cases e7 : (T B n i).2.1 = 1
        · rw [decide_eq_true e7, if_pos rfl]
          rcases p_here hb h (z := 1) (v := 100) (by omega) rfl with ⟨a, y1, y2, y3, y4, y5⟩ | ⟨f', y1, y2⟩
          · have ha : a < nO q0 := y1
            obtain ⟨p1, p2, p3⟩ := pc4_all V V16 a (by omega)
            rw [y3, y4, Option.bind_some, Option.bind_some, if_pos (nI_pos' (by omega)), if_neg (nI_m1 (show a < 100 by omega)), p1]
            by_cases e8 : V / 2 ^ a % 2 = 1
            · rw [decide_eq_true e8, if_pos rfl, if_pos (p2.mpr e8)]
              have hx : (uI dX rd 2 (nI (i + 1))).1 rd 2 - 1 = nI i := by rw [dI_at, show (1 : Int32) = nI 1 from rfl, nI_sub (by omega)]; rfl
              dsimp only
              rw [hx]
              have h2 : PSt rd p n c1 B X0 M0 i true w q0 q (uI (uI dX rd 2 (nI (i + 1))) rd 2 (nI i)) dM := PSt_x (w2 := w) hb h h.1 (dI_at _ _ _ _) ⟨by rw [dI_ne (by omega), dI_ne (by omega)]; exact h.2.2.2.2.2.1.1, by rw [dI_ne (by omega), dI_ne (by omega)]; exact h.2.2.2.2.2.1.2⟩ (by rw [dI_ne (by omega), dI_ne (by omega)]) (fun o k z => by rw [dI_ne (by omega), dI_ne (by omega)]) rfl h.2.2.1
              exact two_err h2 3 rfl rfl
            · obtain ⟨p4, p5⟩ := p3 e8
              obtain ⟨d1, g1, g2, -⟩ := p_go hb h (by omega)
              rw [decide_eq_false e8, if_neg Bool.false_ne_true, if_neg (fun z => e8 (p2.mp z)), g1, Option.bind_some, p4, nI_1, ← p5]
              have h4 := pc4_le (V + 2 ^ a)
              exact ih (4 - pc4 (V + 2 ^ a)) (by omega) (V + 2 ^ a) (i + 1) gX gM _ _ rfl (pc4_lt a2 V16 hV (by omega) ha e8) (by omega) g2 (by omega) (by omega)
          · rw [y1, y2, Option.bind_some, Option.bind_some, if_neg m1n, if_pos rfl]
            exact two_err h f' rfl rfl
        · rw [decide_eq_false e7, if_neg Bool.false_ne_true]
          have hn : mX12_isName 167 dM = some (decide ((T B n i).2.1 = 1)) := by
            obtain ⟨s, s1, s2⟩ := T_tok B n i
            have ht := h.2.2.1
            rw [s2] at ht ⊢
            exact M_isName (PSt_mx hb h) s1 ht
          unfold mX7_readBuild_84 mX12_here
          rw [x_ends hb h, if_neg (fun z => z.elim e5 e6), Option.bind_some, if_neg Bool.false_ne_true, hn, decide_eq_false e7, Option.bind_some, if_neg Bool.false_ne_true, Option.bind_some, if_pos (show (mX12_errs 167 1 dM).1 = -1 from rfl)]
          exact two_err h 1 rfl rfl
theorem ln_build {rd p n c1 : Nat} {B : Nat → Nat} {X0 M0 : Dt} {i : Nat} {bt : Bool} {w : Int32 × Int32} {q : Nat → Int32} {dX dM : Dt} (hb : Base rd p n c1 B X0 M0) (h : PSt rd p n c1 B X0 M0 i bt w q q dX dM) (hk : (T B n i).2.1 ≠ 6) :
    PTwo rd p n c1 B X0 M0 (if (mX7_opens rd 152 p (dX.1 (p + 72) 0) 5 dX).1 = true then (mX7_readBuild rd 152 p (mX7_opens rd 152 p (dX.1 (p + 72) 0) 5 dX).2).bind (fun x => if x.1 = true then some (true, x.2) else some (false, x.2)) else some (false, (mX7_opens rd 152 p (dX.1 (p + 72) 0) 5 dX).2)) ((mX12_readBuild 167 dM).bind fun x => some (x.1, x.2)) (PLn rd p n c1 B X0 M0 i) := by
  have w11 := h.wp
  obtain ⟨-, -, -, -, ⟨c5', a5⟩⟩ := w11.cs
  unfold mX12_readBuild mX12_readBuild_19
  rw [if_pos (show inB (6 : Int32) 267 = true from ib267 (a := 6) (by omega)), show (6 : Int32).toNatClampNeg = 6 from rfl, h.row 6 (by omega), c5', h.xp.2.2.2.2.2.1, c5']
  refine ln_open (c := nB q) (mx := 5) (R := mX7_readBuild rd 152 p) hb h hk rfl rfl (by omega) (by omega) (fun z => by have := (w11.2.2.2.2.2.2.2.2.2.2.2 z).2.2.2.2; omega) (fun d => if_neg Bool.false_ne_true) (fun d => if_pos rfl) (fun hbt hc dX dM h => ?_)
  subst hbt
  unfold mX7_readBuild
  have s1 : ((257 : Int32) + (2 : Int32) * nI (nB q)) + 1 = nI (257 + 2 * nB q + 1) := by
    rw [show (257 : Int32) = nI 257 from rfl, show (2 : Int32) = nI 2 from rfl, pk_mul, nI_add, nI_1]
  rw [s1]
  refine two_val (val_whole (lo := 1) (hi := 99) hb h rfl rfl (by omega) (by omega)) (A := 257 + 2 * nB q + 1) (by omega) rfl (fun d => if_neg m1n) (fun a d ha => if_pos (nI_pos' (by omega))) (fun d => if_neg Bool.false_ne_true) (fun d => if_pos rfl) (fun hn dX dM ⟨h1, h99, h⟩ => ?_)
  have h := PSt_row (A := 257 + 2 * nB q + 1) (v := nI hn) h
  exact lp_build (c := nB q) (q0 := q) hb rfl hc h1 h99 (fun j hj => up_ne (by omega)) (up_at _ _ _) 4 0 _ FUEL FUEL _ _ rfl (Nat.pow_pos (by decide)) (by omega) h (by decide) (by decide)
