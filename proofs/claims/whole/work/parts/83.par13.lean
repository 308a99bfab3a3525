/-! a line; the whole text -/
theorem ln_line {rd p n c1 : Nat} {B : Nat → Nat} {X0 M0 : Dt} {i : Nat} {bt : Bool} {w : Int32 × Int32} {q : Nat → Int32} {dX dM : Dt} (hb : Base rd p n c1 B X0 M0) (h : PSt rd p n c1 B X0 M0 i bt w q q dX dM) :
    PTwo rd p n c1 B X0 M0 (mX7_readLine rd 152 p dX) (mX12_readLine 167 dM) (PLn rd p n c1 B X0 M0 i) := by
  unfold mX7_readLine mX12_readLine
  rw [x_reads hb h (show 0 < 24 by decide), m_word hb h (show 0 < 24 by decide), Option.bind_some, Option.bind_some]
  cases e0 : wd (T B n i) 0 with
  | true => rw [if_pos rfl, if_pos rfl]; exact ln_board hb h (wd_ne e0)
  | false =>
    rw [if_neg Bool.false_ne_true, if_neg Bool.false_ne_true, x_reads hb h (show 1 < 24 by decide), m_word hb h (show 1 < 24 by decide), Option.bind_some, Option.bind_some]
    cases e1 : wd (T B n i) 1 with
    | true => rw [if_pos rfl, if_pos rfl]; exact ln_node hb h (wd_ne e1)
    | false =>
      rw [if_neg Bool.false_ne_true, if_neg Bool.false_ne_true, x_reads hb h (show 2 < 24 by decide), m_word hb h (show 2 < 24 by decide), Option.bind_some, Option.bind_some]
      cases e2 : wd (T B n i) 2 with
      | true => rw [if_pos rfl, if_pos rfl]; exact ln_option hb h (wd_ne e2)
      | false =>
        rw [if_neg Bool.false_ne_true, if_neg Bool.false_ne_true, x_reads hb h (show 3 < 24 by decide), m_word hb h (show 3 < 24 by decide), Option.bind_some, Option.bind_some]
        cases e3 : wd (T B n i) 3 with
        | true => rw [if_pos rfl, if_pos rfl]; exact ln_plug hb h (wd_ne e3)
        | false =>
          rw [if_neg Bool.false_ne_true, if_neg Bool.false_ne_true, x_reads hb h (show 4 < 24 by decide), m_word hb h (show 4 < 24 by decide), Option.bind_some, Option.bind_some]
          cases e4 : wd (T B n i) 4 with
          | true => rw [if_pos rfl, if_pos rfl]; exact ln_net hb h (wd_ne e4)
          | false =>
            rw [if_neg Bool.false_ne_true, if_neg Bool.false_ne_true, x_reads hb h (show 5 < 24 by decide), m_word hb h (show 5 < 24 by decide), Option.bind_some, Option.bind_some]
            cases e5 : wd (T B n i) 5 with
            | true => rw [if_pos rfl, if_pos rfl]; exact ln_build hb h (wd_ne e5)
            | false =>
              rw [if_neg Bool.false_ne_true, if_neg Bool.false_ne_true]
              exact two_err h 1 rfl rfl
/-- both read all of it, or both fail alike -/
def PEnd (rd p n c1 : Nat) (B : Nat → Nat) (X0 M0 : Dt) (X M : Option (Bool × Dt)) : Prop := ∃ dX dM, (X = some (true, dX) ∧ M = some (true, dM) ∧ ∃ i w q, PSt rd p n c1 B X0 M0 i true w q q dX dM ∧ 1 ≤ nT q) ∨ (X = some (false, dX) ∧ M = some (false, dM) ∧ PFl rd p n c1 B X0 M0 dX dM)
theorem ln_all {rd p n c1 : Nat} {B : Nat → Nat} {X0 M0 : Dt} (hb : Base rd p n c1 B X0 M0) : ∀ f i v fX fM bt w q dX dM, n - i ≤ f → v ≤ i → PSt rd p n c1 B X0 M0 i bt w q q dX dM → f < fX → f < fM →
    PEnd rd p n c1 B X0 M0 (mX7_readAll_2 rd 152 p fX (nI v) dX) ((mX12_readLine 167 dM).bind fun x5 => if x5.1 = true then mX12_readAll_54 167 fM x5.2 else some (false, x5.2)) := by
  intro f
  induction f with
  | zero =>
    intro i v fX fM bt w q dX dM hf hv h hfX hfM
    obtain ⟨gX, rfl⟩ : ∃ e, fX = e + 1 := ⟨fX - 1, by omega⟩
    obtain ⟨gM, rfl⟩ : ∃ e, fM = e + 1 := ⟨fM - 1, by omega⟩
    have hn := hb.2.2.2.2.2.1
    have hcn := hb.2.2.2.1
    have hi := h.1
    rw [mX7_readAll_2, if_neg (show ¬ (1000 : Int32) < nI v from fun t => by have := (nI_ltI (a := 1000) (by omega) (by omega)).mp t; omega)]
    obtain ⟨b, x1, m, x2, y1, y2, y3⟩ := ln_line hb h
    rw [y1, y2, Option.bind_some, Option.bind_some]
    rcases y3 with ⟨rfl, rfl, i', w', q', z1, z2, z3⟩ | ⟨rfl, rfl, z1⟩ | ⟨rfl, rfl, z1, z2, z3⟩
    · have := z2.1; omega
    · exact ⟨_, _, Or.inr ⟨rfl, rfl, z1⟩⟩
    · rw [if_neg Bool.false_ne_true, if_pos rfl, mX12_readAll_54, if_neg z1, if_neg z2]
      unfold mX12_readAll_92
      rw [if_neg z2]
      exact ⟨_, _, Or.inr ⟨rfl, rfl, z3⟩⟩
  | succ f ih =>
    intro i v fX fM bt w q dX dM hf hv h hfX hfM
    obtain ⟨gX, rfl⟩ : ∃ e, fX = e + 1 := ⟨fX - 1, by omega⟩
    obtain ⟨gM, rfl⟩ : ∃ e, fM = e + 1 := ⟨fM - 1, by omega⟩
    have hn := hb.2.2.2.2.2.1
    have hcn := hb.2.2.2.1
    have hi := h.1
    rw [mX7_readAll_2, if_neg (show ¬ (1000 : Int32) < nI v from fun t => by have := (nI_ltI (a := 1000) (by omega) (by omega)).mp t; omega)]
    obtain ⟨b, x1, m, x2, y1, y2, y3⟩ := ln_line hb h
    rw [y1, y2, Option.bind_some, Option.bind_some]
    rcases y3 with ⟨rfl, rfl, i', w', q', z1, z2, z3⟩ | ⟨rfl, rfl, z1⟩ | ⟨rfl, rfl, z1, z2, z3⟩
    · obtain ⟨k1, k2, k3⟩ := mkd_all _ (kind6 hb z2).1
      rw [if_pos rfl, if_pos rfl, show mX7_sees rd 152 p 6 x1 = _ from x_sees hb z2 (v := 6) (by omega), Option.bind_some, mX12_readAll_54, m_18 z2]
      have c4 := z2.wp.cs.2.2.2.1
      rcases z3 with z3 | z3
      · obtain ⟨d1, g1, g2, -⟩ := p_go hb z2 (by omega)
        have := g2.1
        rw [decide_eq_false (by omega), if_neg Bool.false_ne_true, if_pos (k2.mpr z3), g1, Option.bind_some]
        dsimp only
        rw [z2.2.1, nI_1, nI_1]
        exact ih (i' + 1) (v + 1) gX gM true w' q' _ d1 (by omega) (by omega) g2 (by omega) (by omega)
      · rw [decide_eq_true z3, if_pos rfl, if_neg (show ¬ mkd (T B n i').2.1 = 59 from fun t => by have := k2.mp t; omega), if_pos (k1.mpr z3), if_pos (show inB (5 : Int32) 267 = true from ib267 (a := 5) (by omega)), show (5 : Int32).toNatClampNeg = 5 from rfl, z2.row 5 (by omega)]
        dsimp only
        rw [z2.xp.2.2.2.2.1.1, c4.1]
        by_cases e : nT q' = 0
        · rw [if_neg (show ¬ 0 < nI (nT q') by rw [e]; decide), if_pos (show nI (nT q') = 0 by rw [e]; rfl), if_neg (show ¬ (mX7_fail rd 152 p 6 x1).1 = true from Bool.false_ne_true)]
          unfold mX12_readAll_92
          rw [m_18 z2, if_pos (k1.mpr z3)]
          exact ⟨_, _, Or.inr ⟨rfl, rfl, p_err z2 6⟩⟩
        · rw [if_pos (show 0 < nI (nT q') from nI_lt (a := 0) (by omega) (by omega)), if_neg (show ¬ nI (nT q') = 0 from fun t => e (nI_inj (b := 0) (by omega) (by omega) t))]
          exact ⟨_, _, Or.inl ⟨rfl, rfl, i', w', q', z2, by omega⟩⟩
    · exact ⟨_, _, Or.inr ⟨rfl, rfl, z1⟩⟩
    · rw [if_neg Bool.false_ne_true, if_pos rfl, mX12_readAll_54, if_neg z1, if_neg z2]
      unfold mX12_readAll_92
      rw [if_neg z2]
      exact ⟨_, _, Or.inr ⟨rfl, rfl, z3⟩⟩
theorem rd_step {a f : Nat} {d : Dt} (ha : a ≤ 6) : mX12_readAll_22 167 (f + 1) (nI a) d = mX12_readAll_22 167 f (nI (a + 1)) (uI d (167 + 3) a 0) := by
  rw [mX12_readAll_22, if_neg (show ¬ (6 : Int32) < nI a from fun t => by have := (nI_ltI (a := 6) (by omega) (by omega)).mp t; omega), if_pos (ib267 (by omega)), cl_nI (by omega), nI_1]
def rd0 (n : Nat) (d : Dt) : Dt := uI (uI (uI (uI (uI (uI (uI (uI (uI d 167 15 (nI n)) 167 17 0) 167 22 0) 167 13 0) (167 + 3) 2 0) (167 + 3) 3 0) (167 + 3) 4 0) (167 + 3) 5 0) (167 + 3) 6 0
theorem M_readAll (n : Nat) (d : Dt) : mX12_readAll 167 (nI n) d = (mX12_goesOn 167 (rd0 n d)).bind fun x3 => (mX12_readLine 167 x3).bind fun x5 => if x5.1 = true then mX12_readAll_54 167 FUEL x5.2 else some (false, x5.2) := by
  unfold mX12_readAll
  show mX12_readAll_22 167 (999994 + 1 + 1 + 1 + 1 + 1 + 1) (nI 2) _ = _
  rw [rd_step (by omega), rd_step (by omega), rd_step (by omega), rd_step (by omega), rd_step (by omega), mX12_readAll_22, if_pos (show (6 : Int32) < nI (2 + 1 + 1 + 1 + 1 + 1) by decide)]
  rfl
/-- the texts of both, where both begin -/
theorem p_all {rd p n c1 : Nat} {B : Nat → Nat} {X0 M0 : Dt} (hb : Base rd p n c1 B X0 M0) (i0 : Tks 152 B n c1 X0) (h2 : X0.1 rd 2 = 0) (h5 : X0.1 rd 5 = 0) (hz : X0.1 p 2 = 0 ∧ X0.1 p 3 = 0 ∧ X0.1 (p + 3) 0 = 0 ∧ X0.1 (p + 25) 0 = 0 ∧ X0.1 (p + 32) 0 = 0 ∧ X0.1 (p + 72) 0 = 0) :
    PEnd rd p n c1 B X0 M0 (mX7_readAll rd 152 p X0) (mX12_readAll 167 (nI n) M0) := by
  have hx := hb.2.2.2.2
  have hx0 : MTx 167 n B (rd0 n M0) := by
    refine ⟨hx.1, hx.2.1, ?_, fun j hj => ?_⟩
    · unfold rd0
      rw [dI_ne (by omega), dI_ne (by omega), dI_ne (by omega), dI_ne (by omega), dI_ne (by omega), dI_ne (by omega), dI_ne (by omega), dI_ne (by omega), dI_at]
    · unfold rd0
      rw [dI_ne (by omega), dI_ne (by omega), dI_ne (by omega), dI_ne (by omega), dI_ne (by omega), dI_ne (by omega), dI_ne (by omega), dI_ne (by omega), dI_ne (by omega)]; exact hx.2.2.2 j hj
  have e17 : (rd0 n M0).1 167 17 = nI 0 := by
    unfold rd0
    rw [dI_ne (by omega), dI_ne (by omega), dI_ne (by omega), dI_ne (by omega), dI_ne (by omega), dI_ne (by omega), dI_ne (by omega), dI_at]; rfl
  obtain ⟨d1, g1, g2, g3⟩ := M_goesOn (s := 0) (Nat.zero_le _) hx0 e17
  rw [M_readAll, g1, Option.bind_some]
  have r : ∀ k, d1.1 (167 + 3) k = (rd0 n M0).1 (167 + 3) k := fun k => g3.1 _ _ (by omega)
  have q2 : d1.1 (167 + 3) 2 = 0 := by rw [r]; unfold rd0; rw [dI_ne (by omega), dI_ne (by omega), dI_ne (by omega), dI_ne (by omega), dI_at]
  have q3 : d1.1 (167 + 3) 3 = 0 := by rw [r]; unfold rd0; rw [dI_ne (by omega), dI_ne (by omega), dI_ne (by omega), dI_at]
  have q4 : d1.1 (167 + 3) 4 = 0 := by rw [r]; unfold rd0; rw [dI_ne (by omega), dI_ne (by omega), dI_at]
  have q5 : d1.1 (167 + 3) 5 = 0 := by rw [r]; unfold rd0; rw [dI_ne (by omega), dI_at]
  have q6 : d1.1 (167 + 3) 6 = 0 := by rw [r]; unfold rd0; rw [dI_at]
  have w22 : d1.1 167 22 = 0 := by
    rw [g3.1 _ _ (by omega)]; unfold rd0
    rw [dI_ne (by omega), dI_ne (by omega), dI_ne (by omega), dI_ne (by omega), dI_ne (by omega), dI_ne (by omega), dI_at]
  have w13 : d1.1 167 13 = 0 := by
    rw [g3.1 _ _ (by omega)]; unfold rd0
    rw [dI_ne (by omega), dI_ne (by omega), dI_ne (by omega), dI_ne (by omega), dI_ne (by omega), dI_at]
  have nN0 : nN (fun k => d1.1 (167 + 3) k) = 0 := by show (d1.1 (167 + 3) 2).toNatClampNeg = 0; rw [q2]; rfl
  have nO0 : nO (fun k => d1.1 (167 + 3) k) = 0 := by show (d1.1 (167 + 3) 3).toNatClampNeg = 0; rw [q3]; rfl
  have nP0 : nP (fun k => d1.1 (167 + 3) k) = 0 := by show (d1.1 (167 + 3) 4).toNatClampNeg = 0; rw [q4]; rfl
  have nT0 : nT (fun k => d1.1 (167 + 3) k) = 0 := by show (d1.1 (167 + 3) 5).toNatClampNeg = 0; rw [q5]; rfl
  have nB0 : nB (fun k => d1.1 (167 + 3) k) = 0 := by show (d1.1 (167 + 3) 6).toNatClampNeg = 0; rw [q6]; rfl
  have h : PSt rd p n c1 B X0 M0 0 false (X0.1 rd 3, X0.1 rd 4) (fun k => d1.1 (167 + 3) k) (fun k => d1.1 (167 + 3) k) X0 d1 := by
    refine ⟨Nat.zero_le _, h2, g2, ⟨fun _ _ _ _ => rfl, fun _ _ _ => rfl⟩, ⟨fun o k z1 z2 z3 => ?_, fun o k z1 z2 => ?_⟩, ⟨rfl, rfl⟩, ⟨h5, w22⟩, fun _ _ => rfl, ⟨fun z => absurd z (by decide), hz.1.trans q3.symm, ⟨hz.2.2.1.trans q2.symm, fun i hi => by rw [nN0] at hi; omega⟩, ⟨hz.2.2.2.1.trans q4.symm, fun i hi => by rw [nP0] at hi; omega⟩, ⟨hz.2.2.2.2.1.trans q5.symm, fun i hi => by rw [nT0] at hi; omega⟩, hz.2.2.2.2.2.trans q6.symm, fun i hi => by rw [nB0] at hi; omega⟩, ⟨0, by rw [nN0, nO0, nP0, nT0], hz.2.1, w13, fun j hj => absurd hj (Nat.not_lt_zero _)⟩, ?_⟩
    · by_cases e : o = 167 ∧ k = 15
      · obtain ⟨rfl, rfl⟩ := e
        rw [g3.1 _ _ (by omega), hx0.2.2.1, hx.2.2.1]
      · rw [g3.1 _ _ (by omega)]; unfold rd0
        rw [dI_ne (by omega), dI_ne (by omega), dI_ne (by omega), dI_ne (by omega), dI_ne (by omega), dI_ne (by omega), dI_ne (by omega), dI_ne (by omega), dI_ne (by omega)]
    · rw [g3.2]; rfl
    · unfold WP
      rw [nN0, nO0, nP0, nT0, nB0]
      exact ⟨⟨q2, by omega⟩, ⟨q3, by omega⟩, ⟨q4, by omega⟩, ⟨q5, by omega⟩, ⟨q6, by omega⟩, fun z => by omega, fun i h1 h2 => by omega, fun i hi => by omega, fun i hi => by omega, fun i hi => by omega, fun z => absurd z (by decide), fun _ => ⟨rfl, rfl, rfl, rfl, rfl⟩⟩
  exact ln_all hb n 0 0 FUEL FUEL false _ _ X0 d1 (Nat.sub_le _ _) (Nat.le_refl _) h (Nat.lt_of_le_of_lt hx.2.1 (by decide)) (Nat.lt_of_le_of_lt hx.2.1 (by decide))
