/-! harness: both -/
theorem x_place {rd p n c1 j : Nat} {B : Nat → Nat} {X0 M0 d : Dt} (hb : Base rd p n c1 B X0 M0) (hf : ∀ o k, 152 ≤ o → o ≤ 155 → d.1 o k = X0.1 o k) (hj : j ≤ c1) (h2 : d.1 rd 2 = nI j) : mX8_placeOf 152 (d.1 rd 2) d = some (nI (T B n j).1) := by
  obtain ⟨hp, ⟨b1, b2, b3⟩, h6, hc, hx⟩ := hb
  have hn := hx.2.1
  unfold mX8_placeOf
  rw [h2, if_neg (nI_pos (by omega)), hf _ _ (by omega) (by omega), b1]
  by_cases e : j < c1
  · rw [if_neg (nI_ge e (by omega)), if_pos (inB_nI (by omega) (by decide)), cl_nI (by omega), hf _ _ (by omega) (by omega), (b3 j e).2.1]
  · obtain rfl : j = c1 := by omega
    rw [if_pos (Int32.le_refl _), hf _ _ (by omega) (by omega), b2]
    obtain ⟨s, s1, s2⟩ := T_tok B n j
    rw [s2] at h6 ⊢
    rw [(tok_p s1).2.2.2.1 h6]
/-- the parts of CI that reading a text leaves alone -/
def KF (rd p : Nat) (d d2 : Dt) : Prop := (∀ o k, ¬ (p ≤ o ∧ o < p + 75) → ¬ (o = 0 ∧ (k = 1 ∨ k = 9 ∨ k = 10 ∨ k = 11)) → ¬ (152 ≤ o ∧ o ≤ 155) → o ≠ rd → o ≠ 170 → o ≠ 174 → ¬ (o = 167 ∧ (k ≤ 3 ∨ k = 5 ∨ k = 13 ∨ (15 ≤ k ∧ k ≤ 22))) → d2.1 o k = d.1 o k) ∧ ∀ o k, o ≠ p + 1 → o ≠ 155 → o ≠ 173 → ¬ (o = 167 ∧ k = 23) → d2.2 o k = d.2 o k
theorem CI_KF {rd h p : Nat} {d d2 : Dt} {q : Nat → Int32} {b : Bool} (c : CI 0 h p 167 d q b) (hr : 183 ≤ rd) (f : KF rd p d d2) (h1 : d2.1 0 9 = d2.1 167 1) (h2 : d2.1 0 10 = d2.1 167 2) (h3 : d2.1 0 11 = d2.1 167 3) (h4 : d2.1 0 1 = 0) (h5 : d2.1 167 5 = 0) : CI 0 h p 167 d2 q b := by
  obtain ⟨id, s, -, -, -, -, nm, ⟨k, a1, a2, a3, a4, a5⟩⟩ := c
  have i2 := id
  obtain ⟨-, -, hp⟩ := id
  obtain ⟨g, gl⟩ := f
  obtain ⟨s1, s2, s3, s4⟩ := s
  refine ⟨i2, ⟨?_, ?_, fun hb => ?_, fun hb => ?_⟩, h1, h2, fun _ => h3, ⟨0, by omega, h4, h5, fun j hj => absurd hj (Nat.not_lt_zero _)⟩, fun hb => ?_, ⟨k, a1, ?_, ?_, a4, fun j hj => ?_⟩⟩
  · rw [g _ _ (by omega) (by omega) (by omega) (by omega) (by omega) (by omega) (by omega)]; exact s1
  · rw [g _ _ (by omega) (by omega) (by omega) (by omega) (by omega) (by omega) (by omega)]; exact s2
  · obtain ⟨c1, c2, c3, c4, c5, c6⟩ := s3 hb
    refine ⟨?_, ?_, ?_, ?_, ?_, ?_⟩
    · rw [g _ _ (by omega) (by omega) (by omega) (by omega) (by omega) (by omega) (by omega)]; exact c1
    · rw [g _ _ (by omega) (by omega) (by omega) (by omega) (by omega) (by omega) (by omega)]; exact c2
    · rw [g _ _ (by omega) (by omega) (by omega) (by omega) (by omega) (by omega) (by omega)]; exact c3
    · rw [g _ _ (by omega) (by omega) (by omega) (by omega) (by omega) (by omega) (by omega)]; exact c4
    · rw [g _ _ (by omega) (by omega) (by omega) (by omega) (by omega) (by omega) (by omega)]; exact c5
    · rw [g _ _ (by omega) (by omega) (by omega) (by omega) (by omega) (by omega) (by omega)]; exact c6
  · obtain ⟨w, x, m⟩ := s4 hb
    exact ⟨w, XR_congr x (fun o k z1 z2 => g _ _ (by omega) (by omega) (by omega) (by omega) (by omega) (by omega) (by omega)) w, fun j hj => by rw [g _ _ (by omega) (by omega) (by omega) (by omega) (by omega) (by omega) (by omega)]; exact m j hj⟩
  · obtain ⟨k, k1, k2, k3, k4⟩ := nm hb
    refine ⟨k, k1, by rw [g _ _ (by omega) (by omega) (by omega) (by omega) (by omega) (by omega) (by omega)]; exact k2, by rw [g _ _ (by omega) (by omega) (by omega) (by omega) (by omega) (by omega) (by omega)]; exact k3, fun j hj => ⟨?_, ?_⟩⟩
    · rw [gl _ _ (by omega) (by omega) (by omega) (by omega), gl _ _ (by omega) (by omega) (by omega) (by omega)]; exact (k4 j hj).1
    · obtain ⟨v, v1, v2, v3⟩ := (k4 j hj).2
      exact ⟨v, v1, by rw [g _ _ (by omega) (by omega) (by omega) (by omega) (by omega) (by omega) (by omega)]; exact v2, by rw [g _ _ (by omega) (by omega) (by omega) (by omega) (by omega) (by omega) (by omega)]; exact v3⟩
  · rw [g _ _ (by omega) (by omega) (by omega) (by omega) (by omega) (by omega) (by omega)]; exact a2
  · rw [g _ _ (by omega) (by omega) (by omega) (by omega) (by omega) (by omega) (by omega)]; exact a3
  · have := a5 j hj
    unfold Act at this ⊢
    rw [g (167 + 14) j (by omega) (by omega) (by omega) (by omega) (by omega) (by omega) (by omega), g (0 + 159) j (by omega) (by omega) (by omega) (by omega) (by omega) (by omega) (by omega), g (0 + 157) j (by omega) (by omega) (by omega) (by omega) (by omega) (by omega) (by omega), g (0 + 158) j (by omega) (by omega) (by omega) (by omega) (by omega) (by omega) (by omega), g (167 + 13) j (by omega) (by omega) (by omega) (by omega) (by omega) (by omega) (by omega)]
    exact this
theorem s_harness {rd h p : Nat} {d : Dt} {q : Nat → Int32} {b : Bool} (c : CI 0 h p 167 d q b) (v : Int32) (hr : 183 ≤ rd) : ∃ sw r d1 d2 q', hX rd p v d = some (sw, r, d1) ∧ mX12_harness 167 v d1 = some (r, d2) ∧ (sw = true → CI 0 p h 167 d2 q' true) ∧ (sw = false → CI 0 h p 167 d2 q' b) := by
  have c2 := c
  obtain ⟨id, s, -, -, -, ⟨nt, t1, t2, t3, t4⟩, -, -⟩ := c
  obtain ⟨-, -, hph⟩ := id
  have hp : (p = 2 ∨ p = 77) ∧ 183 ≤ rd := by omega
  have bad : v < 0 ∨ nI nt < v → ∃ sw r d1 d2 q', hX rd p v d = some (sw, r, d1) ∧ mX12_harness 167 v d1 = some (r, d2) ∧ (sw = true → CI 0 p h 167 d2 q' true) ∧ (sw = false → CI 0 h p 167 d2 q' b) := fun hbad => by
    refine ⟨false, -1, uI d 0 9 2, rf 167 2 (uI d 0 9 2), q, ?_, ?_, fun z => absurd z Bool.false_ne_true, fun _ => CI_Ch c2 (Ch_tr (Ch_x9 0 167 d 2) (Ch_rf2 0 167 _ 2)) ?_ (fun z => ?_)⟩
    · unfold hX
      by_cases e : v < 0
      · rw [if_pos e]
      · rw [if_neg e, if_pos (show d.1 0 1 < v by rw [t2]; exact hbad.resolve_left e)]
    · unfold mX12_harness mX12_harness_18 mX12_in
      rw [show (uI d 0 9 2).1 167 5 = nI nt from (dI_ne (by omega)).trans t3, iR (m := 167) (t := 2) _ (by decide)]
      by_cases e : v < 0
      · rw [if_pos e, if_neg Bool.false_ne_true, if_pos rfl]
      · rw [if_neg e, if_pos (hbad.resolve_left e), if_neg Bool.false_ne_true, if_pos rfl]
    · rw [rf_m1, rf_o (by omega), dI_at]
    · rw [rf_o (by omega), dI_at] at z; exact absurd z (by decide)
  rcases pk_ix v (n := nt + 1) (by omega) with e | e | ⟨n, e1, rfl⟩
  · exact bad (Or.inl e)
  · exact bad (Or.inr (Int32.lt_of_lt_of_le (nI_lt (by omega) (by omega)) e))
  · clear bad
    have hB : ∀ j, (fun j => if j < n then (d.1 (167 + 1) j).toNatClampNeg else 0) j < 256 := fun j => by
      dsimp only
      by_cases e : j < n
      · obtain ⟨v, v1, v2, -⟩ := t4 j (by omega)
        rw [if_pos e, v2, cl_nI (by omega)]; exact v1
      · rw [if_neg e]; omega
    have h1 : ∀ j, j < n → d.1 1 j = sx8 ((fun j => if j < n then (d.1 (167 + 1) j).toNatClampNeg else 0) j) := fun j hj => by
      obtain ⟨v, v1, v2, v3⟩ := t4 j (by omega)
      dsimp only
      rw [if_pos hj, v2, cl_nI (by omega)]; exact v3
    have h2 : ∀ j, j < n → d.1 (167 + 1) j = nI ((fun j => if j < n then (d.1 (167 + 1) j).toNatClampNeg else 0) j) := fun j hj => by
      obtain ⟨v, v1, v2, v3⟩ := t4 j (by omega)
      dsimp only
      rw [if_pos hj, v2, cl_nI (by omega)]
    generalize (fun j => if j < n then (d.1 (167 + 1) j).toNatClampNeg else 0) = B at hB h1 h2
    obtain ⟨d1, c1, e1, f1, f2, f3, f4, f5⟩ := x_read (rd := rd) (p := p) hp hB (by omega) h1 h2
    have tp : ∀ M : Dt, M.1 167 15 = nI n → (∀ j, M.1 (167 + 1) j = d.1 (167 + 1) j) → MTx 167 n B M := fun M m1 m2 => ⟨hB, by omega, m1, fun j hj => by rw [m2]; exact h2 j hj⟩
    have eX : ∀ (b : Bool) (dX : Dt), mX7_readAll rd 152 p (rdN rd d1) = some (b, dX) → hX rd p (nI n) d = if b = true then (mX9_measure (p + 3) (uI (uI dX 0 10 0) 0 11 (-1))).bind fun d2 => some (true, (uI (uI d2 0 4 1) 156 0 0).1 (p + 32) 0, uI (uI (uI d2 0 4 1) 156 0 0) 0 9 0)
      else (mX7_placeOfFault rd 152 p (uI dX 0 10 (dX.1 rd 6))).bind fun pl => some (false, -1, uI (uI (uI dX 0 10 (dX.1 rd 6)) 0 11 pl) 0 9 4) := fun b dX he => by
      unfold hX
      rw [if_neg (nI_pos (by omega)), t2, if_neg (show ¬ nI nt < nI n from fun t => by have := (nI_ltI (by omega) (by omega)).mp t; omega), e1, Option.bind_some, he, Option.bind_some]
    have eM : ∀ d', d'.1 167 5 = nI nt → mX12_harness 167 (nI n) d' = (mX12_readAll 167 (nI n) (uI (uI (uI (rf 167 0 d') 167 5 0) 167 2 0) 167 15 (nI n))).bind fun x8 => if x8.1 = true then mX12_harness_68 167 FUEL 0 x8.2 else some ((mX12_no 167 4 (uI (uI x8.2 167 2 (x8.2.1 167 20)) 167 3 ((uI x8.2 167 2 (x8.2.1 167 20)).1 167 21))).1, (mX12_no 167 4 (uI (uI x8.2 167 2 (x8.2.1 167 20)) 167 3 ((uI x8.2 167 2 (x8.2.1 167 20)).1 167 21))).2) := fun d' h5 => by
      unfold mX12_harness mX12_harness_18 mX12_in
      rw [h5, if_neg (nI_pos (by omega)), if_neg (show ¬ nI nt < nI n from fun t => by have := (nI_ltI (by omega) (by omega)).mp t; omega), if_pos rfl, iR0, if_neg Bool.false_ne_true, readAll_15]
    obtain ⟨hb0, dX, dM0, hE⟩ := f5 (uI d 167 15 (nI n)) (tp _ (dI_at _ _ _ _) (fun j => dI_ne (by omega)))
    rcases hE with ⟨y1, -, i, w, q1, y2, y3⟩ | ⟨y1, -, j, fn, y2, y3, y4, -, -, y5, -⟩
    · -- read
      have fX := y2.2.2.2.1
      have xt : XTr (p + 3) (uI (uI dX 0 10 0) 0 11 (-1)) q1 := XTr_c y2.xp.2.2.1 rfl (fun _ _ _ => rfl) y2.wp.cs.1.2 (fun o k _ _ => by rw [dI_ne (by omega), dI_ne (by omega)])
      obtain ⟨dm, m1, ⟨m2, m3⟩, -, -⟩ := X_measure xt (WF_of y2.wp y3)
      have eX := eX true dX y1
      rw [if_pos rfl, m1, Option.bind_some] at eX
      have g0 : ∀ o k, ¬ (p ≤ o ∧ o < p + 75) → ¬ (o = 0 ∧ (k = 1 ∨ k = 4 ∨ k = 9 ∨ k = 10 ∨ k = 11)) → ¬ (152 ≤ o ∧ o ≤ 156) → o ≠ rd → (uI (uI (uI dm 0 4 1) 156 0 0) 0 9 0).1 o k = d.1 o k := fun o k z1 z2 z3 z4 => by
        rw [dI_ne (by omega), dI_ne (by omega), dI_ne (by omega), m3 _ _ (by omega), dI_ne (by omega), dI_ne (by omega), fX.1 _ _ z4 z1, f3 _ _ z1 (by omega) (by omega) z4]
      have g1 : ∀ o k, o ≠ p + 1 → o ≠ 155 → (uI (uI (uI dm 0 4 1) 156 0 0) 0 9 0).2 o k = d.2 o k := fun o k z1 z2 => by
        show dm.2 o k = _
        rw [m2]
        show dX.2 o k = _
        rw [fX.2 _ _ z1, f2 _ _ z2]
      have eM := eM (uI (uI (uI dm 0 4 1) 156 0 0) 0 9 0) ((g0 _ _ (by omega) (by omega) (by omega) (by omega)).trans t3)
      obtain ⟨hb1, dX', dM, hE⟩ := f5 (uI (uI (uI (rf 167 0 (uI (uI (uI dm 0 4 1) 156 0 0) 0 9 0)) 167 5 0) 167 2 0) 167 15 (nI n)) (tp _ (dI_at _ _ _ _) (fun j => by rw [dI_ne (by omega), dI_ne (by omega), dI_ne (by omega), rf_o (by omega), g0 _ _ (by omega) (by omega) (by omega) (by omega)]))
      rcases hE with ⟨z1, z2, i', w', q', z3, z4⟩ | ⟨z1, -⟩
      · have ee : (true, dX) = (true, dX') := Option.some.inj (y1.symm.trans z1)
        obtain rfl : dX = dX' := congrArg Prod.snd ee
        rw [z2, Option.bind_some, if_pos rfl] at eM
        obtain ⟨d2, u1, u2, u3, u4, u5, u6, u7, u8⟩ := cp_all dM
        rw [u1] at eM
        have fM := z3.2.2.2.2.1
        have wf := WF_of z3.wp z4
        have xt' : XTr (p + 3) (uI (uI dX 0 10 0) 0 11 (-1)) q' := XTr_c z3.xp.2.2.1 rfl (fun _ _ _ => rfl) z3.wp.cs.1.2 (fun o k _ _ => by rw [dI_ne (by omega), dI_ne (by omega)])
        obtain ⟨dm', m1', -, m4, m5⟩ := X_measure xt' wf
        obtain rfl : dm = dm' := Option.some.inj (m1.symm.trans m1')
        have cs := z3.wp.cs
        have gx : ∀ o k, p ≤ o → o < p + 75 → (o < p + 3 + 4 ∨ o = p + 3 + 7 ∨ p + 3 + 22 ≤ o) → dm.1 o k = dX.1 o k := fun o k x1 x2 x3 => by
          rw [m3 _ _ x3, dI_ne (by omega), dI_ne (by omega)]
        have xr : XR p dm q' := ⟨⟨by rw [gx _ _ (by omega) (by omega) (by omega)]; exact (z3.xp.1 rfl).1, by rw [gx _ _ (by omega) (by omega) (by omega)]; exact (z3.xp.1 rfl).2, by rw [gx _ _ (by omega) (by omega) (by omega)]; exact z3.xp.2.1⟩, m4,
          XPl_c z3.xp.2.2.2.1 rfl (fun _ _ _ => rfl) cs.2.2.1.2 (fun o k _ _ => gx _ _ (by omega) (by omega) (by omega)), XNe_c z3.xp.2.2.2.2.1 z3.wp rfl (fun _ _ _ => rfl) (fun _ _ => rfl) (fun o k _ _ => gx _ _ (by omega) (by omega) (by omega)), XBu_c z3.xp.2.2.2.2.2 rfl (fun _ _ _ => rfl) cs.2.2.2.2.2 (fun o k _ _ => gx _ _ (by omega) (by omega) (by omega)), m5⟩
        have g2 : ∀ o k, o < 167 → d2.1 o k = (uI (uI (uI dm 0 4 1) 156 0 0) 0 9 0).1 o k := fun o k x1 => by
          rw [u7 _ _ (by omega) (by omega) (by omega), fM.1 _ _ (by omega) (by omega) (by omega), dI_ne (by omega), dI_ne (by omega), dI_ne (by omega), rf_o (by omega)]
        have g3 : ∀ o k, o < 167 → d2.2 o k = dX.2 o k := fun o k x1 => by
          rw [u8 _ _ (by omega), fM.2 _ _ (by omega) (by omega)]
          show dm.2 o k = _
          rw [m2]; rfl
        have g4 : ∀ o k, p ≤ o → o < p + 75 → d2.1 o k = dm.1 o k := fun o k x1 x2 => by
          rw [g2 _ _ (by omega), dI_ne (by omega), dI_ne (by omega), dI_ne (by omega)]
        have m167 : ∀ k, (k = 1 ∨ k = 2 ∨ k = 5) → d2.1 167 k = 0 := fun k hk => by
          rw [u7 _ _ (by omega) (by omega) (by omega), fM.1 _ _ (by omega) (by omega) (by omega)]
          rcases hk with rfl | rfl | rfl
          · rw [dI_ne (by omega), dI_ne (by omega), dI_ne (by omega), rf_m1]
          · rw [dI_ne (by omega), dI_at]
          · rw [dI_ne (by omega), dI_ne (by omega), dI_at]
        refine ⟨true, _, _, d2, q', eX, ?_, fun _ => ⟨⟨rfl, rfl, by omega⟩, ⟨?_, u5, fun z => absurd z (by decide), fun _ => ⟨wf, XR_congr xr g4 wf, fun k hk => by rw [u2 k hk]; exact z3.row k hk⟩⟩, ?_, ?_, fun z => ?_, ⟨0, by omega, ?_, m167 5 (by omega), fun j hj => absurd hj (Nat.not_lt_zero _)⟩, fun _ => ?_, ⟨0, by omega, ?_, u6, fun _ => rfl, fun j hj => absurd hj (Nat.not_lt_zero _)⟩⟩, fun z => by cases z⟩
        · rw [eM, u2 5 (by omega), z3.row 5 (by omega), dI_ne (by omega), dI_ne (by omega), gx _ _ (by omega) (by omega) (by omega), z3.xp.2.2.2.2.1.1]
        · rw [g2 _ _ (by omega), dI_ne (by omega), dI_ne (by omega), dI_at]; rfl
        · rw [g2 _ _ (by omega), dI_at, m167 1 (by omega)]
        · rw [g2 _ _ (by omega), dI_ne (by omega), dI_ne (by omega), dI_ne (by omega), m3 _ _ (by omega), dI_ne (by omega), dI_at, m167 2 (by omega)]
        · rw [g2 _ _ (by omega), dI_at] at z; exact absurd z (by decide)
        · rw [g2 _ _ (by omega), dI_ne (by omega), dI_ne (by omega), dI_ne (by omega), m3 _ _ (by omega), dI_ne (by omega), dI_ne (by omega), fX.1 _ _ (by omega) (by omega)]; exact f4
        · obtain ⟨k, k1, k2, k3, k4⟩ := z3.nm
          refine ⟨k, by omega, by rw [g4 _ _ (by omega) (by omega), gx _ _ (by omega) (by omega) (by omega)]; exact k2, u4.trans k3, fun j hj => ?_⟩
          obtain ⟨x1, vv, x2, x3, x4⟩ := k4 j hj
          refine ⟨by rw [g3 _ _ (by omega), (u3 j (by omega)).1]; exact x1, vv, ?_, by rw [g4 _ _ (by omega) (by omega), gx _ _ (by omega) (by omega) (by omega)]; exact x2, (u3 j (by omega)).2.trans x3⟩
          unfold MOk at x4; omega
        · rw [g2 _ _ (by omega), dI_ne (by omega), dI_at]; rfl
      · have ee : (true, dX) = (false, dX') := Option.some.inj (y1.symm.trans z1)
        exact absurd (show true = false from congrArg Prod.fst ee) (by decide)
    · -- a fault
      have eX := eX false dX y1
      have epl : mX7_placeOfFault rd 152 p (uI dX 0 10 (dX.1 rd 6)) = some (nI (T B n j).1) := by
        unfold mX7_placeOfFault
        rw [x_place (j := j) hb0 (fun o k x1 x2 => by rw [dI_ne (by omega)]; exact y5.1 _ _ (by omega) (by omega)) y2 ((dI_ne (by omega)).trans y3)]; rfl
      rw [if_neg Bool.false_ne_true, epl, Option.bind_some] at eX
      have g0 : ∀ o k, ¬ (p ≤ o ∧ o < p + 75) → ¬ (o = 0 ∧ (k = 1 ∨ k = 9 ∨ k = 10 ∨ k = 11)) → ¬ (152 ≤ o ∧ o ≤ 155) → o ≠ rd → (uI (uI (uI dX 0 10 (dX.1 rd 6)) 0 11 (nI (T B n j).1)) 0 9 4).1 o k = d.1 o k := fun o k z1 z2 z3 z4 => by
        rw [dI_ne (by omega), dI_ne (by omega), dI_ne (by omega), y5.1 _ _ z4 z1, f3 _ _ z1 (by omega) (by omega) z4]
      have g1 : ∀ o k, o ≠ p + 1 → o ≠ 155 → (uI (uI (uI dX 0 10 (dX.1 rd 6)) 0 11 (nI (T B n j).1)) 0 9 4).2 o k = d.2 o k := fun o k z1 z2 => by
        show dX.2 o k = _
        rw [y5.2 _ _ z1, f2 _ _ z2]
      have eM := eM (uI (uI (uI dX 0 10 (dX.1 rd 6)) 0 11 (nI (T B n j).1)) 0 9 4) ((g0 _ _ (by omega) (by omega) (by omega) (by omega)).trans t3)
      obtain ⟨hb1, dX', dM, hE⟩ := f5 (uI (uI (uI (rf 167 0 (uI (uI (uI dX 0 10 (dX.1 rd 6)) 0 11 (nI (T B n j).1)) 0 9 4)) 167 5 0) 167 2 0) 167 15 (nI n)) (tp _ (dI_at _ _ _ _) (fun j => by rw [dI_ne (by omega), dI_ne (by omega), dI_ne (by omega), rf_o (by omega), g0 _ _ (by omega) (by omega) (by omega) (by omega)]))
      rcases hE with ⟨z1, -⟩ | ⟨z1, z2, j', fn', z3, z4, z5, z6, z7, z8, z9⟩
      · have ee : (false, dX) = (true, dX') := Option.some.inj (y1.symm.trans z1)
        exact absurd (show false = true from congrArg Prod.fst ee) (by decide)
      · have ee : (false, dX) = (false, dX') := Option.some.inj (y1.symm.trans z1)
        obtain rfl : dX = dX' := congrArg Prod.snd ee
        have hn := hb0.2.2.2.1
        obtain rfl : j = j' := nI_inj (by omega) (by omega) (y3.symm.trans z4)
        rw [z2, Option.bind_some, if_neg Bool.false_ne_true] at eM
        have M : ∀ o k, o ≠ 167 + 3 → o ≠ 167 + 7 → ¬ (o = 167 ∧ (k ≤ 3 ∨ k = 5 ∨ k = 13 ∨ (15 ≤ k ∧ k ≤ 22))) → (uI (uI (uI dM 167 2 (dM.1 167 20)) 167 3 ((uI dM 167 2 (dM.1 167 20)).1 167 21)) 167 1 4).1 o k = (uI (uI (uI dX 0 10 (dX.1 rd 6)) 0 11 (nI (T B n j).1)) 0 9 4).1 o k := fun o k x1 x2 x3 => by
          rw [dI_ne (by omega), dI_ne (by omega), dI_ne (by omega), z9.1 _ _ x1 x2 (by omega), dI_ne (by omega), dI_ne (by omega), dI_ne (by omega)]
          by_cases x4 : o = 167
          · subst x4; rw [rf_k (by omega)]
          · rw [rf_o x4]
        have ML : ∀ o k, o ≠ 167 + 6 → ¬ (o = 167 ∧ k = 23) → (uI (uI (uI dM 167 2 (dM.1 167 20)) 167 3 ((uI dM 167 2 (dM.1 167 20)).1 167 21)) 167 1 4).2 o k = (uI (uI (uI dX 0 10 (dX.1 rd 6)) 0 11 (nI (T B n j).1)) 0 9 4).2 o k := fun o k x1 x2 => by
          show dM.2 o k = _
          rw [z9.2 _ _ x1 x2]; rfl
        refine ⟨false, _, _, _, q, eX, eM, fun z => absurd z Bool.false_ne_true, fun _ => CI_KF c2 hr ⟨fun o k x1 x2 x3 x4 x5 x6 x7 => ?_, fun o k x1 x2 x3 x4 => ?_⟩ ?_ ?_ ?_ ?_ ?_⟩
        · exact (M o k (by omega) (by omega) x7).trans (g0 o k x1 x2 x3 x4)
        · exact (ML o k (by omega) x4).trans (g1 o k x1 x2)
        · refine (M 0 9 (by omega) (by omega) (by omega)).trans ((dI_at _ _ _ _).trans (dI_at _ _ _ _).symm)
        · refine (M 0 10 (by omega) (by omega) (by omega)).trans ?_
          rw [dI_ne (by omega), dI_ne (by omega), dI_at, z5]
          show _ = (uI (uI (uI dM 167 2 (dM.1 167 20)) 167 3 ((uI dM 167 2 (dM.1 167 20)).1 167 21)) 167 1 4).1 167 2
          rw [dI_ne (by omega), dI_ne (by omega), dI_at, z6]
        · refine (M 0 11 (by omega) (by omega) (by omega)).trans ?_
          rw [dI_ne (by omega), dI_at]
          show _ = (uI (uI (uI dM 167 2 (dM.1 167 20)) 167 3 ((uI dM 167 2 (dM.1 167 20)).1 167 21)) 167 1 4).1 167 3
          rw [dI_ne (by omega), dI_at, dI_ne (by omega), z7]
        · refine (M 0 1 (by omega) (by omega) (by omega)).trans ?_
          rw [dI_ne (by omega), dI_ne (by omega), dI_ne (by omega), y5.1 _ _ (by omega) (by omega)]; exact f4
        · show (uI (uI (uI dM 167 2 (dM.1 167 20)) 167 3 ((uI dM 167 2 (dM.1 167 20)).1 167 21)) 167 1 4).1 167 5 = 0
          rw [dI_ne (by omega), dI_ne (by omega), dI_ne (by omega), z9.1 _ _ (by omega) (by omega) (by omega), dI_ne (by omega), dI_ne (by omega), dI_at]
