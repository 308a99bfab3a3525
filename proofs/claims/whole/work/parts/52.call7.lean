/-! the calls, 7: flawed, common, commonPins, given, families, groups, group -/
def fld (q : Nat → Int32) (n : Nat) : Int32 := fo (fun b t => t + nI (flQ q (vr q b)).length) 0 n 0
theorem X_flawed {x h p m : Nat} {d : Dt} {q : Nat → Int32} (id : Ids x h p m) (hX : XR h d q) (w : WF q) : ∃ d1, mX11_flawed_17 x h p FUEL 0 0 d = some (fld q (nB q), uI d1 x 9 0) ∧ Ch x m d d1 := by
  have hb := w.b
  have i2 := id
  obtain ⟨j1, j2, j3⟩ := id
  obtain ⟨a, g, hR, eq⟩ := loop_rel (fun n i (a : Int32 × Dt) => mX11_flawed_17 x h p n a.1 i a.2) (fun i a => a.1 = fld q i ∧ Ch x m d a.2) (nB q)
    (fun fuel i a hi hR => by
      obtain ⟨a1, a2⟩ := a
      obtain ⟨r1, r2⟩ := hR
      have r1 : a1 = fld q i := r1
      have r2 : Ch x m d a2 := r2
      have xd := Ch_XR i2 r2 hX w
      show ∃ b, _ ∧ mX11_flawed_17 x h p (fuel + 1) a1 (nI i) a2 = _
      obtain ⟨d1, b1, b2, b3⟩ := X_list xd w (fl := x + 160) (by omega) (vr q i)
      rw [mX11_flawed_17, show a2.1 (h + 72) 0 = nI (nB q) from xd.bu.1.trans hb.1, if_neg (nI_ge hi (by omega)), if_pos (inB_nI (by omega) (by decide)), cl_nI (by omega), show a2.1 (h + 73) i = vr q i from (xd.bu.2 i hi).1, b1, Option.bind_some, nI_1]
      refine ⟨(a1 + nI (flQ q (vr q i)).length, d1), ⟨?_, Ch_tr r2 (FlX_Ch i2 b2)⟩, rfl⟩
      show a1 + nI (flQ q (vr q i)).length = fld q (i + 1)
      unfold fld
      rw [fo_last, Nat.zero_add, r1]; rfl)
    (nB q) 0 (0, d) FUEL (Nat.zero_add _) ⟨rfl, Ch_rf x m d⟩ (fuel_big (by omega))
  obtain ⟨a1, a2⟩ := a
  obtain ⟨r1, r2⟩ := hR
  have r1 : a1 = fld q (nB q) := r1
  have r2 : Ch x m d a2 := r2
  refine ⟨a2, ?_, r2⟩
  refine Eq.trans eq ?_
  show mX11_flawed_17 x h p (g + 1) a1 (nI (nB q)) a2 = _
  rw [mX11_flawed_17, show a2.1 (h + 72) 0 = nI (nB q) from (Ch_XR i2 r2 hX w).bu.1.trans hb.1, if_pos (Int32.le_refl _), r1]; rfl
theorem M_flawed {x h p m : Nat} {d : Dt} {q : Nat → Int32} (id : Ids x h p m) (hM : MR m d q) (w : WF q) : ∃ d1, mX12_flawed_20 m FUEL 0 0 d = some (fld q (nB q), d1) ∧ Ch x m d d1 ∧ d1.1 x 9 = d.1 x 9 ∧ d1.1 m 1 = d.1 m 1 := by
  have hb := w.b
  have i2 := id
  obtain ⟨j1, j2, j3⟩ := id
  obtain ⟨a, g, hR, eq⟩ := loop_rel (fun n i (a : Int32 × Dt) => mX12_flawed_20 m n a.1 i a.2) (fun i a => a.1 = fld q i ∧ Ch x m d a.2 ∧ a.2.1 x 9 = d.1 x 9 ∧ a.2.1 m 1 = d.1 m 1) (nB q)
    (fun fuel i a hi hR => by
      obtain ⟨a1, a2⟩ := a
      obtain ⟨r1, r2, r3, r4⟩ := hR
      have r1 : a1 = fld q i := r1
      have r2 : Ch x m d a2 := r2
      have md := Ch_MR i2 r2 hM
      show ∃ b, _ ∧ mX12_flawed_20 m (fuel + 1) a1 (nI i) a2 = _
      obtain ⟨d1, b1, b2, b3⟩ := M_laysFlaws md w (vr q i)
      have f9 : d1.1 x 9 = d.1 x 9 ∧ d1.1 m 1 = d.1 m 1 := ⟨(b2.2.1 _ _ (by omega) (by omega) (by omega)).trans r3, (b2.2.1 _ _ (by omega) (by omega) (by omega)).trans r4⟩
      rw [mX12_flawed_20, if_pos ib6, row6 md, hb.1, if_neg (nI_ge hi (by omega)), M_variantOf md (by omega), Option.bind_some, b1, Option.bind_some, nI_1]
      refine ⟨(a1 + nI (flQ q (vr q i)).length, d1), ⟨?_, Ch_tr r2 (FlM_Ch i2 b2), f9⟩, rfl⟩
      show a1 + nI (flQ q (vr q i)).length = fld q (i + 1)
      unfold fld
      rw [fo_last, Nat.zero_add, r1]; rfl)
    (nB q) 0 (0, d) FUEL (Nat.zero_add _) ⟨rfl, Ch_rf x m d, rfl, rfl⟩ (fuel_big (by omega))
  obtain ⟨a1, a2⟩ := a
  obtain ⟨r1, r2, r3⟩ := hR
  have r1 : a1 = fld q (nB q) := r1
  have r2 : Ch x m d a2 := r2
  refine ⟨a2, ?_, r2, r3⟩
  refine Eq.trans eq ?_
  show mX12_flawed_20 m (g + 1) a1 (nI (nB q)) a2 = _
  rw [mX12_flawed_20, if_pos ib6, row6 (Ch_MR i2 r2 hM), hb.1, if_pos (Int32.le_refl _), r1]
theorem q_flawed {x h p m : Nat} {d : Dt} {q : Nat → Int32} {b : Bool} (id : Ids x h p m) (s : St x h m d q b) : Ans x m d (fun d => mX11_flawed x h p d) (fun d => mX12_flawed m d) := by
  have i2 := id
  obtain ⟨j1, j2, j3⟩ := id
  have sr : ∀ t, St x h m (uI d x 9 t) q b := fun t => Ch_St i2 (Ch_x9 x m d t) s
  cases b
  · refine Ans_ref i2 (-1) 1 (by decide) ?_ ?_
    · show mX11_flawed x h p d = _
      unfold mX11_flawed
      rw [s.1, if_pos b2i_0]; rfl
    · show mX12_flawed m (uI d x 9 1) = _
      unfold mX12_flawed
      rw [(sr 1).2.1, b2i_0, un0, iR1, if_pos rfl]
  · obtain ⟨w, hX, hM⟩ := s.2.2.2 rfl
    obtain ⟨d1, a1, a2⟩ := X_flawed i2 hX w
    obtain ⟨d2, e1, e2, e3, e4⟩ := M_flawed i2 (MRr i2 (Ch_tr a2 (Ch_x9 x m d1 0)) hM) w
    refine Ans_ok i2 (fld q (nB q)) a2 ?_ (d2 := d2) ?_ e2 (by rw [e3, rf_o (by omega), dI_at]) (by rw [e4, rf_m1])
    · show mX11_flawed x h p d = _
      unfold mX11_flawed
      rw [s.1, b2i_1, if_neg (show ¬ (1 : Int32) = 0 by decide), a1]
    · show mX12_flawed m (uI d1 x 9 0) = _
      unfold mX12_flawed
      rw [(Ch_St i2 (Ch_tr a2 (Ch_x9 x m d1 0)) s).2.1, b2i_1, un1, iR0, if_neg (show ¬ false = true by decide), e1]
-- builds
def inS (v : Int32) (B : Nat) : Bool := inB v (2 ^ B) && decide (¬ v < 1)
def whyB (q : Nat → Int32) (c : Bool) (v : Int32) : Int32 := if c = true then (if inS v (nB q) = true then 0 else 2) else 1
theorem lt1_le0 {v : Int32} : v < 1 ↔ v ≤ 0 := by
  rw [Int32.lt_iff_toInt_lt, Int32.le_iff_toInt_le]
  have e0 : (0 : Int32).toInt = 0 := rfl
  have e1 : (1 : Int32).toInt = 1 := rfl
  rw [e0, e1]; omega
theorem inS_X {v : Int32} {B : Nat} (hB : B ≤ 5) : (if v < 1 then (2 : Int32) else if v < nI (2 ^ B) then 0 else 2) = if inS v B = true then 0 else 2 := by
  obtain ⟨-, p2⟩ := pow_B B hB
  unfold inS
  rw [← in_X (v := v) (n := 2 ^ B) (by omega)]
  by_cases e : v < 1
  · rw [if_pos e, if_neg (by simp [e])]
  · have e0 : ¬ v < 0 := fun z => e (lt1_le0.mpr (Int32.le_of_lt z))
    rw [if_neg e, if_neg e0]
    by_cases e2 : nI (2 ^ B) ≤ v
    · rw [if_neg (Int32.not_lt.mpr e2), if_pos e2, if_neg (by simp)]
    · rw [if_pos (Int32.not_le.mp e2), if_neg e2, if_pos (by simp [e])]
theorem inS_M {v : Int32} {B : Nat} (hB : B ≤ 5) : mX12_in v 1 (nI (2 ^ B) - 1) = inS v B := by
  obtain ⟨-, p2⟩ := pow_B B hB
  have h := in_M (v := v) (n := 2 ^ B) (by omega)
  unfold inS
  rw [← h]
  unfold mX12_in
  by_cases e : v < 1
  · rw [if_pos e]; simp [e]
  · have e0 : ¬ v < 0 := fun z => e (lt1_le0.mpr (Int32.le_of_lt z))
    rw [if_neg e, if_neg e0]; simp [e]
theorem X_troubleOfBuilds {x h p m : Nat} {d : Dt} {q : Nat → Int32} {b : Bool} (s : St x h m d q b) (c : Bool) (v : Int32) : mX11_troubleOfBuilds x h p (b2i (b && c)) v d = whyB q (b && c) v := by
  unfold mX11_troubleOfBuilds whyB
  cases b
  · rfl
  · cases c
    · rfl
    · obtain ⟨w, hX, -⟩ := s.2.2.2 rfl
      have hb := w.b
      obtain ⟨p1, p2⟩ := pow_B (nB q) hb.2
      rw [if_neg (show ¬ b2i (true && true) = 0 by decide), show d.1 (h + 72) 0 = nI (nB q) from hX.bu.1.trans hb.1, p1, if_pos (show (true && true) = true from rfl), inS_X hb.2]
theorem M_buildsWhy {x h m : Nat} {d : Dt} {q : Nat → Int32} {b : Bool} (s : St x h m d q b) (c : Bool) (v : Int32) : mX12_buildsWhy m (b2i c) v d = some (whyB q (b && c) v) := by
  unfold mX12_buildsWhy whyB
  rw [s.2.1]
  cases b
  · rfl
  · cases c
    · rfl
    · obtain ⟨w, -, hM⟩ := s.2.2.2 rfl
      have hb := w.b
      obtain ⟨p1, p2⟩ := pow_B (nB q) hb.2
      rw [if_neg (show ¬ b2i true = 0 by decide), if_neg (show ¬ b2i true = 0 by decide), if_pos ib6, row6 hM, hb.1, p1, inS_M hb.2, if_pos (show (true && true) = true from rfl)]
      by_cases e : inS v (nB q) = true
      · rw [if_pos e, if_pos e]
      · rw [if_neg e, if_neg e]
theorem whyB_ne {q : Nat → Int32} {c : Bool} {v : Int32} : whyB q c v = 0 ∨ whyB q c v = 1 ∨ whyB q c v = 2 := by
  unfold whyB
  split
  · split
    · exact Or.inl rfl
    · exact Or.inr (Or.inr rfl)
  · exact Or.inr (Or.inl rfl)
theorem Ans_bld {x h p m : Nat} {d : Dt} {q : Nat → Int32} {b : Bool} {fx fm K' : Dt → Option (Int32 × Dt)} {K : Option (Int32 × Dt)} (id : Ids x h p m) (s : St x h m d q b) (c : Bool) (v z : Int32)
    (h1 : fx d = if mX11_troubleOfBuilds x h p (b2i (b && c)) v d = 0 then K else some (z, uI d x 9 (mX11_troubleOfBuilds x h p (b2i (b && c)) v d)))
    (h2 : ∀ d1, St x h m d1 q b → fm d1 = ((mX12_buildsWhy m (b2i c) v d1).bind fun t => if (mX12_isRefused m t d1).1 = true then some (z, (mX12_isRefused m t d1).2) else K' (mX12_isRefused m t d1).2))
    (h3 : b = true → c = true → Ans x m d (fun _ => K) (fun d1 => K' (rf m 0 d1))) : Ans x m d fx fm := by
  rw [X_troubleOfBuilds s] at h1
  have h2' : ∀ d1, St x h m d1 q b → fm d1 = if (mX12_isRefused m (whyB q (b && c) v) d1).1 = true then some (z, (mX12_isRefused m (whyB q (b && c) v) d1).2) else K' (mX12_isRefused m (whyB q (b && c) v) d1).2 := fun d1 s1 => by rw [h2 d1 s1, M_buildsWhy s1, Option.bind_some]
  by_cases e0 : whyB q (b && c) v = 0
  · have hbc : (b && c) = true := by
      unfold whyB at e0
      by_cases e : (b && c) = true
      · exact e
      · rw [if_neg e] at e0; exact absurd e0 (by decide)
    obtain ⟨hb, hc⟩ := Bool.and_eq_true_iff.mp hbc
    obtain ⟨r, d1, d2, a1, a2, a3, a4⟩ := h3 hb hc
    rw [e0, if_pos rfl] at h1
    refine ⟨r, d1, d2, h1.trans a1, a2, ?_, a4⟩
    rw [h2' d1 (Ch_St id a2 s), e0, iR0, if_neg (show ¬ false = true by decide)]
    exact a3
  · rw [if_neg e0] at h1
    refine Ans_ref id z (whyB q (b && c) v) (fun z4 => ?_) h1 ?_
    · rcases whyB_ne (q := q) (c := b && c) (v := v) with z | z | z <;> rw [z] at z4 <;> exact absurd z4 (by decide)
    · rw [h2' _ (Ch_St id (Ch_x9 x m d _) s), iR _ e0, if_pos rfl]
theorem q_common {x h p m : Nat} {d : Dt} {q : Nat → Int32} {b : Bool} (id : Ids x h p m) (s : St x h m d q b) (v : Int32) : Ans x m d (fun d => mX11_common x h p v d) (fun d => mX12_common m v d) := by
  refine Ans_bld (K := (mX2_lengthFor h v d).bind fun r => some (r, uI d x 9 0)) (K' := fun d => (mX12_commonOf m v d).bind fun r => some (r, d)) id s true v (-1) ?_ (fun d1 s1 => rfl) (fun hb _ => ?_)
  · rw [← b2i_b, ← s.1]; rfl
  · subst hb
    obtain ⟨w, hX, hM⟩ := s.2.2.2 rfl
    refine Ans_val id (com q v) ?_ ?_
    · rw [X_lengthFor hX w, Option.bind_some]
    · rw [M_commonOf (MRr id (Ch_x9 x m d 0) hM) w, Option.bind_some]
theorem q_commonPins {x h p m : Nat} {d : Dt} {q : Nat → Int32} {b : Bool} (id : Ids x h p m) (s : St x h m d q b) (v n : Int32) : Ans x m d (fun d => mX11_commonPins x h p v n d) (fun d => mX12_commonPins m v n d) := by
  refine Ans_bld (K := (mX2_pinsFor h v n d).bind fun r => some (r, uI d x 9 0)) (K' := fun d => (mX12_commonPinsOf m v n d).bind fun r => some (r, d)) id s (inB n (kT q b)) v (-1) ?_ (fun d1 s1 => ?_) (fun hb hc => ?_)
  · rw [← and_kT, ← X_isNet (p := p) s]; rfl
  · show mX12_commonPins m v n d1 = _
    unfold mX12_commonPins
    rw [M_isNet s1, Option.bind_some]
  · subst hb
    obtain ⟨w, hX, hM⟩ := s.2.2.2 rfl
    obtain ⟨-, i, hi, rfl⟩ := told_of hc
    refine Ans_val id (cpn q v i) ?_ ?_
    · rw [X_pinsFor hX w v hi, Option.bind_some]
    · rw [M_commonPinsOf (MRr id (Ch_x9 x m d 0) hM) w v hi, Option.bind_some]
theorem q_given {x h p m : Nat} {d : Dt} {q : Nat → Int32} {b : Bool} (id : Ids x h p m) (s : St x h m d q b) (v : Int32) : Ans x m d (fun d => mX11_given x h p v d) (fun d => mX12_given m v d) := by
  refine Ans_bld (K := (mX2_givenBy h v d).bind fun r => some (r, uI d x 9 0)) (K' := fun d => (mX12_commonOf m v d).bind fun x7 => mX12_given_28 m v x7 FUEL 0 0 d) id s true v (-2147483648) ?_ (fun d1 s1 => rfl) (fun hb _ => ?_)
  · rw [← b2i_b, ← s.1]; rfl
  · subst hb
    obtain ⟨w, hX, hM⟩ := s.2.2.2 rfl
    have hM0 := MRr id (Ch_x9 x m d 0) hM
    refine Ans_val id (giv q v) ?_ ?_
    · rw [X_givenBy hX w, Option.bind_some]
    · rw [M_commonOf hM0 w, Option.bind_some, M_giv hM0 w]
