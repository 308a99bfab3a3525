/-! the calls, 6: flaws, flaw, sound, flawed -/
theorem FlX_Ch {x h p m : Nat} {d d1 : Dt} {F : List Fl} (id : Ids x h p m) (f : FSt (x + 160) 0 (x + 160 + 1) (x + 160 + 2) d d1 F) : Ch x m d d1 := ⟨f.1, fun o k _ h2 _ _ => f.2.1 o k (by omega) (by omega) (by omega)⟩
theorem FlM_Ch {x h p m : Nat} {d d1 : Dt} {F : List Fl} (id : Ids x h p m) (f : FSt m 27 (m + 10) (m + 10) d d1 F) : Ch x m d d1 := ⟨f.1, fun o k _ _ h3 h4 => f.2.1 o k (by omega) (by omega) (by omega)⟩
theorem FlM_x9 {x h p m : Nat} {d d1 : Dt} {t : Int32} {F : List Fl} (id : Ids x h p m) (f : FSt m 27 (m + 10) (m + 10) (rf m 0 (uI d x 9 t)) d1 F) : d1.1 x 9 = t ∧ d1.1 m 1 = 0 := by
  obtain ⟨j1, j2, -⟩ := id
  exact ⟨by rw [f.2.1 _ _ (by omega) (by omega) (by omega), rf_o (by omega), dI_at], by rw [f.2.1 _ _ (by omega) (by omega) (by omega), rf_m1]⟩
theorem q_flaws {x h p m : Nat} {d : Dt} {q : Nat → Int32} {b : Bool} (id : Ids x h p m) (s : St x h m d q b) (v : Int32) : Ans x m d (fun d => mX11_flaws x h p v d) (fun d => mX12_flaws m v d) := by
  have i2 := id
  obtain ⟨j1, j2, j3⟩ := id
  refine Ans_var (K := (mX3_list (x + 160) h v d).bind fun r => some (r.1, uI r.2 x 9 0)) (K' := fun d => (mX12_laysFlaws m v d).bind fun r => some (r.1, r.2)) i2 s true v (-1) ?_ (fun d1 s1 => rfl) (fun hb _ _ => ?_)
  · rw [← b2i_b, ← s.1]; rfl
  · subst hb
    obtain ⟨w, hX, hM⟩ := s.2.2.2 rfl
    obtain ⟨d1, a1, a2, a3⟩ := X_list hX w (fl := x + 160) (by omega) v
    have c1 := FlX_Ch i2 a2
    obtain ⟨d2, e1, e2, e3⟩ := M_laysFlaws (MRr i2 (Ch_tr c1 (Ch_x9 x m d1 0)) hM) w v
    have h9 := FlM_x9 i2 e2
    refine Ans_ok i2 (nI (flQ q v).length) c1 ?_ (d2 := d2) ?_ (FlM_Ch i2 e2) h9.1 h9.2
    · show ((mX3_list (x + 160) h v d).bind _) = _
      rw [a1, Option.bind_some]
    · show ((mX12_laysFlaws m v (rf m 0 (uI d1 x 9 0))).bind _) = _
      rw [e1, Option.bind_some]
def fget (y : Fl) (k : Nat) : Int32 := if k = 0 then y.1 else if k = 1 then y.2.1 else if k = 2 then y.2.2.1 else if k = 3 then y.2.2.2.1 else y.2.2.2.2
theorem FSt_get {ci cs ri xi : Nat} {d0 d : Dt} {F : List Fl} (h : FSt ci cs ri xi d0 d F) {j k : Nat} (hj : j < F.length) (hk : k < 5) : d.1 ri (5 * j + k) = fget F[j] k := by
  obtain ⟨a1, a2, a3, a4, a5⟩ := h.2.2.2 j hj F[j] (List.getElem?_eq_getElem hj)
  have : k = 0 ∨ k = 1 ∨ k = 2 ∨ k = 3 ∨ k = 4 := by omega
  rcases this with rfl | rfl | rfl | rfl | rfl
  · exact a1
  · exact a2
  · exact a3
  · exact a4
  · exact a5
theorem q_flaw {x h p m : Nat} {d : Dt} {q : Nat → Int32} {b : Bool} (id : Ids x h p m) (s : St x h m d q b) (v i a : Int32) : Ans x m d (fun d => mX11_flaw x h p v i a d) (fun d => mX12_flaw m v i a d) := by
  have i2 := id
  obtain ⟨j1, j2, j3⟩ := id
  have hin : mX12_in a 0 4 = inB a 5 := in_M2 (n := 4) (by omega)
  refine Ans_var (K := (mX3_list (x + 160) h v d).bind fun x8 => (if i < 0 then some (-1, uI x8.2 x 9 1) else (if i < x8.1 then ((mX3_partOf (x + 160) i a x8.2).bind fun r => some (r, uI x8.2 x 9 0)) else some (-1, uI x8.2 x 9 1))))
    (K' := fun d => (mX12_laysFlaws m v d).bind fun x9 => (if (mX12_in i 0 (x9.1 - 1)) = true then (if inB (((5 : Int32) * i) + a) 800 = true then some (x9.2.1 (m + 10) (((5 : Int32) * i) + a).toNatClampNeg, x9.2) else none) else some (-1, uI x9.2 m 1 1))) i2 s (inB a 5) v (-1) ?_ (fun d1 s1 => ?_) (fun hb hc _ => ?_)
  · show mX11_flaw x h p v i a d = _
    unfold mX11_flaw
    have r5 : (if a < 0 then mX11_flaw_22 x h p v i a 0 x h p d else if (5 : Int32) ≤ a then mX11_flaw_22 x h p v i a 0 x h p d else mX11_flaw_22 x h p v i a 1 x h p d) = if inB a 5 = true then mX11_flaw_22 x h p v i a 1 x h p d else mX11_flaw_22 x h p v i a 0 x h p d := by
      rw [← in_X (n := 5) (by omega)]
      by_cases e : a < 0
      · rw [if_pos e, if_pos e, if_neg (show ¬ false = true by decide)]
      · rw [if_neg e, if_neg e]
        by_cases e2 : nI 5 ≤ a
        · rw [if_pos (show (5 : Int32) ≤ a from e2), if_pos e2, if_neg (show ¬ false = true by decide)]
        · rw [if_neg (show ¬ (5 : Int32) ≤ a from e2), if_neg e2, if_pos rfl]
    rw [s.1, r5]
    cases b
    · rfl
    · rw [if_neg (show ¬ b2i true = 0 by decide)]
      cases inB a 5 <;> rfl
  · show mX12_flaw m v i a d1 = _
    unfold mX12_flaw
    rw [hin]
    rfl
  · subst hb
    obtain ⟨k, hk, rfl⟩ := in_nI hc
    obtain ⟨w, hX, hM⟩ := s.2.2.2 rfl
    obtain ⟨d1, a1, a2, a3⟩ := X_list hX w (fl := x + 160) (by omega) v
    have c1 := FlX_Ch i2 a2
    have hl : (flQ q v).length < 2 ^ 30 := by omega
    by_cases e : inB i (flQ q v).length = true
    · obtain ⟨j, hj, rfl⟩ := in_nI e
      obtain ⟨d2, e1, e2, e3⟩ := M_laysFlaws (MRr i2 (Ch_tr c1 (Ch_x9 x m d1 0)) hM) w v
      have h9 := FlM_x9 i2 e2
      refine Ans_ok i2 (fget (flQ q v)[j] k) c1 ?_ (d2 := d2) ?_ (FlM_Ch i2 e2) h9.1 h9.2
      · show ((mX3_list (x + 160) h v d).bind _) = _
        rw [a1, Option.bind_some]
        dsimp only
        rw [rng_l2 (nI j) hl, if_pos e]
        unfold mX3_partOf
        rw [show nI j * (5 : Int32) + nI k = nI (5 * j + k) by rw [show (5 : Int32) = nI 5 from rfl, pk_mul, nI_add, Nat.mul_comm], if_pos (inB_nI (by omega) (by decide)), cl_nI (by omega), FSt_get a2 hj hk, Option.bind_some]
      · show ((mX12_laysFlaws m v (rf m 0 (uI d1 x 9 0))).bind _) = _
        rw [e1, Option.bind_some]
        dsimp only
        rw [in_M (v := nI j) hl, if_pos e, show (5 : Int32) * nI j + nI k = nI (5 * j + k) by rw [show (5 : Int32) = nI 5 from rfl, pk_mul, nI_add], if_pos (inB_nI (by omega) (by decide)), cl_nI (by omega), FSt_get e2 hj hk]
    · obtain ⟨d2, e1, e2, e3⟩ := M_laysFlaws (MRr i2 (Ch_tr c1 (Ch_x9 x m d1 1)) hM) w v
      have h9 := FlM_x9 i2 e2
      refine Ans_no i2 1 (by decide) c1 ?_ (d2 := d2) ?_ (FlM_Ch i2 e2) h9.1
      · show ((mX3_list (x + 160) h v d).bind _) = _
        rw [a1, Option.bind_some]
        dsimp only
        rw [rng_l2 i hl, if_neg e]
      · show ((mX12_laysFlaws m v (rf m 0 (uI d1 x 9 1))).bind _) = _
        rw [e1, Option.bind_some]
        dsimp only
        rw [in_M (v := i) hl, if_neg e]
/-- the class's list changes nothing that counts; so does the reference's -/
def snd (q : Nat → Int32) (n : Nat) : Int32 := bset (fun v => decide ((flQ q (nI v)).length = 0)) n
theorem X_sound {x h p m : Nat} {d : Dt} {q : Nat → Int32} (id : Ids x h p m) (hX : XR h d q) (w : WF q) : ∃ d1, mX11_sound_17 x h p FUEL 0 0 d = some (snd q (2 ^ nO q), uI d1 x 9 0) ∧ Ch x m d d1 := by
  have ho := w.o
  obtain ⟨p1, p2⟩ := pow_O (nO q) ho.2
  have i2 := id
  obtain ⟨j1, j2, j3⟩ := id
  obtain ⟨a, g, hR, eq⟩ := loop_rel (fun n i (a : Int32 × Dt) => mX11_sound_17 x h p n a.1 i a.2) (fun i a => a.1 = snd q i ∧ Ch x m d a.2) (2 ^ nO q)
    (fun fuel i a hi hR => by
      obtain ⟨a1, a2⟩ := a
      obtain ⟨r1, r2⟩ := hR
      have r1 : a1 = snd q i := r1
      have r2 : Ch x m d a2 := r2
      have xd := Ch_XR i2 r2 hX w
      show ∃ b, _ ∧ mX11_sound_17 x h p (fuel + 1) a1 (nI i) a2 = _
      obtain ⟨d1, b1, b2, b3⟩ := X_list xd w (fl := x + 160) (by omega) (nI i)
      rw [mX11_sound_17, show a2.1 h 2 = nI (nO q) from xd.1.2.2.trans ho.1, p1, if_neg (nI_ge hi (by omega)), b1, Option.bind_some, nI_1]
      have st : snd q (i + 1) = if decide ((flQ q (nI i)).length = 0) = true then snd q i ||| ((1 : Int32) <<< (nI i &&& 31)) else snd q i := by
        unfold snd bset; rw [fo_last, Nat.zero_add]
      dsimp only
      by_cases e : (flQ q (nI i)).length = 0
      · rw [if_pos (show nI (flQ q (nI i)).length = 0 by rw [e]; rfl)]
        exact ⟨(a1 ||| ((1 : Int32) <<< (nI i &&& 31)), d1), ⟨by rw [st, if_pos (by simp [e]), r1], Ch_tr r2 (FlX_Ch i2 b2)⟩, rfl⟩
      · rw [if_neg (show ¬ nI (flQ q (nI i)).length = 0 from fun z => e (nI_inj (b := 0) (by omega) (by omega) z))]
        exact ⟨(a1, d1), ⟨by rw [st, if_neg (by simp [e]), r1], Ch_tr r2 (FlX_Ch i2 b2)⟩, rfl⟩)
    (2 ^ nO q) 0 (0, d) FUEL (Nat.zero_add _) ⟨rfl, Ch_rf x m d⟩ (fuel_big (by omega))
  obtain ⟨a1, a2⟩ := a
  obtain ⟨r1, r2⟩ := hR
  have r1 : a1 = snd q (2 ^ nO q) := r1
  have r2 : Ch x m d a2 := r2
  refine ⟨a2, ?_, r2⟩
  refine Eq.trans eq ?_
  show mX11_sound_17 x h p (g + 1) a1 (nI (2 ^ nO q)) a2 = _
  rw [mX11_sound_17, show a2.1 h 2 = nI (nO q) from (Ch_XR i2 r2 hX w).1.2.2.trans ho.1, p1, if_pos (Int32.le_refl _), r1]; rfl
/-- what the reference's laying of flaws leaves: x's trouble and its own -/
theorem M_sound {x h p m : Nat} {d : Dt} {q : Nat → Int32} (id : Ids x h p m) (hM : MR m d q) (w : WF q) : ∃ d1, mX12_sound_20 m FUEL 0 0 d = some (snd q (2 ^ nO q), d1) ∧ Ch x m d d1 ∧ d1.1 x 9 = d.1 x 9 ∧ d1.1 m 1 = d.1 m 1 := by
  have ho := w.o
  obtain ⟨p1, p2⟩ := pow_O (nO q) ho.2
  have i2 := id
  obtain ⟨j1, j2, j3⟩ := id
  obtain ⟨a, g, hR, eq⟩ := loop_rel (fun n i (a : Int32 × Dt) => mX12_sound_20 m n a.1 i a.2) (fun i a => a.1 = snd q i ∧ Ch x m d a.2 ∧ a.2.1 x 9 = d.1 x 9 ∧ a.2.1 m 1 = d.1 m 1) (2 ^ nO q)
    (fun fuel i a hi hR => by
      obtain ⟨a1, a2⟩ := a
      obtain ⟨r1, r2, r3, r4⟩ := hR
      have r1 : a1 = snd q i := r1
      have r2 : Ch x m d a2 := r2
      have md := Ch_MR i2 r2 hM
      show ∃ b, _ ∧ mX12_sound_20 m (fuel + 1) a1 (nI i) a2 = _
      obtain ⟨d1, b1, b2, b3⟩ := M_laysFlaws md w (nI i)
      have f9 : d1.1 x 9 = d.1 x 9 ∧ d1.1 m 1 = d.1 m 1 := ⟨(b2.2.1 _ _ (by omega) (by omega) (by omega)).trans r3, (b2.2.1 _ _ (by omega) (by omega) (by omega)).trans r4⟩
      rw [mX12_sound_20, if_pos ib3, row3 md, ho.1, p1, if_neg (nI_ge hi (by omega)), b1, Option.bind_some, nI_1]
      have st : snd q (i + 1) = if decide ((flQ q (nI i)).length = 0) = true then snd q i ||| ((1 : Int32) <<< (nI i &&& 31)) else snd q i := by
        unfold snd bset; rw [fo_last, Nat.zero_add]
      dsimp only
      by_cases e : (flQ q (nI i)).length = 0
      · rw [if_pos (show nI (flQ q (nI i)).length = 0 by rw [e]; rfl)]
        exact ⟨(a1 ||| ((1 : Int32) <<< (nI i &&& 31)), d1), ⟨by rw [st, if_pos (by simp [e]), r1], Ch_tr r2 (FlM_Ch i2 b2), f9⟩, rfl⟩
      · rw [if_neg (show ¬ nI (flQ q (nI i)).length = 0 from fun z => e (nI_inj (b := 0) (by omega) (by omega) z)), Int32.or_zero]
        exact ⟨(a1, d1), ⟨by rw [st, if_neg (by simp [e]), r1], Ch_tr r2 (FlM_Ch i2 b2), f9⟩, rfl⟩)
    (2 ^ nO q) 0 (0, d) FUEL (Nat.zero_add _) ⟨rfl, Ch_rf x m d, rfl, rfl⟩ (fuel_big (by omega))
  obtain ⟨a1, a2⟩ := a
  obtain ⟨r1, r2, r3⟩ := hR
  have r1 : a1 = snd q (2 ^ nO q) := r1
  have r2 : Ch x m d a2 := r2
  refine ⟨a2, ?_, r2, r3⟩
  refine Eq.trans eq ?_
  show mX12_sound_20 m (g + 1) a1 (nI (2 ^ nO q)) a2 = _
  rw [mX12_sound_20, if_pos ib3, row3 (Ch_MR i2 r2 hM), ho.1, p1, if_pos (Int32.le_refl _), r1]
theorem q_sound {x h p m : Nat} {d : Dt} {q : Nat → Int32} {b : Bool} (id : Ids x h p m) (s : St x h m d q b) : Ans x m d (fun d => mX11_sound x h p d) (fun d => mX12_sound m d) := by
  have i2 := id
  obtain ⟨j1, j2, j3⟩ := id
  have sr : ∀ t, St x h m (uI d x 9 t) q b := fun t => Ch_St i2 (Ch_x9 x m d t) s
  cases b
  · refine Ans_ref i2 (-1) 1 (by decide) ?_ ?_
    · show mX11_sound x h p d = _
      unfold mX11_sound
      rw [s.1, if_pos b2i_0]; rfl
    · show mX12_sound m (uI d x 9 1) = _
      unfold mX12_sound
      rw [(sr 1).2.1, b2i_0, un0, iR1, if_pos rfl]
  · obtain ⟨w, hX, hM⟩ := s.2.2.2 rfl
    obtain ⟨d1, a1, a2⟩ := X_sound i2 hX w
    obtain ⟨d2, e1, e2, e3, e4⟩ := M_sound i2 (MRr i2 (Ch_tr a2 (Ch_x9 x m d1 0)) hM) w
    refine Ans_ok i2 (snd q (2 ^ nO q)) a2 ?_ (d2 := d2) ?_ e2 (by rw [e3, rf_o (by omega), dI_at]) (by rw [e4, rf_m1])
    · show mX11_sound x h p d = _
      unfold mX11_sound
      rw [s.1, b2i_1, if_neg (show ¬ (1 : Int32) = 0 by decide), a1]
    · show mX12_sound m (uI d1 x 9 0) = _
      unfold mX12_sound
      rw [(Ch_St i2 (Ch_tr a2 (Ch_x9 x m d1 0)) s).2.1, b2i_1, un1, iR0, if_neg (show ¬ false = true by decide), e1]
