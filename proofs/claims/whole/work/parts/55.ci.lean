/-! the whole of what class and reference hold in common; about, named, fault, where, size, trouble -/
def sx8 (v : Nat) : Int32 := (nI v).toInt8.toInt32
def Tap (x m : Nat) (d : Dt) : Prop := ∃ n, n ≤ 1000 ∧ d.1 x 1 = nI n ∧ d.1 m 5 = nI n ∧ ∀ j, j < n → ∃ v, v < 256 ∧ d.1 (m + 1) j = nI v ∧ d.1 (x + 1) j = sx8 v
def Nam (h m : Nat) (d : Dt) : Prop := ∃ k, k ≤ 36 ∧ d.1 h 3 = nI k ∧ d.1 m 10 = nI k ∧ ∀ j, j < k → d.2 (h + 1) j = d.2 (m + 4) j ∧ ∃ v, v < 400 ∧ d.1 (h + 2) j = nI v ∧ d.1 (m + 5) j = nI v
def Act (x m : Nat) (d : Dt) (q : Nat → Int32) (j : Nat) : Prop := d.1 (m + 14) j = d.1 (x + 159) j ∧
  ((d.1 (x + 157) j = 1 ∧ ∃ i, 1 ≤ i ∧ i < nN q ∧ d.1 (x + 158) j = nI i ∧ d.1 (m + 13) j = nI (21 + i) ∧ ∃ l, 1 ≤ l ∧ l ≤ 999 ∧ d.1 (x + 159) j = nI l) ∨
   (d.1 (x + 157) j = 0 ∧ ∃ i, i < nT q ∧ d.1 (x + 158) j = nI i ∧ d.1 (m + 13) j = nI (97 + 16 * i + 5) ∧ (d.1 (x + 159) j = -2 ∨ ∃ a, a < nN q ∧ d.1 (x + 159) j = nI a)))
def Acs (x m : Nat) (d : Dt) (q : Nat → Int32) (b : Bool) : Prop := ∃ c, c ≤ 10 ∧ d.1 (x + 156) 0 = nI c ∧ d.1 m 34 = nI c ∧ (b = false → c = 0) ∧ ∀ j, j < c → Act x m d q j
def CI (x h p m : Nat) (d : Dt) (q : Nat → Int32) (b : Bool) : Prop := Ids x h p m ∧ St x h m d q b ∧ d.1 x 9 = d.1 m 1 ∧ d.1 x 10 = d.1 m 2 ∧ (d.1 x 9 = 4 → d.1 x 11 = d.1 m 3) ∧ Tap x m d ∧ (b = true → Nam h m d) ∧ Acs x m d q b
theorem CI_Ch {x h p m : Nat} {d d1 : Dt} {q : Nat → Int32} {b : Bool} (c : CI x h p m d q b) (f : Ch x m d d1) (h1 : d1.1 x 9 = d1.1 m 1) (h2 : d1.1 x 9 = 4 → d1.1 x 11 = d1.1 m 3) : CI x h p m d1 q b := by
  obtain ⟨id, s, -, e2, -, ⟨n, t1, t2, t3, t4⟩, nm, ⟨k, a1, a2, a3, a4, a5⟩⟩ := c
  have i2 := id
  obtain ⟨j1, j2, j3⟩ := id
  have g : ∀ o k, ¬ (o = x ∧ k = 9) → ¬ (x + 160 ≤ o ∧ o ≤ x + 166) → ¬ (o = m ∧ (k = 0 ∨ k = 1 ∨ k = 3 ∨ k = 27 ∨ k = 30 ∨ k = 31)) → ¬ (m + 8 ≤ o ∧ o ≤ m + 12) → d1.1 o k = d.1 o k := f.2
  refine ⟨i2, Ch_St i2 f s, h1, ?_, h2, ⟨n, t1, ?_, ?_, fun j hj => ?_⟩, fun hb => ?_, ⟨k, a1, ?_, ?_, a4, fun j hj => ?_⟩⟩
  · rw [g _ _ (by omega) (by omega) (by omega) (by omega), g _ _ (by omega) (by omega) (by omega) (by omega)]; exact e2
  · rw [g _ _ (by omega) (by omega) (by omega) (by omega)]; exact t2
  · rw [g _ _ (by omega) (by omega) (by omega) (by omega)]; exact t3
  · obtain ⟨v, v1, v2, v3⟩ := t4 j hj
    exact ⟨v, v1, by rw [g _ _ (by omega) (by omega) (by omega) (by omega)]; exact v2, by rw [g _ _ (by omega) (by omega) (by omega) (by omega)]; exact v3⟩
  · obtain ⟨k, k1, k2, k3, k4⟩ := nm hb
    refine ⟨k, k1, by rw [g _ _ (by omega) (by omega) (by omega) (by omega)]; exact k2, by rw [g _ _ (by omega) (by omega) (by omega) (by omega)]; exact k3, fun j hj => ⟨by rw [f.1]; exact (k4 j hj).1, ?_⟩⟩
    obtain ⟨v, v1, v2, v3⟩ := (k4 j hj).2
    exact ⟨v, v1, by rw [g _ _ (by omega) (by omega) (by omega) (by omega)]; exact v2, by rw [g _ _ (by omega) (by omega) (by omega) (by omega)]; exact v3⟩
  · rw [g _ _ (by omega) (by omega) (by omega) (by omega)]; exact a2
  · rw [g _ _ (by omega) (by omega) (by omega) (by omega)]; exact a3
  · have := a5 j hj
    unfold Act at this ⊢
    rw [g (m + 14) j (by omega) (by omega) (by omega) (by omega), g (x + 159) j (by omega) (by omega) (by omega) (by omega), g (x + 157) j (by omega) (by omega) (by omega) (by omega), g (x + 158) j (by omega) (by omega) (by omega) (by omega), g (m + 13) j (by omega) (by omega) (by omega) (by omega)]
    exact this
/-- a step of both: the same answer, and all that they hold in common stays -/
def StQ (x h p m : Nat) (d : Dt) (fx fm : Dt → Option (Int32 × Dt)) : Prop := ∃ r d1 d2 q b, fx d = some (r, d1) ∧ fm d1 = some (r, d2) ∧ CI x h p m d2 q b
theorem Ans_StQ {x h p m : Nat} {d : Dt} {q : Nat → Int32} {b : Bool} {fx fm : Dt → Option (Int32 × Dt)} (c : CI x h p m d q b) (a : Ans x m d fx fm) : StQ x h p m d fx fm := by
  obtain ⟨r, d1, d2, a1, -, a2, a3, a4, a5⟩ := a
  exact ⟨r, d1, d2, q, b, a1, a2, CI_Ch c a3 a4 (fun z => absurd z a5)⟩
/-- one that leaves all but the reference's thrown alone -/
theorem StQ_m0 {x h p m : Nat} {d : Dt} {q : Nat → Int32} {b : Bool} {fx fm : Dt → Option (Int32 × Dt)} (c : CI x h p m d q b) (r : Int32) (h1 : fx d = some (r, d)) (h2 : fm d = some (r, uI d m 0 0)) : StQ x h p m d fx fm := by
  obtain ⟨j1, j2, j3⟩ := c.1
  refine ⟨r, d, _, q, b, h1, h2, CI_Ch c ⟨rfl, fun o k _ _ h3 _ => dI_ne (by omega)⟩ ?_ (fun z => ?_)⟩
  · rw [dI_ne (Or.inl (by omega)), dI_ne (Or.inr (by omega))]; exact c.2.2.1
  · rw [dI_ne (Or.inl (by omega))] at z
    rw [dI_ne (Or.inl (by omega)), dI_ne (Or.inr (by omega))]; exact c.2.2.2.2.1 z
theorem s_fault {x h p m : Nat} {d : Dt} {q : Nat → Int32} {b : Bool} (c : CI x h p m d q b) : StQ x h p m d (fun d => some (mX11_fault x h p d, d)) (fun d => some (mX12_fault m d)) := by
  refine StQ_m0 c (d.1 x 10) rfl ?_
  show some ((uI d m 0 0).1 m 2, uI d m 0 0) = _
  rw [dI_ne (Or.inr (by omega)), c.2.2.2.1]
theorem s_trouble {x h p m : Nat} {d : Dt} {q : Nat → Int32} {b : Bool} (c : CI x h p m d q b) : StQ x h p m d (fun d => some (mX11_trouble x h p d, d)) (fun d => some (mX12_trouble m d)) := by
  refine StQ_m0 c (d.1 x 9) rfl ?_
  show some ((uI d m 0 0).1 m 1, uI d m 0 0) = _
  rw [dI_ne (Or.inr (by omega)), c.2.2.1]
theorem s_where {x h p m : Nat} {d : Dt} {q : Nat → Int32} {b : Bool} (c : CI x h p m d q b) : StQ x h p m d (fun d => some (mX11_where x h p d, d)) (fun d => some (mX12_where m d)) := by
  by_cases e : d.1 x 9 = 4
  · refine StQ_m0 c (d.1 x 11) ?_ ?_
    · show some (mX11_where x h p d, d) = _
      unfold mX11_where; rw [if_pos e]
    · show some (mX12_where m d) = _
      unfold mX12_where
      rw [dI_ne (Or.inr (by omega)), ← c.2.2.1, if_pos e, dI_ne (Or.inr (by omega)), c.2.2.2.2.1 e]
  · refine StQ_m0 c (-1) ?_ ?_
    · show some (mX11_where x h p d, d) = _
      unfold mX11_where; rw [if_neg e]
    · show some (mX12_where m d) = _
      unfold mX12_where
      rw [dI_ne (Or.inr (by omega)), ← c.2.2.1, if_neg e]
/-- how many by hand -/
def byh (q : Nat → Int32) (n : Nat) : Int32 := fo (fun i t => if hand q i = -2 then t else t + 1) 0 n 0
theorem X_byHand {h : Nat} {d : Dt} {q : Nat → Int32} (x : XR h d q) (w : WF q) : mX5_countByHand (h + 32) d = some (byh q (nT q)) := by
  have ht := w.t
  unfold mX5_countByHand byh
  exact loop_fo (fun f i t => mX5_countByHand_4 d (h + 32) f t i) _ some (nT q) (fun _ _ => True)
    (fun fuel i t hi _ => by
      have hh : d.1 (h + 38) i = hand q i := (x.ne.2 i hi).1 5 (by omega)
      show mX5_countByHand_4 d (h + 32) (fuel + 1) t (nI i) = mX5_countByHand_4 d (h + 32) fuel (if hand q i = -2 then t else t + 1) _
      rw [mX5_countByHand_4, X_countNets x w, if_neg (nI_ge hi (by omega)), if_pos (inB_nI (by omega) (by decide)), cl_nI (by omega), hh, nI_1]
      by_cases e : hand q i = -2
      · rw [if_pos e, if_pos e]
      · rw [if_neg e, if_neg e])
    (fun _ _ _ _ => trivial)
    (fun fuel t _ => by
      show mX5_countByHand_4 d (h + 32) (fuel + 1) t (nI (nT q)) = _
      rw [mX5_countByHand_4, X_countNets x w, if_pos (Int32.le_refl _)])
    (nT q) 0 0 FUEL (Nat.zero_add _) trivial (fuel_big (by omega))
theorem M_byHand {m : Nat} {d : Dt} {q : Nat → Int32} (hM : MR m d q) (w : WF q) (ht1 : d.1 m 14 = 1) : mX12_handMany m d = some (byh q (nT q)) := by
  have ht := w.t
  unfold mX12_handMany byh
  exact loop_fo (fun f i t => mX12_handMany_4 d m f t i) _ some (nT q) (fun _ _ => True)
    (fun fuel i t hi _ => by
      show mX12_handMany_4 d m (fuel + 1) t (nI i) = mX12_handMany_4 d m fuel (if hand q i = -2 then t else t + 1) _
      rw [mX12_handMany_4, ht1, if_neg (show ¬ (1 : Int32) = 0 by decide), if_pos ib5, row5 hM, ht.1, if_neg (nI_ge hi (by omega)), M_netOf hM (c := 5) (k := 5) rfl (by omega) (by omega), Option.bind_some, nI_1]
      by_cases e : hand q i = -2
      · rw [if_pos (show q (97 + 16 * i + 5) = -2 from e), if_pos e, Int32.add_zero]
      · rw [if_neg (show ¬ q (97 + 16 * i + 5) = -2 from e), if_neg e])
    (fun _ _ _ _ => trivial)
    (fun fuel t _ => by
      show mX12_handMany_4 d m (fuel + 1) t (nI (nT q)) = _
      rw [mX12_handMany_4, ht1, if_neg (show ¬ (1 : Int32) = 0 by decide), if_pos ib5, row5 hM, ht.1, if_pos (Int32.le_refl _)])
    (nT q) 0 0 FUEL (Nat.zero_add _) trivial (fuel_big (by omega))
theorem s_size {x h p m : Nat} {d : Dt} {q : Nat → Int32} {b : Bool} (c : CI x h p m d q b) (v : Int32) : StQ x h p m d (fun d => (mX11_size x h p v d).bind fun r => some (r, d)) (fun d => mX12_size m v d) := by
  have c2 := c
  obtain ⟨id, s, -, -, -, ⟨n, t1, t2, t3, t4⟩, -, ⟨k, a1, a2, a3, a4, a5⟩⟩ := c
  obtain ⟨j1, j2, j3⟩ := id
  by_cases e0 : v = 0
  · refine StQ_m0 c2 (nI n) ?_ ?_
    · show (mX11_size x h p v d).bind _ = _
      unfold mX11_size; rw [if_pos e0, Option.bind_some, t2]
    · show mX12_size m v d = _
      unfold mX12_size; rw [if_pos e0, dI_ne (Or.inr (by omega)), t3]
  · by_cases e1 : v = 1
    · refine StQ_m0 c2 (nI k) ?_ ?_
      · show (mX11_size x h p v d).bind _ = _
        unfold mX11_size; rw [if_neg e0, if_pos e1, Option.bind_some, a2]
      · show mX12_size m v d = _
        unfold mX12_size; rw [if_neg e0, if_pos e1, dI_ne (Or.inr (by omega)), a3]
    · by_cases e2 : v = 2
      · cases b
        · refine StQ_m0 c2 0 ?_ ?_
          · show (mX11_size x h p v d).bind _ = _
            unfold mX11_size mX5_countByHand
            rw [if_neg e0, if_neg e1, if_pos e2, show FUEL = 999999 + 1 from rfl, mX5_countByHand_4, (s.2.2.1 rfl).2.2.2.2.1, if_pos (by decide)]; rfl
          · show mX12_size m v d = _
            unfold mX12_size mX12_handMany
            rw [if_neg e0, if_neg e1, if_pos e2, show FUEL = 999999 + 1 from rfl, mX12_handMany_4, dI_ne (Or.inr (by omega)), s.2.1, if_pos b2i_0]; rfl
        · obtain ⟨w, hX, hM⟩ := s.2.2.2 rfl
          refine StQ_m0 c2 (byh q (nT q)) ?_ ?_
          · show (mX11_size x h p v d).bind _ = _
            unfold mX11_size
            rw [if_neg e0, if_neg e1, if_pos e2, X_byHand hX w]; rfl
          · show mX12_size m v d = _
            unfold mX12_size
            rw [if_neg e0, if_neg e1, if_pos e2, M_byHand (fun j hj => by rw [dI_ne (Or.inl (by omega))]; exact hM j hj) w (by rw [dI_ne (Or.inr (by omega))]; exact s.2.1)]; rfl
      · refine StQ_m0 c2 (-1) ?_ ?_
        · show (mX11_size x h p v d).bind _ = _
          unfold mX11_size; rw [if_neg e0, if_neg e1, if_neg e2]; rfl
        · show mX12_size m v d = _
          unfold mX12_size; rw [if_neg e0, if_neg e1, if_neg e2]
theorem s_named {x h p m : Nat} {d : Dt} {q : Nat → Int32} {b : Bool} (c : CI x h p m d q b) (v : Int64) : StQ x h p m d (fun d => mX11_named x h p v d) (fun d => mX12_named m v d) := by
  have c2 := c
  obtain ⟨id, s, -, -, -, -, nm, -⟩ := c
  have i2 := id
  obtain ⟨j1, j2, j3⟩ := id
  have sr : ∀ t, St x h m (uI d x 9 t) q b := fun t => Ch_St i2 (Ch_x9 x m d t) s
  refine Ans_StQ c2 ?_
  cases b
  · refine Ans_ref i2 (-1) 1 (by decide) ?_ ?_
    · show mX11_named x h p v d = _
      unfold mX11_named mX4_meaningOf
      rw [show FUEL = 999999 + 1 from rfl, mX4_meaningOf_2, (s.2.2.1 rfl).2.1, if_pos (by decide), Option.bind_some, if_neg (by decide)]; rfl
    · show mX12_named m v (uI d x 9 1) = _
      unfold mX12_named
      rw [(sr 1).2.1, b2i_0, un0, iR1, if_pos rfl]
  · obtain ⟨k, k1, k2, k3, k4⟩ := nm rfl
    have lX := loop_find (fun n i => mX4_meaningOf_2 d h v n i) (fun j => decide (d.2 (h + 1) j = v)) (fun z => if z = -1 then some (-1) else some (d.1 (h + 2) z.toNatClampNeg)) k
      (fun fuel i hi => by
        show mX4_meaningOf_2 d h v (fuel + 1) (nI i) = _
        rw [mX4_meaningOf_2, k2, if_neg (nI_ge hi (by omega)), if_pos (inB_nI (by omega) (by decide)), if_pos (inB_nI (by omega) (by decide)), cl_nI (by omega), nI_1, if_neg (nI_m1 (show i < 100 by omega))]
        by_cases e : d.2 (h + 1) i = v
        · rw [if_pos e, if_pos (by simp [e])]
        · rw [if_neg e, if_neg (by simp [e])])
      (fun fuel => by
        show mX4_meaningOf_2 d h v (fuel + 1) (nI k) = _
        rw [mX4_meaningOf_2, k2, if_pos (Int32.le_refl _), if_pos rfl]) k 0 FUEL (Nat.zero_add _) (fuel_big (by omega))
    have lM : ∀ dd : Dt, dd.2 = d.2 → (∀ j, dd.1 (m + 5) j = d.1 (m + 5) j) → dd.1 m 10 = nI k → mX12_named_18 m v FUEL 0 dd = (fun z : Int32 => if z = -1 then some (-1, uI dd m 1 1) else some (d.1 (h + 2) z.toNatClampNeg, dd)) (findI (fun j => decide (d.2 (h + 1) j = v)) 0 k) := fun dd h1 h2 h3 =>
      loop_find (fun n i => mX12_named_18 m v n i dd) (fun j => decide (d.2 (h + 1) j = v)) (fun z => if z = -1 then some (-1, uI dd m 1 1) else some (d.1 (h + 2) z.toNatClampNeg, dd)) k
      (fun fuel i hi => by
        obtain ⟨y1, u, u1, u2, u3⟩ := k4 i hi
        show mX12_named_18 m v (fuel + 1) (nI i) dd = _
        rw [mX12_named_18, h3, if_neg (nI_ge hi (by omega)), if_pos (inB_nI (by omega) (by decide)), if_pos (inB_nI (by omega) (by decide)), cl_nI (by omega), nI_1, if_neg (nI_m1 (show i < 100 by omega)), h1, h2, ← y1, u3, u2]
        by_cases e : d.2 (h + 1) i = v
        · rw [if_pos e, if_pos (by simp [e])]
        · rw [if_neg e, if_neg (by simp [e])])
      (fun fuel => by
        show mX12_named_18 m v (fuel + 1) (nI k) dd = _
        rw [mX12_named_18, h3, if_pos (Int32.le_refl _), if_pos rfl]; rfl) k 0 FUEL (Nat.zero_add _) (fuel_big (by omega))
    have lMt : ∀ t, mX12_named m v (uI d x 9 t) = (fun z : Int32 => if z = -1 then some (-1, uI (rf m 0 (uI d x 9 t)) m 1 1) else some (d.1 (h + 2) z.toNatClampNeg, rf m 0 (uI d x 9 t))) (findI (fun j => decide (d.2 (h + 1) j = v)) 0 k) := fun t => by
      unfold mX12_named
      rw [(sr t).2.1, b2i_1, un1, iR0, if_neg (show ¬ false = true by decide)]
      exact lM _ rfl (fun j => by rw [rf_o (by omega), dI_ne (Or.inl (by omega))]) (by rw [rf_k (by omega), dI_ne (Or.inl (by omega))]; exact k3)
    rcases findI_in (c := fun j => decide (d.2 (h + 1) j = v)) k 0 with e | ⟨j, -, jk, e, -⟩
    · rw [e] at lX lMt
      refine Ans_no i2 1 (by decide) (Ch_rf x m d) ?_ (d2 := rf m 0 (uI d x 9 1)) ?_ (Ch_rf x m _) (by rw [rf_o (by omega), dI_at])
      · show mX11_named x h p v d = _
        unfold mX11_named
        rw [show mX4_meaningOf h v d = some (-1) from lX, Option.bind_some, if_neg (by decide)]; rfl
      · exact lMt 1
    · rw [e] at lX lMt
      obtain ⟨y1, u, u1, u2, u3⟩ := k4 j (by omega)
      refine Ans_val i2 (nI u) ?_ ?_
      · show mX11_named x h p v d = _
        unfold mX11_named
        rw [show mX4_meaningOf h v d = some (nI u) from lX.trans (by rw [if_neg (nI_m1 (show j < 100 by omega)), cl_nI (by omega), u2]), Option.bind_some, if_pos (show (0 : Int32) ≤ nI u from nI_le (a := 0) (by omega) (by omega))]; rfl
      · refine (lMt 0).trans ?_
        dsimp only
        rw [if_neg (nI_m1 (show j < 100 by omega)), cl_nI (by omega), u2]
