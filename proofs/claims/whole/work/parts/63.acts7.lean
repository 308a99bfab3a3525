/-! acts: undo -/
def StB (x h p m : Nat) (d : Dt) (fx fm : Dt → Option (Bool × Dt)) : Prop := ∃ r d1 d2 q b, fx d = some (r, d1) ∧ fm d1 = some (r, d2) ∧ CI x h p m d2 q b
/-- what the reference does, an act being there -/
theorem M_undo {m A k : Nat} {d : Dt} (hA : A < 267) (hk : k + 1 ≤ 10) (h1 : d.1 m 34 = nI (k + 1)) (h2 : d.1 (m + 13) k = nI A) : mX12_undo m d = some (true, uI (uI (rf m 0 d) m 34 (nI k)) (m + 2) A (d.1 (m + 14) k)) := by
  have e34 : (rf m 0 d).1 m 34 - 1 = nI k := by rw [rf_k (by omega), h1, show (1 : Int32) = nI 1 from rfl, nI_sub (by omega)]; rfl
  unfold mX12_undo
  rw [h1, if_neg (show ¬ nI (k + 1) ≤ 0 from nI_ge (show 0 < k + 1 by omega) (by omega))]
  unfold mX12_undo_13
  rw [un1, iR0, if_neg (show ¬ false = true by decide)]
  dsimp only
  rw [e34, dI_at, if_pos (inB_nI (by omega) (by decide)), if_pos (inB_nI (by omega) (by decide)), cl_nI (show k < 2 ^ 31 by omega), dI_ne (Or.inl (show m + 13 ≠ m by omega)), rf_o (show m + 13 ≠ m by omega), h2, if_pos (inB_nI (by omega) (by decide)), cl_nI (by omega), dI_ne (Or.inl (show m + 14 ≠ m by omega)), rf_o (show m + 14 ≠ m by omega)]
theorem undo_end {x h p m A k : Nat} {d d1 : Dt} {q : Nat → Int32} {v : Int32} (c : CI x h p m d q true) (hA : 21 ≤ A) (hA2 : A < 267) (hk : k + 1 ≤ 10) (a3 : d.1 m 34 = nI (k + 1)) (a5 : ∀ j, j < k + 1 → Act x m d q j) (e13 : d.1 (m + 13) k = nI A) (e14 : d.1 (m + 14) k = v)
    (f2 : d1.2 = d.2) (F : ∀ o k, ¬ (o = x ∧ k = 9) → ¬ (o = x + 156 ∧ k = 0) → ¬ (h + 3 ≤ o ∧ o < h + 75) → d1.1 o k = d.1 o k) (c0 : d1.1 (x + 156) 0 = nI k) (c9 : d1.1 x 9 = 0) (w' : WF (upq q A v)) (x' : XR h d1 (upq q A v)) :
    ∃ d2, mX12_undo m d1 = some (true, d2) ∧ CI x h p m d2 (upq q A v) true := by
  obtain ⟨j1, j2, j3⟩ := c.1
  obtain ⟨-, -, hM⟩ := c.2.1.2.2.2 rfl
  obtain ⟨cn, -, -, ct, -⟩ := up_cnt (q := q) (A := A) (v := v) hA
  refine ⟨_, M_undo (m := m) (A := A) (k := k) hA2 hk (by rw [F _ _ (by omega) (by omega) (by omega)]; exact a3) (by rw [F _ _ (by omega) (by omega) (by omega)]; exact e13), ?_⟩
  rw [show d1.1 (m + 14) k = v by rw [F _ _ (by omega) (by omega) (by omega)]; exact e14]
  have G : ∀ o k, o ≠ m → (o ≠ m + 2 ∨ k ≠ A) → (uI (uI (rf m 0 d1) m 34 (nI k)) (m + 2) A v).1 o k = d1.1 o k := fun o k h1 h2 => by rw [dI_ne h2, dI_ne (Or.inl h1), rf_o h1]
  have t2 : (uI (uI (rf m 0 d1) m 34 (nI k)) (m + 2) A v).1 x 9 = 0 := by rw [dI_ne (by omega), dI_ne (by omega), rf_o (by omega)]; exact c9
  have t3 : (uI (uI (rf m 0 d1) m 34 (nI k)) (m + 2) A v).1 m 1 = 0 := by rw [dI_ne (by omega), dI_ne (by omega), rf_m1]
  refine CI_new c ?_ (fun o j h1 h2 h3 h4 h5 h6 => ?_) w' (XR_congr x' (fun o k h1 h2 => ?_) w') (fun j hj => ?_) (t2.trans t3.symm) (by rw [t2]; decide) ⟨k, by omega, ?_, ?_, (fun hb => by cases hb), fun j hj => ?_⟩
  · exact f2
  · by_cases e : o = m
    · subst e
      rw [dI_ne (by omega), dI_ne (by omega), rf_k (by omega), F _ _ (by omega) (by omega) (by omega)]
    · rw [dI_ne (by omega), dI_ne (by omega), rf_o e, F _ _ h1 (by omega) h6]
  · rw [dI_ne (by omega), dI_ne (by omega), rf_o (by omega)]
  · by_cases e : j = A
    · subst e; rw [up_at, dI_at]
    · rw [up_ne e, dI_ne (Or.inr e), dI_ne (by omega), rf_o (by omega), F _ _ (by omega) (by omega) (by omega)]; exact hM j hj
  · rw [dI_ne (by omega), dI_ne (by omega), rf_o (by omega)]; exact c0
  · rw [dI_ne (by omega), dI_at]
  · have ho := a5 j (by omega)
    unfold Act at ho ⊢
    rw [cn, ct, dI_ne (show m + 14 ≠ m + 2 ∨ j ≠ A from Or.inl (by omega)), dI_ne (show m + 14 ≠ m ∨ j ≠ 34 from Or.inl (by omega)), rf_o (show m + 14 ≠ m by omega), F (m + 14) j (by omega) (by omega) (by omega),
      dI_ne (show m + 13 ≠ m + 2 ∨ j ≠ A from Or.inl (by omega)), dI_ne (show m + 13 ≠ m ∨ j ≠ 34 from Or.inl (by omega)), rf_o (show m + 13 ≠ m by omega), F (m + 13) j (by omega) (by omega) (by omega),
      dI_ne (show x + 157 ≠ m + 2 ∨ j ≠ A from Or.inl (by omega)), dI_ne (show x + 157 ≠ m ∨ j ≠ 34 from Or.inl (by omega)), rf_o (show x + 157 ≠ m by omega), F (x + 157) j (by omega) (by omega) (by omega),
      dI_ne (show x + 158 ≠ m + 2 ∨ j ≠ A from Or.inl (by omega)), dI_ne (show x + 158 ≠ m ∨ j ≠ 34 from Or.inl (by omega)), rf_o (show x + 158 ≠ m by omega), F (x + 158) j (by omega) (by omega) (by omega),
      dI_ne (show x + 159 ≠ m + 2 ∨ j ≠ A from Or.inl (by omega)), dI_ne (show x + 159 ≠ m ∨ j ≠ 34 from Or.inl (by omega)), rf_o (show x + 159 ≠ m by omega), F (x + 159) j (by omega) (by omega) (by omega)]
    exact ho
theorem s_undo {x h p m : Nat} {d : Dt} {q : Nat → Int32} {b : Bool} (c : CI x h p m d q b) : StB x h p m d (fun d => mX11_undo x h p d) (fun d => mX12_undo m d) := by
  have c2 := c
  obtain ⟨id, s, e9, e10, e11, tp, nm, ⟨k, a1, a2, a3, a4, a5⟩⟩ := c
  have i2 := id
  obtain ⟨j1, j2, j3⟩ := id
  rcases Nat.eq_zero_or_pos k with rfl | hk
  · refine ⟨false, uI d x 9 1, rf m 1 (uI d x 9 1), q, b, ?_, ?_, CI_Ch c2 (Ch_tr (Ch_x9 x m d 1) (Ch_rf2 x m _ 1)) ?_ (fun z => ?_)⟩
    · show mX11_undo x h p d = _
      unfold mX11_undo
      rw [a2, if_neg (show ¬ (1 : Int32) ≤ nI 0 by decide)]; rfl
    · show mX12_undo m (uI d x 9 1) = _
      unfold mX12_undo
      rw [dI_ne (by omega), a3, if_pos (show nI 0 ≤ 0 by decide)]
      unfold mX12_undo_13
      rw [un0, iR1, if_pos rfl]
    · rw [rf_o (by omega), dI_at, rf_m1]
    · rw [rf_o (by omega), dI_at] at z; exact absurd z (by decide)
  · obtain ⟨k, rfl⟩ : ∃ j, k = j + 1 := ⟨k - 1, by omega⟩
    have hb : b = true := by
      cases b
      · have := a4 rfl; omega
      · rfl
    subst hb
    obtain ⟨w, hX, hM⟩ := s.2.2.2 rfl
    have hn := w.n
    have ht := w.t
    have e1 : d.1 (x + 156) 0 - 1 = nI k := by rw [a2, show (1 : Int32) = nI 1 from rfl, nI_sub (by omega)]; rfl
    obtain ⟨z1, z2⟩ := a5 k (by omega)
    obtain ⟨dd, hdd⟩ : ∃ dd, dd = uI d (x + 156) 0 (nI k) := ⟨_, rfl⟩
    have hXd : XR h dd q := XR_congr hX (fun o k h1 h2 => by rw [hdd, dI_ne (by omega)]) w
    have xx : mX11_undo x h p d = if d.1 (x + 157) k = 1 then ((mX9_setLength (h + 3) (d.1 (x + 158) k) (d.1 (x + 159) k) dd).bind fun x8 => some (true, uI x8 x 9 0)) else (if inB (d.1 (x + 158) k) 10 = true then some (true, uI (uI dd (h + 38) (d.1 (x + 158) k).toNatClampNeg (d.1 (x + 159) k)) x 9 0) else none) := by
      unfold mX11_undo
      rw [if_pos (show (1 : Int32) ≤ d.1 (x + 156) 0 by rw [a2]; exact nI_le (show 1 ≤ k + 1 by omega) (by omega)), e1, dI_at, if_pos (inB_nI (by omega) (by decide)), if_pos (inB_nI (by omega) (by decide)), if_pos (inB_nI (by omega) (by decide)), cl_nI (show k < 2 ^ 31 by omega), dI_ne (Or.inl (show x + 157 ≠ x + 156 by omega)), dI_ne (Or.inl (show x + 158 ≠ x + 156 by omega)), dI_ne (Or.inl (show x + 159 ≠ x + 156 by omega)), ← hdd]
    rcases z2 with ⟨s1, i, i1, i2', s2, s3, l, l1, l2, s4⟩ | ⟨s1, i, i1, s2, s3, s4⟩
    · obtain ⟨d1, b1, b2, b3, b4⟩ := X_setLen hXd w i1 i2' l1 l2
      obtain ⟨d2, g1, g2⟩ := undo_end (d1 := uI d1 x 9 0) (A := 21 + i) (k := k) (v := nI l) c2 (by omega) (by omega) a1 a3 a5 s3 (z1.trans s4) (by rw [show (uI d1 x 9 0).2 = d1.2 from rfl, b2, hdd]; rfl)
        (fun o j h1 h2 h3 => by rw [dI_ne (by omega), b3 _ _ (by omega), hdd, dI_ne (by omega)]) (by rw [dI_ne (by omega), b3 _ _ (by omega), hdd, dI_at]) (dI_at _ _ _ _) (WF_len w i1 i2' l1 l2) (XR_congr b4 (fun o k h1 h2 => dI_ne (by omega)) (WF_len w i1 i2' l1 l2))
      refine ⟨true, uI d1 x 9 0, d2, _, true, ?_, g1, g2⟩
      show mX11_undo x h p d = _
      rw [xx, if_pos s1, s2, s4, b1, Option.bind_some]
    · have hV : d.1 (x + 159) k = -2 ∨ ∃ a, a < nN q ∧ d.1 (x + 159) k = nI a := s4
      obtain ⟨d2, g1, g2⟩ := undo_end (d1 := uI (uI dd (h + 38) i (d.1 (x + 159) k)) x 9 0) (A := 97 + 16 * i + 5) (k := k) (v := d.1 (x + 159) k) c2 (by omega) (by omega) a1 a3 a5 s3 z1 (by rw [hdd]; rfl)
        (fun o j h1 h2 h3 => by rw [dI_ne (by omega), dI_ne (by omega), hdd, dI_ne (by omega)]) (by rw [dI_ne (by omega), dI_ne (by omega), hdd, dI_at]) (dI_at _ _ _ _) (WF_hand w i1 hV) (XR_hand hXd w i1 (fun o k h1 h2 h3 => by rw [dI_ne (by omega), dI_ne h3]) (by rw [dI_ne (by omega), dI_at]))
      refine ⟨true, _, d2, _, true, ?_, g1, g2⟩
      show mX11_undo x h p d = _
      rw [xx, if_neg (show ¬ d.1 (x + 157) k = 1 by rw [s1]; decide), s2, if_pos (inB_nI (by omega) (by decide)), cl_nI (by omega)]
