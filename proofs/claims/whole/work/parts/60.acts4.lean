/-! acts: splices -/
def ActV (q : Nat → Int32) (s w z a u : Int32) : Prop := u = z ∧
  ((s = 1 ∧ ∃ i, 1 ≤ i ∧ i < nN q ∧ w = nI i ∧ a = nI (21 + i) ∧ ∃ l, 1 ≤ l ∧ l ≤ 999 ∧ z = nI l) ∨
   (s = 0 ∧ ∃ i, i < nT q ∧ w = nI i ∧ a = nI (97 + 16 * i + 5) ∧ (z = -2 ∨ ∃ b, b < nN q ∧ z = nI b)))
theorem ActV_congr {q q' : Nat → Int32} (h1 : nN q' = nN q) (h2 : nT q' = nT q) {s w z a u : Int32} (h : ActV q s w z a u) : ActV q' s w z a u := by
  unfold ActV at *; rw [h1, h2]; exact h
theorem Acs_push {x m c : Nat} {d d1 : Dt} {q q' : Nat → Int32} {s w z a u : Int32} (h1 : nN q' = nN q) (h2 : nT q' = nT q) (hc : c ≤ 10) (old : ∀ j, j < c → Act x m d q j)
    (c1 : d1.1 (x + 156) 0 = nI (aE c + 1)) (c2 : d1.1 m 34 = nI (aE c + 1)) (e1 : d1.1 (x + 157) (aE c) = s ∧ d1.1 (x + 158) (aE c) = w ∧ d1.1 (x + 159) (aE c) = z) (e2 : d1.1 (m + 13) (aE c) = a ∧ d1.1 (m + 14) (aE c) = u)
    (r1 : ∀ j, j < aE c → d1.1 (x + 157) j = d.1 (x + 157) (j + aS c) ∧ d1.1 (x + 158) j = d.1 (x + 158) (j + aS c) ∧ d1.1 (x + 159) j = d.1 (x + 159) (j + aS c)) (r2 : ∀ j, j < aE c → d1.1 (m + 13) j = d.1 (m + 13) (j + aS c) ∧ d1.1 (m + 14) j = d.1 (m + 14) (j + aS c))
    (new : ActV q s w z a u) : Acs x m d1 q' true := by
  have hE : aE c ≤ 9 := by unfold aE; split <;> omega
  have hES : ∀ j, j < aE c → j + aS c < c := by unfold aE aS; intro j; split <;> omega
  refine ⟨aE c + 1, by omega, c1, c2, (fun hb => by cases hb), fun j hj => ?_⟩
  show ActV q' (d1.1 (x + 157) j) (d1.1 (x + 158) j) (d1.1 (x + 159) j) (d1.1 (m + 13) j) (d1.1 (m + 14) j)
  by_cases e : j = aE c
  · subst e
    rw [e1.1, e1.2.1, e1.2.2, e2.1, e2.2]; exact ActV_congr h1 h2 new
  · obtain ⟨y1, y2, y3⟩ := r1 j (by omega)
    obtain ⟨y4, y5⟩ := r2 j (by omega)
    rw [y1, y2, y3, y4, y5]
    exact ActV_congr h1 h2 (old _ (hES j (by omega)))
theorem CI_new {x h p m : Nat} {d d1 : Dt} {q q' : Nat → Int32} (c : CI x h p m d q true) (f2 : d1.2 = d.2)
    (F : ∀ o k, ¬ (o = x ∧ k = 9) → ¬ (x + 156 ≤ o ∧ o ≤ x + 166) → ¬ (o = m ∧ (k = 0 ∨ k = 1 ∨ k = 3 ∨ k = 34)) → o ≠ m + 2 → ¬ (m + 8 ≤ o ∧ o ≤ m + 14) → ¬ (h + 3 ≤ o ∧ o < h + 75) → d1.1 o k = d.1 o k)
    (w' : WF q') (x' : XR h d1 q') (M' : MR m d1 q') (e9 : d1.1 x 9 = d1.1 m 1) (e4 : d1.1 x 9 ≠ 4) (ac : Acs x m d1 q' true) : CI x h p m d1 q' true := by
  obtain ⟨id, s, -, e10, -, ⟨n, t1, t2, t3, t4⟩, nm, -⟩ := c
  have i2 := id
  obtain ⟨j1, j2, j3⟩ := id
  refine ⟨i2, ⟨?_, ?_, (fun hb => by cases hb), fun _ => ⟨w', x', M'⟩⟩, e9, ?_, fun z => absurd z e4, ⟨n, t1, ?_, ?_, fun j hj => ?_⟩, fun _ => ?_, ac⟩
  · rw [F _ _ (by omega) (by omega) (by omega) (by omega) (by omega) (by omega)]; exact s.1
  · rw [F _ _ (by omega) (by omega) (by omega) (by omega) (by omega) (by omega)]; exact s.2.1
  · rw [F _ _ (by omega) (by omega) (by omega) (by omega) (by omega) (by omega), F _ _ (by omega) (by omega) (by omega) (by omega) (by omega) (by omega)]; exact e10
  · rw [F _ _ (by omega) (by omega) (by omega) (by omega) (by omega) (by omega)]; exact t2
  · rw [F _ _ (by omega) (by omega) (by omega) (by omega) (by omega) (by omega)]; exact t3
  · obtain ⟨v, v1, v2, v3⟩ := t4 j hj
    exact ⟨v, v1, by rw [F _ _ (by omega) (by omega) (by omega) (by omega) (by omega) (by omega)]; exact v2, by rw [F _ _ (by omega) (by omega) (by omega) (by omega) (by omega) (by omega)]; exact v3⟩
  · obtain ⟨k, k1, k2, k3, k4⟩ := nm rfl
    refine ⟨k, k1, by rw [F _ _ (by omega) (by omega) (by omega) (by omega) (by omega) (by omega)]; exact k2, by rw [F _ _ (by omega) (by omega) (by omega) (by omega) (by omega) (by omega)]; exact k3, fun j hj => ⟨by rw [f2]; exact (k4 j hj).1, ?_⟩⟩
    obtain ⟨v, v1, v2, v3⟩ := (k4 j hj).2
    exact ⟨v, v1, by rw [F _ _ (by omega) (by omega) (by omega) (by omega) (by omega) (by omega)]; exact v2, by rw [F _ _ (by omega) (by omega) (by omega) (by omega) (by omega) (by omega)]; exact v3⟩
theorem splice_do {x h p m i : Nat} {d : Dt} {q : Nat → Int32} (c : CI x h p m d q true) (hi : i < nT q) (V : Int32) (hV : V = -2 ∨ ∃ a, a < nN q ∧ V = nI a) :
    ∃ d0 d2, mX0_keep (x + 156) 0 (nI i) (d.1 (h + 38) i) d = some d0 ∧ mX12_changes m (nI (97 + 16 * i + 5)) V (rf m 0 (uI (uI d0 (h + 38) i V) x 9 0)) = some (d.1 (h + 38) i, d2) ∧ CI x h p m d2 (upq q (97 + 16 * i + 5) V) true ∧ ∀ o k, o = m ∨ o = m + 2 → d0.1 o k = d.1 o k := by
  have c2 := c
  obtain ⟨id, s, -, e10, -, -, -, ⟨k, a1, a2, a3, -, a5⟩⟩ := c
  have i2 := id
  obtain ⟨j1, j2, j3⟩ := id
  obtain ⟨w, hX, hM⟩ := s.2.2.2 rfl
  have hn := w.n
  have ht := w.t
  obtain ⟨d0, b1, b2, b3, b4, b5, b6⟩ := X_keepA (a := x + 156) 0 (nI i) (d.1 (h + 38) i) a1 a2
  obtain ⟨dd, hdd⟩ : ∃ dd, dd = rf m 0 (uI (uI d0 (h + 38) i V) x 9 0) := ⟨_, rfl⟩
  have gr : ∀ o k, o ≠ m → ¬ (o = x ∧ k = 9) → (o ≠ h + 38 ∨ k ≠ i) → dd.1 o k = d0.1 o k := fun o k h1 h2 h3 => by rw [hdd, rf_o h1, dI_ne (by omega), dI_ne h3]
  have gd : ∀ o k, o ≠ m → ¬ (o = x ∧ k = 9) → (o ≠ h + 38 ∨ k ≠ i) → ¬ (x + 156 ≤ o ∧ o ≤ x + 159) → dd.1 o k = d.1 o k := fun o k h1 h2 h3 h4 => by rw [gr o k h1 h2 h3, b3 o k (by omega) (by omega) (by omega) (by omega)]
  have gm : ∀ k, k ≠ 0 ∧ k ≠ 1 ∧ k ≠ 3 → dd.1 m k = d.1 m k := fun k hk => by rw [hdd, rf_k hk, dI_ne (by omega), dI_ne (by omega), b3 _ _ (by omega) (by omega) (by omega) (by omega)]
  have m34 : dd.1 m 34 = nI k := by rw [gm _ (by omega)]; exact a3
  obtain ⟨d2, f1, f2, f3, f4, f5, f6, f7⟩ := M_changes (m := m) (A := 97 + 16 * i + 5) (d := dd) V (by omega) a1 m34
  have was : dd.1 (m + 2) (97 + 16 * i + 5) = d.1 (h + 38) i := by
    rw [gd _ _ (by omega) (by omega) (by omega) (by omega), hM _ (by omega)]
    exact ((hX.ne.2 i hi).1 5 (by omega)).symm
  have hz : d.1 (h + 38) i = -2 ∨ ∃ a, a < nN q ∧ d.1 (h + 38) i = nI a := by
    rw [show d.1 (h + 38) i = q (97 + 16 * i + 5) from (hX.ne.2 i hi).1 5 (by omega)]
    exact (w.net hi).2.2.2.2.1
  refine ⟨d0, d2, b1, by rw [← hdd, f1, was], ?_, fun o k ho => b3 o k (by omega) (by omega) (by omega) (by omega)⟩
  obtain ⟨cn, -, -, ct, -⟩ := up_cnt (q := q) (A := 97 + 16 * i + 5) (v := V) (by omega)
  have t2 : d2.1 x 9 = 0 := by rw [f3 _ _ (by omega) (by omega) (by omega) (by omega), hdd, rf_o (by omega), dI_at]
  have t3 : d2.1 m 1 = 0 := by rw [f3 _ _ (by omega) (by omega) (by omega) (by omega), hdd, rf_m1]
  refine CI_new c2 ?_ (fun o k h1 h2 h3 h4 h5 h6 => ?_) (WF_hand w hi hV) (XR_hand hX w hi (fun o k h1 h2 h3 => ?_) ?_) (fun k hk => ?_) (t2.trans t3.symm) (by rw [t2]; decide) ?_
  · rw [f2, hdd]; exact b2
  · rw [f3 o k (by omega) (by omega) (by omega) (by omega)]
    by_cases e : o = m
    · subst e; exact gm _ (by omega)
    · exact gd o k e h1 (by omega) (by omega)
  · rw [f3 o k (by omega) (by omega) (by omega) (by omega)]; exact gd o k (by omega) (by omega) h3 (by omega)
  · rw [f3 _ _ (by omega) (by omega) (by omega) (by omega), hdd, rf_o (by omega), dI_ne (by omega), dI_at]
  · by_cases e : k = 97 + 16 * i + 5
    · subst e; rw [up_at]; exact f5
    · rw [up_ne e, f3 _ _ (by omega) (by omega) (by omega) (by omega), gd _ _ (by omega) (by omega) (by omega) (by omega)]; exact hM k hk
  · refine Acs_push (d := d) (s := 0) (w := nI i) (z := d.1 (h + 38) i) (a := nI (97 + 16 * i + 5)) (u := d.1 (h + 38) i) cn ct a1 a5 ?_ f4 ⟨?_, ?_, ?_⟩ ⟨f6.1, f6.2.trans was⟩ (fun j hj => ⟨?_, ?_, ?_⟩) (fun j hj => ⟨?_, ?_⟩) ⟨rfl, Or.inr ⟨rfl, i, hi, rfl, rfl, hz⟩⟩
    · rw [f3 _ _ (by omega) (by omega) (by omega) (by omega), gr _ _ (by omega) (by omega) (by omega)]; exact b4
    · rw [f3 _ _ (by omega) (by omega) (by omega) (by omega), gr _ _ (by omega) (by omega) (by omega)]; exact b5.1
    · rw [f3 _ _ (by omega) (by omega) (by omega) (by omega), gr _ _ (by omega) (by omega) (by omega)]; exact b5.2.1
    · rw [f3 _ _ (by omega) (by omega) (by omega) (by omega), gr _ _ (by omega) (by omega) (by omega)]; exact b5.2.2
    · rw [f3 _ _ (by omega) (by omega) (by omega) (by omega), gr _ _ (by omega) (by omega) (by omega)]; exact (b6 j hj).1
    · rw [f3 _ _ (by omega) (by omega) (by omega) (by omega), gr _ _ (by omega) (by omega) (by omega)]; exact (b6 j hj).2.1
    · rw [f3 _ _ (by omega) (by omega) (by omega) (by omega), gr _ _ (by omega) (by omega) (by omega)]; exact (b6 j hj).2.2
    · rw [(f7 j hj).1, gd _ _ (by omega) (by omega) (by omega) (by omega)]
    · rw [(f7 j hj).2, gd _ _ (by omega) (by omega) (by omega) (by omega)]
theorem s_splices {x h p m : Nat} {d : Dt} {q : Nat → Int32} {b : Bool} (c : CI x h p m d q b) (v n : Int32) : StQ x h p m d (fun d => mX11_splices x h p v n d) (fun d => mX12_splices m v n d) := by
  have c2 := c
  obtain ⟨id, s, -⟩ := c
  have i2 := id
  obtain ⟨j1, j2, j3⟩ := id
  have sr : ∀ t, St x h m (uI d x 9 t) q b := fun t => Ch_St i2 (Ch_x9 x m d t) s
  by_cases e : inB v (kT q b) = true
  · obtain ⟨rfl, i, hi, rfl⟩ := told_of e
    obtain ⟨w, hX, hM⟩ := s.2.2.2 rfl
    have ht := w.t
    have hn := w.n
    have eA : (97 : Int32) + 16 * nI i + 5 = nI (97 + 16 * i + 5) := by rw [show (97 : Int32) = nI 97 from rfl, show (16 : Int32) = nI 16 from rfl, show (5 : Int32) = nI 5 from rfl, pk_mul, nI_add, nI_add]
    have go : ∀ V, (V = -2 ∨ ∃ a, a < nN q ∧ V = nI a) → (∀ dd : Dt, mX11_splices_33 x h p (nI i) n dd = (mX0_keep (x + 156) 0 (nI i) (dd.1 (h + 38) i) dd).bind fun y => some (dd.1 (h + 38) i, uI (uI y (h + 38) i V) x 9 0)) → (∀ dd : Dt, mX12_splices_31 m (nI i) n 0 m dd = (mX12_changes m (nI (97 + 16 * i + 5)) V (rf m 0 dd)).bind fun y => some (y.1, y.2)) →
        (mX11_splices x h p (nI i) n d = mX11_splices_33 x h p (nI i) n d) → (∀ dd : Dt, dd.1 m 14 = d.1 m 14 → (∀ k, dd.1 (m + 2) k = d.1 (m + 2) k) → mX12_splices m (nI i) n dd = mX12_splices_31 m (nI i) n 0 m dd) → StQ x h p m d (fun d => mX11_splices x h p (nI i) n d) (fun d => mX12_splices m (nI i) n d) := by
      intro V hV h1 h2 h3 h4
      obtain ⟨d0, d2, g1, g2, g3, g4⟩ := splice_do c2 hi V hV
      refine ⟨d.1 (h + 38) i, uI (uI d0 (h + 38) i V) x 9 0, d2, _, true, ?_, ?_, g3⟩
      · show mX11_splices x h p (nI i) n d = _
        rw [h3, h1, g1, Option.bind_some]
      · show mX12_splices m (nI i) n (uI (uI d0 (h + 38) i V) x 9 0) = _
        rw [h4 _ (by rw [dI_ne (by omega), dI_ne (by omega), g4 _ _ (Or.inl rfl)]) (fun k => by rw [dI_ne (by omega), dI_ne (by omega), g4 _ _ (Or.inr rfl)]), h2, g2, Option.bind_some]
    have net1 : ∀ dd : Dt, dd.1 m 14 = d.1 m 14 → (∀ k, dd.1 (m + 2) k = d.1 (m + 2) k) → mX12_isNet m (nI i) dd = some true := fun dd z1 z2 => by
      rw [show mX12_isNet m (nI i) dd = mX12_isNet m (nI i) d by unfold mX12_isNet; rw [z1, z2], M_isNet s, e]
    by_cases en : n = -1
    · refine go (-2) (Or.inl rfl) (fun dd => ?_) (fun dd => ?_) ?_ (fun dd z1 z2 => ?_)
      · unfold mX11_splices_33
        rw [if_pos (inB_nI (by omega) (by decide)), cl_nI (by omega)]
        refine congrArg _ (funext fun y => ?_)
        rw [if_pos en, if_pos (inB_nI (by omega) (by decide))]; rfl
      · unfold mX12_splices_31
        rw [iR0, if_neg (show ¬ false = true by decide), if_pos en, eA]
      · unfold mX11_splices
        rw [X_isNet s, e, if_pos rfl, if_pos en]
      · unfold mX12_splices
        rw [net1 dd z1 z2, Option.bind_some, if_pos rfl, if_pos en]
    · by_cases e2 : inB n (kN q true) = true
      · obtain ⟨-, a, ha, rfl⟩ := told_of e2
        have nod1 : ∀ dd : Dt, dd.1 m 14 = d.1 m 14 → (∀ k, dd.1 (m + 2) k = d.1 (m + 2) k) → mX12_isNode m (nI a) dd = some true := fun dd z1 z2 => by
          rw [show mX12_isNode m (nI a) dd = mX12_isNode m (nI a) d by unfold mX12_isNode; rw [z1, z2], M_isNode s, e2]
        refine go (nI a) (Or.inr ⟨a, ha, rfl⟩) (fun dd => ?_) (fun dd => ?_) ?_ (fun dd z1 z2 => ?_)
        · unfold mX11_splices_33
          rw [if_pos (inB_nI (by omega) (by decide)), cl_nI (by omega)]
          refine congrArg _ (funext fun y => ?_)
          rw [if_neg en, if_pos (inB_nI (by omega) (by decide))]; rfl
        · unfold mX12_splices_31
          rw [iR0, if_neg (show ¬ false = true by decide), if_neg en, eA]
        · unfold mX11_splices
          rw [X_isNet s, e, if_pos rfl, if_neg en, X_isNode s, e2, if_pos rfl]
        · unfold mX12_splices
          rw [net1 dd z1 z2, Option.bind_some, if_pos rfl, if_neg en, nod1 dd z1 z2, Option.bind_some, if_pos rfl]
      · refine Ans_StQ c2 (Ans_ref i2 (-1) 2 (by decide) ?_ ?_)
        · show mX11_splices x h p (nI i) n d = _
          unfold mX11_splices
          rw [X_isNet s, e, if_pos rfl, if_neg en, X_isNode s, bf e2, if_neg (show ¬ false = true by decide)]; rfl
        · show mX12_splices m (nI i) n (uI d x 9 2) = _
          unfold mX12_splices
          rw [M_isNet (sr 2), Option.bind_some, e, if_pos rfl, if_neg en, M_isNode (sr 2), Option.bind_some, bf e2, if_neg (show ¬ false = true by decide)]
          unfold mX12_splices_31
          rw [iR2, if_pos rfl]
  · refine Ans_StQ c2 (Ans_ref i2 (-1) 1 (by decide) ?_ ?_)
    · show mX11_splices x h p v n d = _
      unfold mX11_splices
      rw [X_isNet s, bf e, if_neg (show ¬ false = true by decide)]; rfl
    · show mX12_splices m v n (uI d x 9 1) = _
      unfold mX12_splices
      rw [M_isNet (sr 1), Option.bind_some, bf e, if_neg (show ¬ false = true by decide)]
      unfold mX12_splices_31
      rw [iR1, if_pos rfl]
