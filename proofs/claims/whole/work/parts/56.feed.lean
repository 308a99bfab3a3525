/-! about; feed -/
theorem byte8 (y : Int32) : ∃ v, v < 256 ∧ y &&& 255 = nI v ∧ y.toInt8.toInt32 = sx8 v := by
  have h1 : (y &&& 255).toBitVec = y.toBitVec &&& 255#32 := rfl
  have h2 : (y.toBitVec &&& 255#32).toNat = y.toBitVec.toNat % 256 := by
    rw [BitVec.toNat_and]
    exact Nat.and_two_pow_sub_one_eq_mod _ 8
  have hz : y &&& 255 = nI (y.toBitVec.toNat % 256) := by
    apply Int32.toBitVec_inj.mp
    apply BitVec.eq_of_toNat_eq
    rw [h1, h2]
    show _ = (BitVec.ofNat 32 (y.toBitVec.toNat % 256)).toNat
    rw [BitVec.toNat_ofNat]
    exact (Nat.mod_eq_of_lt (a := y.toBitVec.toNat % 256) (b := 2 ^ 32) (by omega)).symm
  refine ⟨y.toBitVec.toNat % 256, by omega, hz, ?_⟩
  unfold sx8
  rw [← hz]
  congr 1
  apply Int8.toBitVec_inj.mp
  apply BitVec.eq_of_getLsbD_eq
  intro i hi
  have h255 : ∀ i, i < 8 → (255#32).getLsbD i = true := by decide
  simp [Int32.toBitVec_toInt8, BitVec.getLsbD_signExtend, h1, h255 i hi]
  have h8 : ∀ i, i < 8 → (255#8).getLsbD i = true := by decide
  exact fun _ _ => h8 i hi
def byX (v : Int32) (i : Nat) : Int32 := ((v >>> ((24 - 8 * nI i) &&& 31)).toInt8.toInt32).toInt8.toInt32
def byM (v : Int32) (i : Nat) : Int32 := (v >>> ((24 - 8 * nI i) &&& 31)) &&& 255
theorem by_ok (v : Int32) (i : Nat) : ∃ u, u < 256 ∧ byM v i = nI u ∧ byX v i = sx8 u := by
  obtain ⟨u, h1, h2, h3⟩ := byte8 (v >>> ((24 - 8 * nI i) &&& 31))
  refine ⟨u, h1, h2, ?_⟩
  unfold byX
  rw [h3]
  unfold sx8
  rw [Int8.toInt8_toInt32]
theorem sh_ok : ∀ i, i < 4 → ¬ (24 : Int32) - 8 * nI i < 0 ∧ (24 : Int32) - 8 * nI i + (-8) = 24 - 8 * nI (i + 1) := by decide +kernel
theorem X_put {x h p : Nat} {d : Dt} (v : Int32) {n : Nat} (hn : n + 4 ≤ 1000) (h1 : d.1 x 1 = nI n) : ∃ d1, mX11_putBytes x h p v d = some d1 ∧ d1.2 = d.2 ∧ (∀ o k, o ≠ x + 1 → (o ≠ x ∨ k ≠ 1) → d1.1 o k = d.1 o k) ∧ d1.1 x 1 = nI (n + 4) ∧ ∀ j, d1.1 (x + 1) j = if n ≤ j ∧ j < n + 4 then byX v (j - n) else d.1 (x + 1) j := by
  obtain ⟨d1, g, ⟨r1, r2, r3, r4⟩, e⟩ := loop_rel (fun n z d => mX11_putBytes_3 x h p v n (24 - 8 * z) d)
    (fun i d1 => d1.2 = d.2 ∧ (∀ o k, o ≠ x + 1 → (o ≠ x ∨ k ≠ 1) → d1.1 o k = d.1 o k) ∧ d1.1 x 1 = nI (n + i) ∧ ∀ j, d1.1 (x + 1) j = if n ≤ j ∧ j < n + i then byX v (j - n) else d.1 (x + 1) j) 4
    (fun fuel i d1 hi hR => by
      obtain ⟨r1, r2, r3, r4⟩ := hR
      obtain ⟨s1, s2⟩ := sh_ok i hi
      show ∃ b, _ ∧ mX11_putBytes_3 x h p v (fuel + 1) (24 - 8 * nI i) d1 = _
      rw [mX11_putBytes_3, if_neg s1, r3, if_neg (show ¬ (1000 : Int32) ≤ nI (n + i) from nI_ge (show n + i < 1000 by omega) (by decide)), if_pos (inB_nI (by omega) (by decide)), cl_nI (by omega), s2]
      refine ⟨_, ⟨?_, fun o k ho hk => ?_, ?_, fun j => ?_⟩, rfl⟩
      · exact r1
      · rw [dI_ne hk, dI_ne (Or.inl ho)]; exact r2 o k ho hk
      · rw [dI_at, dI_ne (Or.inl (by omega)), r3, nI_1]; rfl
      · rw [dI_ne (Or.inl (by omega))]
        by_cases ej : j = n + i
        · subst ej; rw [dI_at, if_pos (by omega), show n + i - n = i by omega]; rfl
        · rw [dI_ne (Or.inr ej), r4]
          by_cases e : n ≤ j ∧ j < n + i
          · rw [if_pos e, if_pos (by omega)]
          · rw [if_neg e, if_neg (by omega)])
    4 0 d FUEL rfl ⟨rfl, fun _ _ _ _ => rfl, h1, fun j => by rw [if_neg (by omega)]⟩ (fuel_big (by omega))
  refine ⟨d1, ?_, r1, r2, r3, r4⟩
  refine Eq.trans e ?_
  show mX11_putBytes_3 x h p v (g + 1) (24 - 8 * nI 4) d1 = _
  rw [mX11_putBytes_3, if_pos (by decide)]
theorem M_lay {m : Nat} {d : Dt} (v : Int32) {n : Nat} (hn : n + 4 ≤ 1000) (h1 : d.1 m 5 = nI n) : ∃ d1, mX12_laysWord m v d = some d1 ∧ d1.2 = d.2 ∧ (∀ o k, o ≠ m + 1 → (o ≠ m ∨ k ≠ 5) → d1.1 o k = d.1 o k) ∧ d1.1 m 5 = nI (n + 4) ∧ ∀ j, d1.1 (m + 1) j = if n ≤ j ∧ j < n + 4 then byM v (j - n) else d.1 (m + 1) j := by
  obtain ⟨d1, g, ⟨r1, r2, r4⟩, e⟩ := loop_rel (fun n z d => mX12_laysWord_2 m v n z d)
    (fun i d1 => d1.2 = d.2 ∧ (∀ o k, o ≠ m + 1 → d1.1 o k = d.1 o k) ∧ ∀ j, d1.1 (m + 1) j = if n ≤ j ∧ j < n + i then byM v (j - n) else d.1 (m + 1) j) 4
    (fun fuel i d1 hi hR => by
      obtain ⟨r1, r2, r4⟩ := hR
      show ∃ b, _ ∧ mX12_laysWord_2 m v (fuel + 1) (nI i) d1 = _
      rw [mX12_laysWord_2, if_neg (show ¬ (4 : Int32) ≤ nI i from nI_ge hi (by decide)), r2 m 5 (by omega), h1, nI_add, if_pos (inB_nI (by omega) (by decide)), cl_nI (by omega), nI_1]
      refine ⟨_, ⟨?_, fun o k ho => ?_, fun j => ?_⟩, rfl⟩
      · exact r1
      · rw [dI_ne (Or.inl ho)]; exact r2 o k ho
      · by_cases ej : j = n + i
        · subst ej; rw [dI_at, if_pos (by omega), show n + i - n = i by omega]; rfl
        · rw [dI_ne (Or.inr ej), r4]
          by_cases e : n ≤ j ∧ j < n + i
          · rw [if_pos e, if_pos (by omega)]
          · rw [if_neg e, if_neg (by omega)])
    4 0 d FUEL rfl ⟨rfl, fun _ _ _ => rfl, fun j => by rw [if_neg (by omega)]⟩ (fuel_big (by omega))
  refine ⟨uI d1 m 5 (nI (n + 4)), ?_, r1, fun o k ho hk => ?_, dI_at _ _ _ _, fun j => ?_⟩
  · refine Eq.trans e ?_
    show mX12_laysWord_2 m v (g + 1) (nI 4) d1 = _
    rw [mX12_laysWord_2, if_pos (by decide), r2 m 5 (by omega), h1, show (4 : Int32) = nI 4 from rfl, nI_add]
  · rw [dI_ne hk]; exact r2 o k ho
  · rw [dI_ne (Or.inl (by omega))]; exact r4 j
def TaP (x m : Nat) (dx dm : Dt) (n : Nat) : Prop := ∀ j, j < n → ∃ v, v < 256 ∧ dm.1 (m + 1) j = nI v ∧ dx.1 (x + 1) j = sx8 v
theorem TaP_s {x m : Nat} {dx dm dx1 dm1 : Dt} {n : Nat} {v : Int32} (h : TaP x m dx dm n) (h1 : ∀ j, dx1.1 (x + 1) j = if n ≤ j ∧ j < n + 4 then byX v (j - n) else dx.1 (x + 1) j) (h2 : ∀ j, dm1.1 (m + 1) j = if n ≤ j ∧ j < n + 4 then byM v (j - n) else dm.1 (m + 1) j) : TaP x m dx1 dm1 (n + 4) := by
  intro j hj
  rw [h1 j, h2 j]
  by_cases e : n ≤ j ∧ j < n + 4
  · rw [if_pos e, if_pos e]; exact by_ok v (j - n)
  · rw [if_neg e, if_neg e]; exact h j (by omega)
theorem s_feed {x h p m : Nat} {d : Dt} {q : Nat → Int32} {b : Bool} (c : CI x h p m d q b) (v1 v2 v3 v4 v5 : Int32) : StQ x h p m d (fun d => mX11_feed x h p v1 v2 v3 v4 v5 d) (fun d => mX12_feed m v1 v2 v3 v4 v5 d) := by
  have c2 := c
  obtain ⟨id, s, e9, e10, e11, ⟨n, t1, t2, t3, t4⟩, nm, ⟨k, a1, a2, a3, a4, a5⟩⟩ := c
  have i2 := id
  obtain ⟨j1, j2, j3⟩ := id
  by_cases e : n ≤ 980
  · obtain ⟨x1, f1, f2, f3, f4, f5⟩ := X_put (x := x) (h := h) (p := p) (d := d) v1 (n := n) (by omega) t2
    obtain ⟨x2, g1, g2, g3, g4, g5⟩ := X_put (x := x) (h := h) (p := p) (d := x1) v2 (n := n + 4) (by omega) f4
    obtain ⟨x3, h1, h2, h3, h4, h5⟩ := X_put (x := x) (h := h) (p := p) (d := x2) v3 (n := n + 4 + 4) (by omega) g4
    obtain ⟨x4, k1, k2, k3, k4, k5⟩ := X_put (x := x) (h := h) (p := p) (d := x3) v4 (n := n + 4 + 4 + 4) (by omega) h4
    obtain ⟨x5, l1, l2, l3, l4, l5⟩ := X_put (x := x) (h := h) (p := p) (d := x4) v5 (n := n + 4 + 4 + 4 + 4) (by omega) k4
    have frX : ∀ o k, o ≠ x + 1 → (o ≠ x ∨ k ≠ 1) → x5.1 o k = d.1 o k := fun o k h1 h2 => by rw [l3 o k h1 h2, k3 o k h1 h2, h3 o k h1 h2, g3 o k h1 h2, f3 o k h1 h2]
    have fr2 : x5.2 = d.2 := by rw [l2, k2, h2, g2, f2]
    have m5 : (uI x5 m 0 0).1 m 5 = nI n := by rw [dI_ne (Or.inr (by omega)), frX _ _ (by omega) (by omega)]; exact t3
    obtain ⟨y1, b1, b2, b3, b4, b5⟩ := M_lay (m := m) (d := uI x5 m 0 0) v1 (n := n) (by omega) m5
    obtain ⟨y2, o1, o2, o3, o4, o5⟩ := M_lay (m := m) (d := y1) v2 (n := n + 4) (by omega) b4
    obtain ⟨y3, p1, p2, p3, p4, p5⟩ := M_lay (m := m) (d := y2) v3 (n := n + 4 + 4) (by omega) o4
    obtain ⟨y4, r1, r2, r3, r4, r5⟩ := M_lay (m := m) (d := y3) v4 (n := n + 4 + 4 + 4) (by omega) p4
    obtain ⟨y5, u1, u2, u3, u4, u5⟩ := M_lay (m := m) (d := y4) v5 (n := n + 4 + 4 + 4 + 4) (by omega) r4
    have frM : ∀ o k, o ≠ m + 1 → (o ≠ m ∨ k ≠ 5) → y5.1 o k = (uI x5 m 0 0).1 o k := fun o k h1 h2 => by rw [u3 o k h1 h2, r3 o k h1 h2, p3 o k h1 h2, o3 o k h1 h2, b3 o k h1 h2]
    have fr3 : y5.2 = d.2 := by rw [u2, r2, p2, o2, b2]; exact fr2
    have tp : TaP x m x5 y5 (n + 4 + 4 + 4 + 4 + 4) := TaP_s (TaP_s (TaP_s (TaP_s (TaP_s (dx := d) (dm := uI x5 m 0 0) (fun j hj => by
      obtain ⟨v, w1, w2, w3⟩ := t4 j hj
      exact ⟨v, w1, by rw [dI_ne (Or.inl (by omega)), frX _ _ (by omega) (by omega)]; exact w2, w3⟩) f5 b5) g5 o5) h5 p5) k5 r5) l5 u5
    have fr : ∀ o k, o ≠ x + 1 → (o ≠ x ∨ k ≠ 1) → o ≠ m + 1 → (o ≠ m ∨ (k ≠ 0 ∧ k ≠ 5)) → y5.1 o k = d.1 o k := fun o k h1 h2 h3 h4 => by rw [frM o k h3 (by omega), dI_ne (by omega), frX o k h1 h2]
    refine ⟨nI (n + 4 + 4 + 4 + 4 + 4), x5, y5, q, b, ?_, ?_, i2, ?_, ?_, ?_, fun z => ?_, ⟨n + 4 + 4 + 4 + 4 + 4, by omega, ?_, u4, fun j hj => ?_⟩, fun hb => ?_, ⟨k, a1, ?_, ?_, a4, fun j hj => ?_⟩⟩
    · show mX11_feed x h p v1 v2 v3 v4 v5 d = _
      unfold mX11_feed
      rw [t2, if_pos (show nI n ≤ 980 from nI_le (b := 980) e (by decide)), f1, Option.bind_some, g1, Option.bind_some, h1, Option.bind_some, k1, Option.bind_some, l1, Option.bind_some, l4]
    · show mX12_feed m v1 v2 v3 v4 v5 x5 = _
      unfold mX12_feed
      rw [m5, if_pos (show nI n ≤ 980 from nI_le (b := 980) e (by decide)), b1, Option.bind_some, o1, Option.bind_some, p1, Option.bind_some, r1, Option.bind_some, u1, Option.bind_some, u4]
    · refine ⟨by rw [fr _ _ (by omega) (by omega) (by omega) (by omega)]; exact s.1, by rw [fr _ _ (by omega) (by omega) (by omega) (by omega)]; exact s.2.1, fun hb => ?_, fun hb => ?_⟩
      · obtain ⟨z1, z2, z3, z4, z5, z6⟩ := s.2.2.1 hb
        exact ⟨by rw [fr _ _ (by omega) (by omega) (by omega) (by omega)]; exact z1, by rw [fr _ _ (by omega) (by omega) (by omega) (by omega)]; exact z2, by rw [fr _ _ (by omega) (by omega) (by omega) (by omega)]; exact z3, by rw [fr _ _ (by omega) (by omega) (by omega) (by omega)]; exact z4, by rw [fr _ _ (by omega) (by omega) (by omega) (by omega)]; exact z5, by rw [fr _ _ (by omega) (by omega) (by omega) (by omega)]; exact z6⟩
      · obtain ⟨w, hX, hM⟩ := s.2.2.2 hb
        exact ⟨w, XR_congr hX (fun o k h1 h2 => fr o k (by omega) (by omega) (by omega) (by omega)) w, fun k hk => by rw [fr _ _ (by omega) (by omega) (by omega) (by omega)]; exact hM k hk⟩
    · rw [fr _ _ (by omega) (by omega) (by omega) (by omega), fr _ _ (by omega) (by omega) (by omega) (by omega)]; exact e9
    · rw [fr _ _ (by omega) (by omega) (by omega) (by omega), fr _ _ (by omega) (by omega) (by omega) (by omega)]; exact e10
    · rw [fr _ _ (by omega) (by omega) (by omega) (by omega)] at z
      rw [fr _ _ (by omega) (by omega) (by omega) (by omega), fr _ _ (by omega) (by omega) (by omega) (by omega)]; exact e11 z
    · rw [frM _ _ (by omega) (by omega), dI_ne (Or.inl (by omega))]; exact l4
    · obtain ⟨v, w1, w2, w3⟩ := tp j hj
      exact ⟨v, w1, w2, by rw [frM _ _ (by omega) (by omega), dI_ne (Or.inl (by omega))]; exact w3⟩
    · obtain ⟨k, z1, z2, z3, z4⟩ := nm hb
      refine ⟨k, z1, by rw [fr _ _ (by omega) (by omega) (by omega) (by omega)]; exact z2, by rw [fr _ _ (by omega) (by omega) (by omega) (by omega)]; exact z3, fun j hj => ⟨by rw [fr3]; exact (z4 j hj).1, ?_⟩⟩
      obtain ⟨v, w1, w2, w3⟩ := (z4 j hj).2
      exact ⟨v, w1, by rw [fr _ _ (by omega) (by omega) (by omega) (by omega)]; exact w2, by rw [fr _ _ (by omega) (by omega) (by omega) (by omega)]; exact w3⟩
    · rw [fr _ _ (by omega) (by omega) (by omega) (by omega)]; exact a2
    · rw [fr _ _ (by omega) (by omega) (by omega) (by omega)]; exact a3
    · have := a5 j hj
      unfold Act at this ⊢
      rw [fr (m + 14) j (by omega) (by omega) (by omega) (by omega), fr (x + 159) j (by omega) (by omega) (by omega) (by omega), fr (x + 157) j (by omega) (by omega) (by omega) (by omega), fr (x + 158) j (by omega) (by omega) (by omega) (by omega), fr (m + 13) j (by omega) (by omega) (by omega) (by omega)]
      exact this
  · have e2 : ¬ nI n ≤ (980 : Int32) := nI_ge (show 980 < n by omega) (by omega)
    refine StQ_m0 c2 (-1) ?_ ?_
    · show mX11_feed x h p v1 v2 v3 v4 v5 d = _
      unfold mX11_feed
      rw [t2, if_neg e2]
    · show mX12_feed m v1 v2 v3 v4 v5 d = _
      unfold mX12_feed
      rw [dI_ne (Or.inr (by omega)), t3, if_neg e2]
