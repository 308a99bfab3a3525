/-! the reference's public loops over q, and what both do with builds -/
theorem M_cou {m : Nat} {d : Dt} {q : Nat → Int32} (hM : MR m d q) (w : WF q) {n : Nat} (v : Int32) (hn : n < nN q) : mX12_bundle_62 m v (nI n) FUEL 0 0 d = some (cou q v n, d) := by
  have ht := w.t
  unfold cou
  exact loop_fo (fun f i t => mX12_bundle_62 m v (nI n) f t i d) _ (fun t => some (t, d)) (nT q) (fun _ _ => True)
    (fun fuel i t hi _ => by
      show mX12_bundle_62 m v (nI n) (fuel + 1) t (nI i) d = _
      rw [mX12_bundle_62, if_pos ib5, row5 hM, ht.1, if_neg (nI_ge hi (by omega)), M_pinsOf hM w v hi, Option.bind_some, M_countOf hM w hi (pins_ok w v hi) hn, Option.bind_some, nI_1])
    (fun _ _ _ _ => trivial)
    (fun fuel t _ => by
      show mX12_bundle_62 m v (nI n) (fuel + 1) t (nI (nT q)) d = _
      rw [mX12_bundle_62, if_pos ib5, row5 hM, ht.1, if_pos (Int32.le_refl _)])
    (nT q) 0 0 FUEL (Nat.zero_add _) trivial (fuel_big (by omega))
theorem M_thr {m : Nat} {d : Dt} {q : Nat → Int32} (hM : MR m d q) (w : WF q) {n : Nat} (v : Int32) (hn : n < nN q) : mX12_through_24 m v (nI n) FUEL 0 0 d = some (thr q v n, d) := by
  have ht := w.t
  unfold thr bset
  exact loop_fo (fun f i t => mX12_through_24 m v (nI n) f t i d) _ (fun t => some (t, d)) (nT q) (fun _ _ => True)
    (fun fuel i t hi _ => by
      show mX12_through_24 m v (nI n) (fuel + 1) t (nI i) d = mX12_through_24 m v (nI n) fuel (if decide (¬ cnt q i (pins q v i) n ≤ 0) = true then _ else t) _ d
      rw [mX12_through_24, if_pos ib5, row5 hM, ht.1, if_neg (nI_ge hi (by omega)), M_pinsOf hM w v hi, Option.bind_some, M_countOf hM w hi (pins_ok w v hi) hn, Option.bind_some, nI_1]
      by_cases e : cnt q i (pins q v i) n ≤ 0
      · rw [if_pos e, if_neg (by simp [e]), Int32.or_zero]
      · rw [if_neg e, if_pos (by simp [e])])
    (fun _ _ _ _ => trivial)
    (fun fuel t _ => by
      show mX12_through_24 m v (nI n) (fuel + 1) t (nI (nT q)) d = _
      rw [mX12_through_24, if_pos ib5, row5 hM, ht.1, if_pos (Int32.le_refl _)])
    (nT q) 0 0 FUEL (Nat.zero_add _) trivial (fuel_big (by omega))
theorem M_tot {m : Nat} {d : Dt} {q : Nat → Int32} (hM : MR m d q) (w : WF q) (v g : Int32) : mX12_total_26 m v g FUEL 0 0 d = some (tot q v g, d) := by
  have ht := w.t
  unfold tot
  exact loop_fo (fun f i t => mX12_total_26 m v g f t i d) _ (fun t => some (t, d)) (nT q) (fun _ _ => True)
    (fun fuel i t hi _ => by
      have tl : mX12_total_53 (mX12_total_26 m v g fuel) m v g (nI i) t d = mX12_total_26 m v g fuel (t + lenS q i (pins q v i)) (nI (i + 1)) d := by
        unfold mX12_total_53
        rw [M_pinsOf hM w v hi, Option.bind_some, M_lengthOf hM w hi (pins_ok w v hi), Option.bind_some, nI_1]
      show mX12_total_26 m v g (fuel + 1) t (nI i) d = mX12_total_26 m v g fuel (if g = 0 ∨ gau q i = g then _ else t) _ d
      rw [mX12_total_26, if_pos ib5, row5 hM, ht.1, if_neg (nI_ge hi (by omega)), tl, M_netOf hM (c := 1) (k := 1) rfl (by omega) (by omega), Option.bind_some, nI_1]
      by_cases e : g = 0
      · rw [if_pos e, if_pos (Or.inl e)]
      · rw [if_neg e]
        by_cases e2 : gau q i = g
        · rw [if_pos (show q (97 + 16 * i + 1) = g from e2), if_pos (Or.inr e2)]
        · rw [if_neg (show ¬ q (97 + 16 * i + 1) = g from e2), if_neg (fun z => z.elim e e2), Int32.add_zero])
    (fun _ _ _ _ => trivial)
    (fun fuel t _ => by
      show mX12_total_26 m v g (fuel + 1) t (nI (nT q)) d = _
      rw [mX12_total_26, if_pos ib5, row5 hM, ht.1, if_pos (Int32.le_refl _)])
    (nT q) 0 0 FUEL (Nat.zero_add _) trivial (fuel_big (by omega))
theorem M_plg {m : Nat} {d : Dt} {q : Nat → Int32} (hM : MR m d q) (w : WF q) (v : Int32) : mX12_plugs_19 m v FUEL 0 0 d = some (plg q v, d) := by
  have hp := w.p
  unfold plg bset
  exact loop_fo (fun f i t => mX12_plugs_19 m v f t i d) _ (fun t => some (t, d)) (nP q) (fun _ _ => True)
    (fun fuel i t hi _ => by
      show mX12_plugs_19 m v (fuel + 1) t (nI i) d = mX12_plugs_19 m v fuel (if thP q i v = true then _ else t) _ d
      rw [mX12_plugs_19, if_pos ib4, row4 hM, hp.1, if_neg (nI_ge hi (by omega)), M_isPlugThere hM v (by omega), Option.bind_some, nI_1]
      by_cases e : thP q i v = true
      · rw [if_pos e, if_pos e]
      · rw [if_neg e, if_neg e, Int32.or_zero])
    (fun _ _ _ _ => trivial)
    (fun fuel t _ => by
      show mX12_plugs_19 m v (fuel + 1) t (nI (nP q)) d = _
      rw [mX12_plugs_19, if_pos ib4, row4 hM, hp.1, if_pos (Int32.le_refl _)])
    (nP q) 0 0 FUEL (Nat.zero_add _) trivial (fuel_big (by omega))
theorem nI_m2 {k : Nat} (h : k < 100) : ¬ nI k = (-2 : Int32) := by
  have : ∀ k, k < 100 → ¬ nI k = (-2 : Int32) := by decide +kernel
  exact this k h
theorem nI_m1 {k : Nat} (h : k < 100) : ¬ nI k = (-1 : Int32) := by
  have : ∀ k, k < 100 → ¬ nI k = (-1 : Int32) := by decide +kernel
  exact this k h
theorem M_thk {m : Nat} {d : Dt} {q : Nat → Int32} (hM : MR m d q) (w : WF q) (v : Int32) : mX12_thickest_20 m v FUEL (-2) 1 d = some (thR q v, d) := by
  have hn := w.n
  obtain ⟨a, g, hR, eq⟩ := loop_rel (fun f j (a : Int32) => mX12_thickest_20 m v f a j d) (fun j a => (j = 1 ∧ a = -2) ∨ (2 ≤ j ∧ a = nI (thk q v (j - 2)))) (nN q)
    (fun fuel j a hj hR => by
      show ∃ b, _ ∧ mX12_thickest_20 m v (fuel + 1) a (nI j) d = _
      rw [mX12_thickest_20, if_pos ib2, row2 hM, hn.1, if_neg (nI_ge hj (by omega)), nI_1]
      rcases hR with ⟨rfl, rfl⟩ | ⟨hj1, rfl⟩
      · rw [if_pos rfl]
        exact ⟨nI 1, Or.inr ⟨by omega, rfl⟩, rfl⟩
      · have hl := thk_lt q v (j - 2)
        rw [if_neg (nI_m2 (by omega)), M_bodyOf hM w v hj, Option.bind_some, M_bodyOf hM w v (by omega), Option.bind_some]
        have st : thk q v (j + 1 - 2) = if bod q v j ≤ bod q v (thk q v (j - 2)) then thk q v (j - 2) else j := by
          obtain ⟨k, rfl⟩ : ∃ k, j = k + 2 := ⟨j - 2, by omega⟩
          rfl
        by_cases e : bod q v j ≤ bod q v (thk q v (j - 2))
        · rw [if_pos e]
          exact ⟨_, Or.inr ⟨by omega, by rw [st, if_pos e]⟩, rfl⟩
        · rw [if_neg e]
          exact ⟨nI j, Or.inr ⟨by omega, by rw [st, if_neg e]⟩, rfl⟩)
    (nN q - 1) 1 (-2) FUEL (by omega) (Or.inl ⟨rfl, rfl⟩) (fuel_big (by omega))
  refine Eq.trans eq ?_
  show mX12_thickest_20 m v (g + 1) a (nI (nN q)) d = _
  rw [mX12_thickest_20, if_pos ib2, row2 hM, hn.1, if_pos (Int32.le_refl _)]
  unfold thR
  rcases hR with ⟨h0, rfl⟩ | ⟨h0, rfl⟩
  · rw [if_pos h0]
  · rw [if_neg (by omega)]
-- builds
def vr (q : Nat → Int32) (b : Nat) : Int32 := q (257 + 2 * b)
def hv (q : Nat → Int32) (b : Nat) : Int32 := q (257 + 2 * b + 1)
theorem M_variantOf {m : Nat} {d : Dt} {q : Nat → Int32} (hM : MR m d q) {b : Nat} (hb : b < 5) : mX12_variantOf m (nI b) d = some (vr q b) := by
  unfold mX12_variantOf
  rw [show (257 : Int32) + 2 * nI b = nI (257 + 2 * b) by rw [show (257 : Int32) = nI 257 from rfl, show (2 : Int32) = nI 2 from rfl, pk_mul, nI_add], if_pos (inB_nI (by omega) (by decide)), cl_nI (by omega), hM _ (by omega)]
  rfl
theorem M_manyOf {m : Nat} {d : Dt} {q : Nat → Int32} (hM : MR m d q) {b : Nat} (hb : b < 5) : mX12_manyOf m (nI b) d = some (hv q b) := by
  unfold mX12_manyOf
  rw [show (257 : Int32) + 2 * nI b + 1 = nI (257 + 2 * b + 1) by rw [show (257 : Int32) = nI 257 from rfl, show (2 : Int32) = nI 2 from rfl, pk_mul, nI_add, nI_1], if_pos (inB_nI (by omega) (by decide)), cl_nI (by omega), hM _ (by omega)]
  rfl
theorem setOk_0 (q : Nat → Int32) (i : Nat) : setOk q i 0 := ⟨⟨0, by omega, rfl⟩, fun k _ hb => by rw [bit_0] at hb; cases hb⟩
theorem setOk_or {q : Nat → Int32} {i : Nat} {s t : Int32} (hs : setOk q i s) (ht : setOk q i t) : setOk q i (s ||| t) := by
  obtain ⟨⟨p, hp, rfl⟩, h1⟩ := hs
  obtain ⟨⟨r, hr, rfl⟩, h2⟩ := ht
  have key : ∀ p, p < 32 → ∀ r, r < 32 → (p ||| r) < 32 ∧ nI p ||| nI r = nI (p ||| r) := by decide +kernel
  refine ⟨⟨p ||| r, (key p hp r hr).1, (key p hp r hr).2⟩, fun k hk hb => ?_⟩
  rw [bit_or] at hb
  rcases Bool.or_eq_true_iff.mp hb with e | e
  · exact h1 k hk e
  · exact h2 k hk e
def cpS (q : Nat → Int32) (B : Int32) (i b : Nat) (t : Int32) : Int32 := if (bit B b && decide (2 ≤ pop (pins q (vr q b) i))) = true then t ||| pins q (vr q b) i else t
def cpn (q : Nat → Int32) (B : Int32) (i : Nat) : Int32 := fo (cpS q B i) 0 (nB q) 0
theorem cpn_ok {q : Nat → Int32} (w : WF q) (B : Int32) {i : Nat} (hi : i < nT q) : setOk q i (cpn q B i) := by
  unfold cpn
  have := fo_ind (f := cpS q B i) (fun _ t => setOk q i t) (nB q) 0 0 (setOk_0 q i) (fun j b _ _ hb => by
    show setOk q i (cpS q B i j b)
    unfold cpS
    split
    · exact setOk_or hb (pins_ok w _ hi)
    · exact hb)
  exact this
theorem X_pinsFor {h : Nat} {d : Dt} {q : Nat → Int32} (x : XR h d q) (w : WF q) (B : Int32) {i : Nat} (hi : i < nT q) : mX2_pinsFor h B (nI i) d = some (cpn q B i) := by
  have hb := w.b
  have rd : d.1 (h + 72) 0 = nI (nB q) := x.bu.1.trans hb.1
  unfold mX2_pinsFor cpn
  exact loop_fo (fun f b t => mX2_pinsFor_5 d h B (nI i) f t b) _ some (nB q) (fun _ _ => True)
    (fun fuel b t hbb _ => by
      have hv : d.1 (h + 73) b = vr q b := (x.bu.2 b hbb).1
      have hs := pins_ok w (vr q b) hi
      show mX2_pinsFor_5 d h B (nI i) (fuel + 1) t (nI b) = mX2_pinsFor_5 d h B (nI i) fuel (cpS q B i b t) _
      rw [mX2_pinsFor_5, rd, if_neg (nI_ge hbb (by omega)), has10 (by omega), if_pos (inB_nI (by omega) (by decide)), cl_nI (by omega), hv, X_pinsThere x w _ hi, Option.bind_some, X_countFor hs, nI_1]
      unfold cpS
      have h5 := pop_5 (pins q (vr q b) i)
      cases bit B b
      · rw [if_neg (by decide)]; rfl
      · rw [if_pos rfl]
        by_cases e1 : pop (pins q (vr q b) i) < 2
        · rw [if_pos e1, if_pos (by decide), if_neg (by simp; omega), Int32.or_zero]
        · rw [if_neg e1, if_neg (by
            by_cases e2 : pop (pins q (vr q b) i) = 2
            · rw [if_pos e2]; decide
            · rw [if_neg e2]; exact nI_ge (show 0 < pop (pins q (vr q b) i) by omega) (by omega)), if_pos (by simp; omega)])
    (fun _ _ _ _ => trivial)
    (fun fuel t _ => by
      show mX2_pinsFor_5 d h B (nI i) (fuel + 1) t (nI (nB q)) = _
      rw [mX2_pinsFor_5, rd, if_pos (Int32.le_refl _)])
    (nB q) 0 0 FUEL (Nat.zero_add _) trivial (fuel_big (by omega))
theorem M_commonPinsOf {m : Nat} {d : Dt} {q : Nat → Int32} (hM : MR m d q) (w : WF q) (B : Int32) {i : Nat} (hi : i < nT q) : mX12_commonPinsOf m B (nI i) d = some (cpn q B i) := by
  have hb := w.b
  unfold mX12_commonPinsOf cpn
  exact loop_fo (fun f b t => mX12_commonPinsOf_5 d m B (nI i) f t b) _ some (nB q) (fun _ _ => True)
    (fun fuel b t hbb _ => by
      have hs := pins_ok w (vr q b) hi
      have h5 := pop_5 (pins q (vr q b) i)
      show mX12_commonPinsOf_5 d m B (nI i) (fuel + 1) t (nI b) = mX12_commonPinsOf_5 d m B (nI i) fuel (cpS q B i b t) _
      rw [mX12_commonPinsOf_5, if_pos ib6, row6 hM, hb.1, if_neg (nI_ge hbb (by omega)), has12 (by omega), M_variantOf hM (by omega), Option.bind_some, M_pinsOf hM w _ hi, Option.bind_some]
      unfold mX12_commonPinsOf_41 cpS
      rw [M_bitsOf hs, Option.bind_some, nI_1]
      cases bit B b
      · rw [if_neg (by decide)]
        rw [show mX12_bitsOf 0 = some 0 from rfl, Option.bind_some, if_pos (by decide), Int32.or_zero]; rfl
      · rw [if_pos rfl]
        by_cases e1 : pop (pins q (vr q b) i) ≤ 1
        · rw [if_pos (show nI (pop (pins q (vr q b) i)) ≤ 1 from nI_le (b := 1) e1 (by omega)), if_neg (by simp; omega), Int32.or_zero]
        · rw [if_neg (show ¬ nI (pop (pins q (vr q b) i)) ≤ 1 from nI_ge (show 1 < pop (pins q (vr q b) i) by omega) (by omega)), if_pos (by simp; omega)])
    (fun _ _ _ _ => trivial)
    (fun fuel t _ => by
      show mX12_commonPinsOf_5 d m B (nI i) (fuel + 1) t (nI (nB q)) = _
      rw [mX12_commonPinsOf_5, if_pos ib6, row6 hM, hb.1, if_pos (Int32.le_refl _)])
    (nB q) 0 0 FUEL (Nat.zero_add _) trivial (fuel_big (by omega))
def com (q : Nat → Int32) (B : Int32) : Int32 := fo (fun i t => t + lenS q i (cpn q B i)) 0 (nT q) 0
theorem X_lengthFor {h : Nat} {d : Dt} {q : Nat → Int32} (x : XR h d q) (w : WF q) (B : Int32) : mX2_lengthFor h B d = some (com q B) := by
  have ht := w.t
  unfold mX2_lengthFor com
  exact loop_fo (fun f i t => mX2_lengthFor_4 d h B f t i) _ some (nT q) (fun _ _ => True)
    (fun fuel i t hi _ => by
      show mX2_lengthFor_4 d h B (fuel + 1) t (nI i) = _
      rw [mX2_lengthFor_4, X_countNets x w, if_neg (nI_ge hi (by omega)), X_pinsFor x w B hi, Option.bind_some, X_lengthOf x w hi (cpn_ok w B hi), Option.bind_some, nI_1])
    (fun _ _ _ _ => trivial)
    (fun fuel t _ => by
      show mX2_lengthFor_4 d h B (fuel + 1) t (nI (nT q)) = _
      rw [mX2_lengthFor_4, X_countNets x w, if_pos (Int32.le_refl _)])
    (nT q) 0 0 FUEL (Nat.zero_add _) trivial (fuel_big (by omega))
theorem M_commonOf {m : Nat} {d : Dt} {q : Nat → Int32} (hM : MR m d q) (w : WF q) (B : Int32) : mX12_commonOf m B d = some (com q B) := by
  have ht := w.t
  unfold mX12_commonOf com
  exact loop_fo (fun f i t => mX12_commonOf_4 d m B f t i) _ some (nT q) (fun _ _ => True)
    (fun fuel i t hi _ => by
      show mX12_commonOf_4 d m B (fuel + 1) t (nI i) = _
      rw [mX12_commonOf_4, if_pos ib5, row5 hM, ht.1, if_neg (nI_ge hi (by omega)), M_commonPinsOf hM w B hi, Option.bind_some, M_lengthOf hM w hi (cpn_ok w B hi), Option.bind_some, nI_1])
    (fun _ _ _ _ => trivial)
    (fun fuel t _ => by
      show mX12_commonOf_4 d m B (fuel + 1) t (nI (nT q)) = _
      rw [mX12_commonOf_4, if_pos ib5, row5 hM, ht.1, if_pos (Int32.le_refl _)])
    (nT q) 0 0 FUEL (Nat.zero_add _) trivial (fuel_big (by omega))
def giv (q : Nat → Int32) (B : Int32) : Int32 := fo (fun b t => if bit B b = true then t + (com q B - com q ((1 : Int32) <<< (nI b &&& 31))) * hv q b else t) 0 (nB q) 0
theorem X_givenBy {h : Nat} {d : Dt} {q : Nat → Int32} (x : XR h d q) (w : WF q) (B : Int32) : mX2_givenBy h B d = some (giv q B) := by
  have hb := w.b
  have rd : d.1 (h + 72) 0 = nI (nB q) := x.bu.1.trans hb.1
  unfold mX2_givenBy giv
  rw [X_lengthFor x w, Option.bind_some]
  exact loop_fo (fun f b t => mX2_givenBy_11 d h B (com q B) f t b) _ some (nB q) (fun _ _ => True)
    (fun fuel b t hbb _ => by
      have hv2 : d.1 (h + 74) b = hv q b := (x.bu.2 b hbb).2
      show mX2_givenBy_11 d h B (com q B) (fuel + 1) t (nI b) = mX2_givenBy_11 d h B (com q B) fuel (if bit B b = true then _ else t) _
      rw [mX2_givenBy_11, rd, if_neg (nI_ge hbb (by omega)), has10 (by omega), X_lengthFor x w, Option.bind_some, if_pos (inB_nI (by omega) (by decide)), cl_nI (by omega), hv2, nI_1]
      by_cases e : bit B b = true
      · rw [if_pos e, if_pos e]
      · rw [if_neg e, if_neg e])
    (fun _ _ _ _ => trivial)
    (fun fuel t _ => by
      show mX2_givenBy_11 d h B (com q B) (fuel + 1) t (nI (nB q)) = _
      rw [mX2_givenBy_11, rd, if_pos (Int32.le_refl _)])
    (nB q) 0 0 FUEL (Nat.zero_add _) trivial (fuel_big (by omega))
theorem M_giv {m : Nat} {d : Dt} {q : Nat → Int32} (hM : MR m d q) (w : WF q) (B : Int32) : mX12_given_28 m B (com q B) FUEL 0 0 d = some (giv q B, d) := by
  have hb := w.b
  unfold giv
  exact loop_fo (fun f b t => mX12_given_28 m B (com q B) f t b d) _ (fun t => some (t, d)) (nB q) (fun _ _ => True)
    (fun fuel b t hbb _ => by
      show mX12_given_28 m B (com q B) (fuel + 1) t (nI b) d = mX12_given_28 m B (com q B) fuel (if bit B b = true then _ else t) _ d
      rw [mX12_given_28, if_pos ib6, row6 hM, hb.1, if_neg (nI_ge hbb (by omega)), has12 (by omega), M_commonOf hM w, Option.bind_some, M_manyOf hM (by omega), Option.bind_some, nI_1]
      by_cases e : bit B b = true
      · rw [if_pos e, if_pos e]
      · rw [if_neg e, if_neg e, Int32.add_zero])
    (fun _ _ _ _ => trivial)
    (fun fuel t _ => by
      show mX12_given_28 m B (com q B) (fuel + 1) t (nI (nB q)) d = _
      rw [mX12_given_28, if_pos ib6, row6 hM, hb.1, if_pos (Int32.le_refl _)])
    (nB q) 0 0 FUEL (Nat.zero_add _) trivial (fuel_big (by omega))
