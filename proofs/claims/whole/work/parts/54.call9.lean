/-! the calls, 9: extent, plug, net, pin, build, about -/
theorem q_extent {x h p m : Nat} {d : Dt} {q : Nat → Int32} {b : Bool} (id : Ids x h p m) (s : St x h m d q b) (v : Int32) : Ans x m d (fun d => mX11_extent x h p v d) (fun d => mX12_extent m v d) := by
  have i2 := id
  obtain ⟨j1, j2, j3⟩ := id
  have sr : ∀ t, St x h m (uI d x 9 t) q b := fun t => Ch_St i2 (Ch_x9 x m d t) s
  have hin : mX12_in v 0 3 = inB v 4 := in_M2 (n := 3) (by omega)
  have t0 : mX12_extent_23 m v 0 m (uI d x 9 1) = some (-2147483648, rf m 1 (uI d x 9 1)) := by unfold mX12_extent_23; rw [un0, iR1, if_pos rfl]
  cases b
  · refine Ans_ref i2 (-2147483648) 1 (by decide) ?_ ?_
    · show mX11_extent x h p v d = _
      unfold mX11_extent
      rw [s.1, if_pos b2i_0]; rfl
    · show mX12_extent m v (uI d x 9 1) = _
      unfold mX12_extent
      rw [M_isNode (sr 1), Option.bind_some, show inB 0 (kN q false) = false from inB_0 0, if_neg (show ¬ false = true by decide), t0]
  · obtain ⟨w, hX, hM⟩ := s.2.2.2 rfl
    have hn := w.n
    have h0 : inB 0 (kN q true) = true := inB_nI (j := 0) (n := nN q) (by omega) (by omega)
    by_cases e : inB v 4 = true
    · obtain ⟨k, hk, rfl⟩ := in_nI e
      have hM0 : MR m (rf m 0 (uI d x 9 0)) q := MRr i2 (Ch_x9 x m d 0) hM
      obtain ⟨d2, a1, a2, a3⟩ := M_laysPlaces hM0 w
      have h2 := MFr_x9 i2 a2
      refine Ans_ok i2 (ext q k) (Ch_rf x m d) ?_ (d2 := d2) ?_ (MFr_Ch i2 a2) h2.1 h2.2
      · show mX11_extent x h p (nI k) d = _
        unfold mX11_extent
        have lX := X_leastOf hX.tr w LX (r := h + 7) (fun i hi => (hX.td i hi).1)
        have lY := X_leastOf hX.tr w LY (r := h + 8) (fun i hi => (hX.td i hi).2.1)
        have gX := X_greatestG hX.tr w (pos LX q) (r := h + 7) (fun i hi => (hX.td i hi).1)
        have gY := X_greatestG hX.tr w (pos LY q) (r := h + 8) (fun i hi => (hX.td i hi).2.1)
        rw [s.1, if_neg (show ¬ b2i true = 0 by decide), lX, lY, gX, gY, Option.bind_some, Option.bind_some, Option.bind_some, Option.bind_some]
        have k4 : k = 0 ∨ k = 1 ∨ k = 2 ∨ k = 3 := by omega
        rcases k4 with rfl | rfl | rfl | rfl
        · rw [if_pos (show nI 0 = 0 from rfl)]; rfl
        · rw [if_neg (show ¬ nI 1 = 0 by decide), if_pos (show nI 1 = 1 from rfl)]; rfl
        · rw [if_neg (show ¬ nI 2 = 0 by decide), if_neg (show ¬ nI 2 = 1 by decide), if_pos (show nI 2 = 2 from rfl)]; rfl
        · rw [if_neg (show ¬ nI 3 = 0 by decide), if_neg (show ¬ nI 3 = 1 by decide), if_neg (show ¬ nI 3 = 2 by decide), if_pos (show nI 3 = 3 from rfl)]; rfl
      · show mX12_extent m (nI k) (uI d x 9 0) = _
        unfold mX12_extent
        rw [M_isNode (sr 0), Option.bind_some, h0, if_pos rfl, hin, e, if_pos rfl]
        unfold mX12_extent_23
        rw [un1, iR0, if_neg (show ¬ false = true by decide), a1, Option.bind_some, M_extent (MR_fr hM0 a2) w a3 hk]
    · have e := bf e
      refine Ans_ref i2 (-2147483648) 1 (by decide) ?_ ?_
      · show mX11_extent x h p v d = _
        unfold mX11_extent
        rw [s.1, if_neg (show ¬ b2i true = 0 by decide), if_neg (show ¬ v = 0 from out_ne (j := 0) e (by omega) (by omega)), if_neg (show ¬ v = 1 from out_ne (j := 1) e (by omega) (by omega)), if_neg (show ¬ v = 2 from out_ne (j := 2) e (by omega) (by omega)), if_neg (show ¬ v = 3 from out_ne (j := 3) e (by omega) (by omega))]; rfl
      · show mX12_extent m v (uI d x 9 1) = _
        unfold mX12_extent
        rw [M_isNode (sr 1), Option.bind_some, h0, if_pos rfl, hin, e, if_neg (show ¬ false = true by decide), t0]
/-- one of six rows -/
theorem six {α : Type} {k : Nat} (hk : k < 6) (c0 c1 c2 c3 c4 c5 z : α) : (if nI k = 0 then c0 else if nI k = 1 then c1 else if nI k = 2 then c2 else if nI k = 3 then c3 else if nI k = 4 then c4 else if nI k = 5 then c5 else z) = if k = 0 then c0 else if k = 1 then c1 else if k = 2 then c2 else if k = 3 then c3 else if k = 4 then c4 else c5 := by
  have : k = 0 ∨ k = 1 ∨ k = 2 ∨ k = 3 ∨ k = 4 ∨ k = 5 := by omega
  rcases this with rfl | rfl | rfl | rfl | rfl | rfl <;> rfl
theorem six_out {α : Type} {v : Int32} (e : inB v 6 = false) (c0 c1 c2 c3 c4 c5 z : α) : (if v = 0 then c0 else if v = 1 then c1 else if v = 2 then c2 else if v = 3 then c3 else if v = 4 then c4 else if v = 5 then c5 else z) = z := by
  rw [if_neg (show ¬ v = 0 from out_ne (j := 0) e (by omega) (by omega)), if_neg (show ¬ v = 1 from out_ne (j := 1) e (by omega) (by omega)), if_neg (show ¬ v = 2 from out_ne (j := 2) e (by omega) (by omega)), if_neg (show ¬ v = 3 from out_ne (j := 3) e (by omega) (by omega)), if_neg (show ¬ v = 4 from out_ne (j := 4) e (by omega) (by omega)), if_neg (show ¬ v = 5 from out_ne (j := 5) e (by omega) (by omega))]
theorem q_plug {x h p m : Nat} {d : Dt} {q : Nat → Int32} {b : Bool} (id : Ids x h p m) (s : St x h m d q b) (v a : Int32) : Ans x m d (fun d => mX11_plug x h p v a d) (fun d => mX12_plug m v a d) := by
  have i2 := id
  obtain ⟨j1, j2, j3⟩ := id
  have sr : ∀ t, St x h m (uI d x 9 t) q b := fun t => Ch_St i2 (Ch_x9 x m d t) s
  have hin : mX12_in a 0 5 = inB a 6 := in_M2 (n := 5) (by omega)
  have t0 : mX12_plug_23 m v a 0 m (uI d x 9 1) = some (-1, rf m 1 (uI d x 9 1)) := by unfold mX12_plug_23; rw [un0, iR1, if_pos rfl]
  by_cases e : inB v (kP q b) = true
  · by_cases e2 : inB a 6 = true
    · obtain ⟨rfl, i, hi, rfl⟩ := told_of e
      obtain ⟨k, hk, rfl⟩ := in_nI e2
      obtain ⟨w, hX, hM⟩ := s.2.2.2 rfl
      have hp := w.p
      have hM0 : MR m (rf m 0 (uI d x 9 0)) q := MRr i2 (Ch_x9 x m d 0) hM
      refine Ans_val i2 (q (49 + 6 * i + k)) ?_ ?_
      · show mX11_plug x h p (nI i) (nI k) d = _
        unfold mX11_plug
        have hr := hX.pl.2 i hi k hk
        rw [X_isPlug s, e, if_pos rfl, six hk, cl_nI (show i < 2 ^ 31 by omega), inB_nI (show i < 8 by omega) (by decide)]
        have : k = 0 ∨ k = 1 ∨ k = 2 ∨ k = 3 ∨ k = 4 ∨ k = 5 := by omega
        rcases this with rfl | rfl | rfl | rfl | rfl | rfl <;> exact congrArg (fun z => some (z, uI d x 9 0)) hr
      · show mX12_plug m (nI i) (nI k) (uI d x 9 0) = _
        unfold mX12_plug
        rw [M_isPlug (sr 0), Option.bind_some, e, if_pos rfl, hin, e2, if_pos rfl]
        unfold mX12_plug_23
        rw [un1, iR0, if_neg (show ¬ false = true by decide), M_plugOf hM0 rfl (by omega) hk, Option.bind_some]
    · refine Ans_ref i2 (-1) 1 (by decide) ?_ ?_
      · show mX11_plug x h p v a d = _
        unfold mX11_plug
        rw [X_isPlug s, e, if_pos rfl, six_out (bf e2)]; rfl
      · show mX12_plug m v a (uI d x 9 1) = _
        unfold mX12_plug
        rw [M_isPlug (sr 1), Option.bind_some, e, if_pos rfl, hin, bf e2, if_neg (show ¬ false = true by decide), t0]
  · refine Ans_ref i2 (-1) 1 (by decide) ?_ ?_
    · show mX11_plug x h p v a d = _
      unfold mX11_plug
      rw [X_isPlug s, bf e, if_neg (show ¬ false = true by decide)]; rfl
    · show mX12_plug m v a (uI d x 9 1) = _
      unfold mX12_plug
      rw [M_isPlug (sr 1), Option.bind_some, bf e, if_neg (show ¬ false = true by decide), t0]
theorem q_net {x h p m : Nat} {d : Dt} {q : Nat → Int32} {b : Bool} (id : Ids x h p m) (s : St x h m d q b) (v a : Int32) : Ans x m d (fun d => mX11_net x h p v a d) (fun d => mX12_net m v a d) := by
  have i2 := id
  obtain ⟨j1, j2, j3⟩ := id
  have sr : ∀ t, St x h m (uI d x 9 t) q b := fun t => Ch_St i2 (Ch_x9 x m d t) s
  have hin : mX12_in a 0 5 = inB a 6 := in_M2 (n := 5) (by omega)
  have t0 : mX12_net_23 m v a 0 m (uI d x 9 1) = some (-1, rf m 1 (uI d x 9 1)) := by unfold mX12_net_23; rw [un0, iR1, if_pos rfl]
  by_cases e : inB v (kT q b) = true
  · by_cases e2 : inB a 6 = true
    · obtain ⟨rfl, i, hi, rfl⟩ := told_of e
      obtain ⟨k, hk, rfl⟩ := in_nI e2
      obtain ⟨w, hX, hM⟩ := s.2.2.2 rfl
      have ht := w.t
      have hM0 : MR m (rf m 0 (uI d x 9 0)) q := MRr i2 (Ch_x9 x m d 0) hM
      refine Ans_val i2 (q (97 + 16 * i + k)) ?_ ?_
      · show mX11_net x h p (nI i) (nI k) d = _
        unfold mX11_net
        have hr := (hX.ne.2 i hi).1 k hk
        rw [X_isNet s, e, if_pos rfl, six hk, cl_nI (show i < 2 ^ 31 by omega), inB_nI (show i < 10 by omega) (by decide)]
        have : k = 0 ∨ k = 1 ∨ k = 2 ∨ k = 3 ∨ k = 4 ∨ k = 5 := by omega
        rcases this with rfl | rfl | rfl | rfl | rfl | rfl <;> exact congrArg (fun z => some (z, uI d x 9 0)) hr
      · show mX12_net m (nI i) (nI k) (uI d x 9 0) = _
        unfold mX12_net
        rw [M_isNet (sr 0), Option.bind_some, e, if_pos rfl, hin, e2, if_pos rfl]
        unfold mX12_net_23
        rw [un1, iR0, if_neg (show ¬ false = true by decide), M_netOf hM0 rfl (by omega) (by omega), Option.bind_some]
    · refine Ans_ref i2 (-1) 1 (by decide) ?_ ?_
      · show mX11_net x h p v a d = _
        unfold mX11_net
        rw [X_isNet s, e, if_pos rfl, six_out (bf e2)]; rfl
      · show mX12_net m v a (uI d x 9 1) = _
        unfold mX12_net
        rw [M_isNet (sr 1), Option.bind_some, e, if_pos rfl, hin, bf e2, if_neg (show ¬ false = true by decide), t0]
  · refine Ans_ref i2 (-1) 1 (by decide) ?_ ?_
    · show mX11_net x h p v a d = _
      unfold mX11_net
      rw [X_isNet s, bf e, if_neg (show ¬ false = true by decide)]; rfl
    · show mX12_net m v a (uI d x 9 1) = _
      unfold mX12_net
      rw [M_isNet (sr 1), Option.bind_some, bf e, if_neg (show ¬ false = true by decide), t0]
theorem q_build {x h p m : Nat} {d : Dt} {q : Nat → Int32} {b : Bool} (id : Ids x h p m) (s : St x h m d q b) (v a : Int32) : Ans x m d (fun d => mX11_build x h p v a d) (fun d => mX12_build m v a d) := by
  have i2 := id
  obtain ⟨j1, j2, j3⟩ := id
  have sr : ∀ t, St x h m (uI d x 9 t) q b := fun t => Ch_St i2 (Ch_x9 x m d t) s
  have hin : mX12_in a 0 1 = inB a 2 := in_M2 (n := 1) (by omega)
  have t0 : mX12_build_23 m v a 0 m (uI d x 9 1) = some (-1, rf m 1 (uI d x 9 1)) := by unfold mX12_build_23; rw [un0, iR1, if_pos rfl]
  have xx : mX11_build x h p v a d = if inB v (kB q b) = true then (if inB a 2 = true then (if a = 0 then (if inB v 5 = true then some (d.1 (h + 73) v.toNatClampNeg, uI d x 9 0) else none) else (if inB v 5 = true then some (d.1 (h + 74) v.toNatClampNeg, uI d x 9 0) else none)) else some (-1, uI d x 9 1)) else some (-1, uI d x 9 1) := by
    unfold mX11_build
    rw [X_isBuild s]
    exact congrArg (fun z => if inB v (kB q b) = true then z else some (-1, uI d x 9 1)) (rng_le a (n := 1) (by omega) _ _)
  by_cases e : inB v (kB q b) = true
  · by_cases e2 : inB a 2 = true
    · obtain ⟨rfl, i, hi, rfl⟩ := told_of e
      obtain ⟨k, hk, rfl⟩ := in_nI e2
      obtain ⟨w, hX, hM⟩ := s.2.2.2 rfl
      have hb := w.b
      have hM0 : MR m (rf m 0 (uI d x 9 0)) q := MRr i2 (Ch_x9 x m d 0) hM
      have hr := hX.bu.2 i hi
      refine Ans_val i2 (q (257 + 2 * i + k)) ?_ ?_
      · show mX11_build x h p (nI i) (nI k) d = _
        rw [xx, e, e2, if_pos rfl, if_pos rfl, cl_nI (show i < 2 ^ 31 by omega), if_pos (inB_nI (by omega) (by decide)), if_pos (inB_nI (by omega) (by decide))]
        have k2 : k = 0 ∨ k = 1 := by omega
        rcases k2 with rfl | rfl
        · exact congrArg (fun z => some (z, uI d x 9 0)) hr.1
        · exact congrArg (fun z => some (z, uI d x 9 0)) hr.2
      · show mX12_build m (nI i) (nI k) (uI d x 9 0) = _
        unfold mX12_build
        rw [M_isBuild (sr 0), Option.bind_some, e, if_pos rfl, hin, e2, if_pos rfl]
        unfold mX12_build_23
        rw [un1, iR0, if_neg (show ¬ false = true by decide), show (257 : Int32) + 2 * nI i + nI k = nI (257 + 2 * i + k) by rw [show (257 : Int32) = nI 257 from rfl, show (2 : Int32) = nI 2 from rfl, pk_mul, nI_add, nI_add], if_pos (inB_nI (by omega) (by decide)), cl_nI (by omega), hM0 _ (by omega)]
    · refine Ans_ref i2 (-1) 1 (by decide) ?_ ?_
      · show mX11_build x h p v a d = _
        rw [xx, e, bf e2, if_pos rfl, if_neg (show ¬ false = true by decide)]
      · show mX12_build m v a (uI d x 9 1) = _
        unfold mX12_build
        rw [M_isBuild (sr 1), Option.bind_some, e, if_pos rfl, hin, bf e2, if_neg (show ¬ false = true by decide), t0]
  · refine Ans_ref i2 (-1) 1 (by decide) ?_ ?_
    · show mX11_build x h p v a d = _
      rw [xx, bf e, if_neg (show ¬ false = true by decide)]
    · show mX12_build m v a (uI d x 9 1) = _
      unfold mX12_build
      rw [M_isBuild (sr 1), Option.bind_some, bf e, if_neg (show ¬ false = true by decide), t0]
theorem q_pin {x h p m : Nat} {d : Dt} {q : Nat → Int32} {b : Bool} (id : Ids x h p m) (s : St x h m d q b) (n k a : Int32) : Ans x m d (fun d => mX11_pin x h p n k a d) (fun d => mX12_pin m n k a d) := by
  have i2 := id
  obtain ⟨j1, j2, j3⟩ := id
  have sr : ∀ t, St x h m (uI d x 9 t) q b := fun t => Ch_St i2 (Ch_x9 x m d t) s
  have hin : mX12_in a 0 1 = inB a 2 := in_M2 (n := 1) (by omega)
  have t0 : mX12_pin_24 m n k a 0 m (uI d x 9 1) = some (-1, rf m 1 (uI d x 9 1)) := by unfold mX12_pin_24; rw [un0, iR1, if_pos rfl]
  have xx : mX11_pin x h p n k a d = if pnb q b n k = true then (if inB a 2 = true then (if a = 0 then (if inB n 10 = true then (if inB k 5 = true then some (d.1 (h + 40 + n.toNatClampNeg) k.toNatClampNeg, uI d x 9 0) else none) else none) else (if inB n 10 = true then (if inB k 5 = true then some (d.1 (h + 51 + n.toNatClampNeg) k.toNatClampNeg, uI d x 9 0) else none) else none)) else some (-1, uI d x 9 1)) else some (-1, uI d x 9 1) := by
    unfold mX11_pin
    rw [X_isPin s, Option.bind_some]
    exact congrArg (fun z => if pnb q b n k = true then z else some (-1, uI d x 9 1)) (rng_le a (n := 1) (by omega) _ _)
  by_cases e : pnb q b n k = true
  · by_cases e2 : inB a 2 = true
    · obtain ⟨hc1, hc2⟩ := Bool.and_eq_true_iff.mp e
      obtain ⟨rfl, i, hi, rfl⟩ := told_of hc1
      obtain ⟨w, hX, hM⟩ := s.2.2.2 rfl
      have ht := w.t
      rw [cl_nI (by omega)] at hc2
      obtain ⟨k, hk, rfl⟩ := in_nI hc2
      have hm := w.mny hi
      obtain ⟨a, ha, rfl⟩ := in_nI e2
      have hM0 : MR m (rf m 0 (uI d x 9 0)) q := MRr i2 (Ch_x9 x m d 0) hM
      have hr := (hX.ne.2 i hi).2 k hk
      refine Ans_val i2 (q (97 + 16 * i + (6 + 2 * k + a))) ?_ ?_
      · show mX11_pin x h p (nI i) (nI k) (nI a) d = _
        rw [xx, e, e2, if_pos rfl, if_pos rfl, cl_nI (show i < 2 ^ 31 by omega), cl_nI (show k < 2 ^ 31 by omega), if_pos (inB_nI (by omega) (by decide)), if_pos (inB_nI (by omega) (by decide)), if_pos (inB_nI (by omega) (by decide)), if_pos (inB_nI (by omega) (by decide))]
        have k2 : a = 0 ∨ a = 1 := by omega
        rcases k2 with rfl | rfl
        · exact congrArg (fun z => some (z, uI d x 9 0)) hr.1
        · exact congrArg (fun z => some (z, uI d x 9 0)) hr.2.1
      · show mX12_pin m (nI i) (nI k) (nI a) (uI d x 9 0) = _
        unfold mX12_pin
        rw [M_isPin (sr 0), Option.bind_some, e, if_pos rfl, hin, e2, if_pos rfl]
        unfold mX12_pin_24
        rw [un1, iR0, if_neg (show ¬ false = true by decide), M_netOf hM0 (k := 6 + 2 * k + a) (by rw [show (6 : Int32) = nI 6 from rfl, show (2 : Int32) = nI 2 from rfl, pk_mul, nI_add, nI_add]) (by omega) (by omega), Option.bind_some]
    · refine Ans_ref i2 (-1) 1 (by decide) ?_ ?_
      · show mX11_pin x h p n k a d = _
        rw [xx, e, bf e2, if_pos rfl, if_neg (show ¬ false = true by decide)]
      · show mX12_pin m n k a (uI d x 9 1) = _
        unfold mX12_pin
        rw [M_isPin (sr 1), Option.bind_some, e, if_pos rfl, hin, bf e2, if_neg (show ¬ false = true by decide), t0]
  · refine Ans_ref i2 (-1) 1 (by decide) ?_ ?_
    · show mX11_pin x h p n k a d = _
      rw [xx, bf e, if_neg (show ¬ false = true by decide)]
    · show mX12_pin m n k a (uI d x 9 1) = _
      unfold mX12_pin
      rw [M_isPin (sr 1), Option.bind_some, bf e, if_neg (show ¬ false = true by decide), t0]
