/-! the calls, 5: reach, total, bundle, wire, flaws, flaw -/
theorem Ans_no {x h p m : Nat} {d d0 d2 : Dt} {fx fm : Dt → Option (Int32 × Dt)} (id : Ids x h p m) (t : Int32) (ht : t ≠ 4) (h0 : Ch x m d d0) (h1 : fx d = some (-1, uI d0 x 9 t)) (h2 : fm (uI d0 x 9 t) = some (-1, uI d2 m 1 t)) (h3 : Ch x m (rf m 0 (uI d0 x 9 t)) d2) (h4 : d2.1 x 9 = t) : Ans x m d fx fm := by
  obtain ⟨j1, j2, -⟩ := id
  refine ⟨-1, _, _, h1, Ch_tr h0 (Ch_x9 x m d0 t), h2, Ch_tr h0 (Ch_tr (Ch_x9 x m d0 t) (Ch_tr (Ch_rf2 x m _ 0) (Ch_tr h3 ⟨rfl, fun o k _ _ h5 _ => dI_ne (by omega)⟩))), ?_, ?_⟩
  · rw [dI_ne (Or.inl (by omega)), dI_at, h4]
  · rw [dI_ne (Or.inl (by omega)), h4]; exact ht
theorem rng_l2 {α : Type} (a : Int32) {n : Nat} (hn : n < 2 ^ 30) (A R : α) : (if a < 0 then R else if a < nI n then A else R) = if inB a n = true then A else R := by
  rw [← in_X (n := n) (by omega)]
  by_cases e : a < 0
  · rw [if_pos e, if_neg (by rw [if_pos e]; decide)]
  · rw [if_neg e]
    by_cases e2 : a < nI n
    · rw [if_pos e2, if_pos (by rw [if_neg e, if_neg (Int32.not_le.mpr e2)])]
    · rw [if_neg e2, if_neg (by rw [if_neg e, if_pos (Int32.not_lt.mp e2)]; decide)]
theorem bb (b c : Bool) : (if b2i b = 0 then (false : Bool) else c) = (b && c) := by cases b <;> rfl
theorem q_reach {x h p m : Nat} {d : Dt} {q : Nat → Int32} {b : Bool} (id : Ids x h p m) (s : St x h m d q b) (v n a : Int32) : Ans x m d (fun d => mX11_reach x h p v n a d) (fun d => mX12_reach m v n a d) := by
  refine Ans_var (K := (mX10_pinsThere h v n d).bind fun x11 => (mX10_reachOf h n x11 a d).bind fun r => some (r, uI d x 9 0)) (K' := fun d => (mX12_pinsOf m v n d).bind fun x13 => (mX12_reachOf m n x13 a d).bind fun r => some (r, d)) id s (inB n (kT q b) && inB a (kN q b)) v (-1) ?_ (fun d1 s1 => ?_) (fun hb hc _ => ?_)
  · show mX11_reach x h p v n a d = _
    unfold mX11_reach
    rw [X_isNet s, X_isNode s]
    rw [show b2i (b && (inB n (kT q b) && inB a (kN q b))) = b2i (inB n (kT q b) && inB a (kN q b)) by rw [← Bool.and_assoc, ← and_kT]]
    cases inB n (kT q b) <;> cases inB a (kN q b) <;> rfl
  · show mX12_reach m v n a d1 = _
    unfold mX12_reach
    rw [M_isNet s1, Option.bind_some, M_isNode s1, Option.bind_some]
    cases inB n (kT q b) <;> cases inB a (kN q b) <;> rfl
  · subst hb
    obtain ⟨w, hX, hM⟩ := s.2.2.2 rfl
    obtain ⟨hc1, hc2⟩ := Bool.and_eq_true_iff.mp hc
    obtain ⟨-, i, hi, rfl⟩ := told_of hc1
    obtain ⟨-, j, hj, rfl⟩ := told_of hc2
    have hs := pins_ok w v hi
    have hM0 := MRr id (Ch_x9 x m d 0) hM
    refine Ans_val id (rea q i (pins q v i) j) ?_ ?_
    · rw [X_pinsThere hX w v hi, Option.bind_some, X_reachOf hX w hi hs hj, Option.bind_some]
    · rw [M_pinsOf hM0 w v hi, Option.bind_some, M_reachOf hM0 w hi hs hj, Option.bind_some]
theorem q_total {x h p m : Nat} {d : Dt} {q : Nat → Int32} {b : Bool} (id : Ids x h p m) (s : St x h m d q b) (v g : Int32) : Ans x m d (fun d => mX11_total x h p v g d) (fun d => mX12_total m v g d) := by
  have hin : mX12_in g 0 9 = inB g 10 := in_M2 (n := 9) (by omega)
  refine Ans_var (K := (mX10_lengthOfGauge h v g d).bind fun r => some (r, uI d x 9 0)) (K' := fun d => mX12_total_26 m v g FUEL 0 0 d) id s (inB g 10) v (-1) ?_ (fun d1 s1 => ?_) (fun hb hc _ => ?_)
  · show mX11_total x h p v g d = _
    unfold mX11_total
    rw [s.1, show (if g < 0 then mX11_total_23 x h p v g 0 x h p d else if (9 : Int32) < g then mX11_total_23 x h p v g 0 x h p d else mX11_total_23 x h p v g 1 x h p d) = _ from rng_lt g (n := 9) (by omega) _ _]
    cases b
    · rfl
    · rw [if_neg (show ¬ b2i true = 0 by decide)]
      cases inB g 10 <;> rfl
  · show mX12_total m v g d1 = _
    unfold mX12_total
    rw [hin]
  · subst hb
    obtain ⟨w, hX, hM⟩ := s.2.2.2 rfl
    refine Ans_val id (tot q v g) ?_ (M_tot (MRr id (Ch_x9 x m d 0) hM) w v g)
    rw [X_lengthOfGauge hX w, Option.bind_some]
theorem q_bundle {x h p m : Nat} {d : Dt} {q : Nat → Int32} {b : Bool} (id : Ids x h p m) (s : St x h m d q b) (v n a : Int32) : Ans x m d (fun d => mX11_bundle x h p v n a d) (fun d => mX12_bundle m v n a d) := by
  have hin : mX12_in a 0 2 = inB a 3 := in_M2 (n := 2) (by omega)
  refine Ans_var (K := if a = 0 then ((mX10_countThrough h v n d).bind fun r => some (r, uI d x 9 0)) else ((mX10_bodyThrough h v n d).bind fun x11 => (if a = 1 then some (x11, uI d x 9 0) else ((mX10_roundOf x11).bind fun r => some (r, uI d x 9 0)))))
    (K' := fun d => (mX12_bodyOf m v n d).bind fun x13 => (if a = 1 then some (x13, d) else (if a = 0 then mX12_bundle_62 m v n FUEL 0 0 d else mX12_bundle_101 x13 FUEL 0 d))) id s (bndl n (kN q b) && inB a 3) v (-1) ?_ (fun d1 s1 => ?_) (fun hb hc _ => ?_)
  · show mX11_bundle x h p v n a d = _
    unfold mX11_bundle
    rw [X_isBundle s, show (if a < 0 then mX11_bundle_23 x h p v n a 0 x h p d else if (2 : Int32) < a then mX11_bundle_23 x h p v n a 0 x h p d else mX11_bundle_23 x h p v n a 1 x h p d) = _ from rng_lt a (n := 2) (by omega) _ _]
    rw [show b2i (b && (bndl n (kN q b) && inB a 3)) = b2i (bndl n (kN q b) && inB a 3) by rw [← Bool.and_assoc, ← and_bndl]]
    cases bndl n (kN q b) <;> cases inB a 3 <;> rfl
  · show mX12_bundle m v n a d1 = _
    unfold mX12_bundle
    rw [M_isBundle s1, Option.bind_some, hin]
    cases bndl n (kN q b) <;> cases inB a 3 <;> rfl
  · subst hb
    obtain ⟨w, hX, hM⟩ := s.2.2.2 rfl
    obtain ⟨hc1, hc2⟩ := Bool.and_eq_true_iff.mp hc
    obtain ⟨-, j, hj1, hj, rfl⟩ := told_bndl hc1
    obtain ⟨k, hk, rfl⟩ := in_nI hc2
    have hM0 := MRr id (Ch_x9 x m d 0) hM
    obtain ⟨z, hz, ez⟩ := bod_nI w v j
    have k3 : k = 0 ∨ k = 1 ∨ k = 2 := by omega
    rcases k3 with rfl | rfl | rfl
    · refine Ans_val id (cou q v j) ?_ ?_
      · rw [if_pos (show nI 0 = 0 from rfl), X_countThrough hX w v hj, Option.bind_some]
      · rw [M_bodyOf hM0 w v hj, Option.bind_some, if_neg (show ¬ nI 0 = 1 by decide), if_pos (show nI 0 = 0 from rfl), M_cou hM0 w v hj]
    · refine Ans_val id (bod q v j) ?_ ?_
      · rw [if_neg (show ¬ nI 1 = 0 by decide), X_bodyThrough hX w v hj, Option.bind_some, if_pos (show nI 1 = 1 from rfl)]
      · rw [M_bodyOf hM0 w v hj, Option.bind_some, if_pos (show nI 1 = 1 from rfl)]
    · refine Ans_val id (nI (rnd z)) ?_ ?_
      · rw [if_neg (show ¬ nI 2 = 0 by decide), X_bodyThrough hX w v hj, Option.bind_some, if_neg (show ¬ nI 2 = 1 by decide), ez, X_roundOf hz, Option.bind_some]
      · rw [M_bodyOf hM0 w v hj, Option.bind_some, if_neg (show ¬ nI 2 = 1 by decide), if_neg (show ¬ nI 2 = 0 by decide), ez, M_round hz]
/-- whether there is such a pin -/
def pnb (q : Nat → Int32) (b : Bool) (n k : Int32) : Bool := inB n (kT q b) && inB k (many q n.toNatClampNeg)
theorem X_isPin {x h p m : Nat} {d : Dt} {q : Nat → Int32} {b : Bool} (s : St x h m d q b) (n k : Int32) : mX11_isPin x h p n k d = some (pnb q b n k) := by
  unfold mX11_isPin pnb
  rw [X_isNet s]
  by_cases e : inB n (kT q b) = true
  · obtain ⟨rfl, i, hi, rfl⟩ := told_of e
    obtain ⟨w, hX, -⟩ := s.2.2.2 rfl
    have ht := w.t
    have hm := w.mny hi
    have h2 : d.1 (h + 35) i = nI (many q i) := ((hX.ne.2 i hi).1 2 (by omega)).trans hm.1
    rw [e, if_pos rfl, if_pos (inB_nI (by omega) (by decide)), cl_nI (by omega), h2, Bool.true_and, ← in_X (v := k) (n := many q i) (by omega)]
    by_cases e1 : k < 0
    · rw [if_pos e1, if_pos e1]
    · rw [if_neg e1, if_neg e1]
      by_cases e2 : nI (many q i) ≤ k
      · rw [if_pos e2, if_pos e2]
      · rw [if_neg e2, if_neg e2]
  · rw [bf e]; rfl
theorem M_isPin {x h m : Nat} {d : Dt} {q : Nat → Int32} {b : Bool} (s : St x h m d q b) (n k : Int32) : mX12_isPin m n k d = some (pnb q b n k) := by
  unfold mX12_isPin pnb
  rw [M_isNet s, Option.bind_some]
  by_cases e : inB n (kT q b) = true
  · obtain ⟨rfl, i, hi, rfl⟩ := told_of e
    obtain ⟨w, -, hM⟩ := s.2.2.2 rfl
    have ht := w.t
    have hm := w.mny hi
    rw [e, if_pos rfl, M_netOf hM (c := 2) (k := 2) rfl (by omega) (by omega), Option.bind_some, hm.1, in_M (by omega), cl_nI (by omega), Bool.true_and, ite_b]
  · rw [bf e]; rfl
theorem and_pnb {q : Nat → Int32} {b : Bool} (n k : Int32) : pnb q b n k = (b && pnb q b n k) := by
  unfold pnb
  rw [← Bool.and_assoc, ← and_kT]
theorem q_wire {x h p m : Nat} {d : Dt} {q : Nat → Int32} {b : Bool} (id : Ids x h p m) (s : St x h m d q b) (v n k : Int32) : Ans x m d (fun d => mX11_wire x h p v n k d) (fun d => mX12_wire m v n k d) := by
  have i2 := id
  obtain ⟨j1, j2, j3⟩ := id
  refine Ans_var (K := (mX10_pinsThere h v n d).bind fun x7 => (if (mX10_has x7 k) = true then (if (mX10_countFor x7) = 0 then some (-1, uI d x 9 5) else ((mX10_lengthTo h n x7 k d).bind fun r => some (r, uI d x 9 0))) else some (-1, uI d x 9 5)))
    (K' := fun d => (mX12_pinsOf m v n d).bind fun x9 => (if (mX12_has x9 k) = true then ((mX12_bitsOf x9).bind fun x16 => (if (2 : Int32) ≤ x16 then ((mX12_bitsOf x9).bind fun x19 => (if x19 = (2 : Int32) then ((mX12_lengthOf m n x9 d).bind fun r => some (r, d)) else ((mX12_spliceOf m n x9 d).bind fun x22 => ((mX12_pinNode m n k d).bind fun x24 => ((mX12_farOf m x22 x24 d).bind fun x26 => (if inB (0 : Int32) 267 = true then (if inB (1 : Int32) 267 = true then some (x26 + d.1 (m + 2) (0 : Int32).toNatClampNeg + d.1 (m + 2) (1 : Int32).toNatClampNeg, d) else none) else none)))))) else some (-1, uI d m 1 5))) else some (-1, uI d m 1 5))) i2 s (pnb q b n k) v (-1) ?_ (fun d1 s1 => ?_) (fun hb hc _ => ?_)
  · show mX11_wire x h p v n k d = _
    unfold mX11_wire
    rw [X_isPin s, Option.bind_some, ← and_pnb]
    rfl
  · show mX12_wire m v n k d1 = _
    unfold mX12_wire
    rw [M_isPin s1, Option.bind_some]
    rfl
  · subst hb
    obtain ⟨w, hX, hM⟩ := s.2.2.2 rfl
    obtain ⟨hc1, hc2⟩ := Bool.and_eq_true_iff.mp hc
    obtain ⟨-, i, hi, rfl⟩ := told_of hc1
    have ht := w.t
    rw [cl_nI (by omega)] at hc2
    obtain ⟨k, hk, rfl⟩ := in_nI hc2
    have hm := w.mny hi
    have hs := pins_ok w v hi
    have h5 := pop_5 (pins q v i)
    have hMt : ∀ t, MR m (rf m 0 (uI d x 9 t)) q := fun t => MRr i2 (Ch_x9 x m d t) hM
    have no : ((mX10_pinsThere h v (nI i) d).bind fun x7 => (if (mX10_has x7 (nI k)) = true then (if (mX10_countFor x7) = 0 then some (-1, uI d x 9 5) else ((mX10_lengthTo h (nI i) x7 (nI k) d).bind fun r => some (r, uI d x 9 0))) else some (-1, uI d x 9 5))) = some (-1, uI d x 9 5) →
        ((bit (pins q v i) k = true → pop (pins q v i) < 2)) → Ans x m d (fun _ => (mX10_pinsThere h v (nI i) d).bind fun x7 => (if (mX10_has x7 (nI k)) = true then (if (mX10_countFor x7) = 0 then some (-1, uI d x 9 5) else ((mX10_lengthTo h (nI i) x7 (nI k) d).bind fun r => some (r, uI d x 9 0))) else some (-1, uI d x 9 5))) (fun d1 => (mX12_pinsOf m v (nI i) (rf m 0 d1)).bind fun x9 => (if (mX12_has x9 (nI k)) = true then ((mX12_bitsOf x9).bind fun x16 => (if (2 : Int32) ≤ x16 then ((mX12_bitsOf x9).bind fun x19 => (if x19 = (2 : Int32) then ((mX12_lengthOf m (nI i) x9 (rf m 0 d1)).bind fun r => some (r, (rf m 0 d1))) else ((mX12_spliceOf m (nI i) x9 (rf m 0 d1)).bind fun x22 => ((mX12_pinNode m (nI i) (nI k) (rf m 0 d1)).bind fun x24 => ((mX12_farOf m x22 x24 (rf m 0 d1)).bind fun x26 => (if inB (0 : Int32) 267 = true then (if inB (1 : Int32) 267 = true then some (x26 + (rf m 0 d1).1 (m + 2) (0 : Int32).toNatClampNeg + (rf m 0 d1).1 (m + 2) (1 : Int32).toNatClampNeg, (rf m 0 d1)) else none) else none)))))) else some (-1, uI (rf m 0 d1) m 1 5))) else some (-1, uI (rf m 0 d1) m 1 5))) := by
      intro h1 h2
      refine Ans_no i2 5 (by decide) (Ch_rf x m d) h1 (d2 := rf m 0 (uI d x 9 5)) ?_ (Ch_rf x m _) (by rw [rf_o (by omega), dI_at])
      show ((mX12_pinsOf m v (nI i) (rf m 0 (uI d x 9 5))).bind _) = _
      rw [M_pinsOf (hMt 5) w v hi, Option.bind_some, has12 (by omega), M_bitsOf hs, Option.bind_some]
      by_cases e : bit (pins q v i) k = true
      · rw [if_pos e, if_neg (show ¬ (2 : Int32) ≤ nI (pop (pins q v i)) from nI_ge (h2 e) (by decide))]
      · rw [if_neg e]
    by_cases e : bit (pins q v i) k = true
    · by_cases e2 : pop (pins q v i) < 2
      · refine no ?_ (fun _ => e2)
        rw [X_pinsThere hX w v hi, Option.bind_some, has10 (by omega), if_pos e, X_countFor hs, if_pos e2, if_pos rfl]
      · refine Ans_val i2 (if pop (pins q v i) = 2 then lenS q i (pins q v i) else far q (spl q i (pins q v i)) (pn q i k) + q 0 + q 1) ?_ ?_
        · rw [X_pinsThere hX w v hi, Option.bind_some, has10 (by omega), if_pos e, X_countFor hs, if_neg e2, if_neg (fun z => by
            by_cases e3 : pop (pins q v i) = 2
            · rw [if_pos e3] at z; exact absurd z (by decide)
            · rw [if_neg e3] at z; have := nI_inj (b := 0) (by omega) (by omega) z; omega), X_lengthTo hX w hi hs (by omega) hk, Option.bind_some]
        · show ((mX12_pinsOf m v (nI i) (rf m 0 (uI d x 9 0))).bind _) = _
          rw [M_pinsOf (hMt 0) w v hi, Option.bind_some, has12 (by omega), M_bitsOf hs, Option.bind_some, if_pos e, if_pos (show (2 : Int32) ≤ nI (pop (pins q v i)) from nI_le (show 2 ≤ pop (pins q v i) by omega) (by omega)), Option.bind_some]
          by_cases e3 : pop (pins q v i) = 2
          · rw [if_pos (show nI (pop (pins q v i)) = 2 by rw [e3]; rfl), if_pos e3, M_lengthOf (hMt 0) w hi hs, Option.bind_some]
          · rw [if_neg (show ¬ nI (pop (pins q v i)) = 2 from fun z => e3 (nI_inj (b := 2) (by omega) (by omega) z)), if_neg e3, M_spliceOf (hMt 0) w hi hs, Option.bind_some, if_pos (by omega), M_pinNode (hMt 0) w hi hk, Option.bind_some, M_farOf (hMt 0) w (spl_lt w hi _) (w.pnd hi hk).2, Option.bind_some, if_pos ib0, if_pos ib1, row0 (hMt 0), row1 (hMt 0)]
    · refine no ?_ (fun z => absurd z e)
      rw [X_pinsThere hX w v hi, Option.bind_some, has10 (by omega), if_neg e]
