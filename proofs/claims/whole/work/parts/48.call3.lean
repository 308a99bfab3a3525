/-! the calls, 3: meet, meetings, lying, extent, span, way -/
theorem q_meet {x h p m : Nat} {d : Dt} {q : Nat → Int32} {b : Bool} (id : Ids x h p m) (s : St x h m d q b) (v a : Int32) : Ans x m d (fun d => mX11_meet x h p v a d) (fun d => mX12_meet m v a d) := by
  have i2 := id
  obtain ⟨j1, j2, j3⟩ := id
  have sr : ∀ t, St x h m (uI d x 9 t) q b := fun t => Ch_St i2 (Ch_x9 x m d t) s
  have t0 : mX12_meet_27 m v a 0 m (uI d x 9 1) = some (-1, rf m 1 (uI d x 9 1)) := by unfold mX12_meet_27; rw [un0, iR1, if_pos rfl]
  by_cases e : bndl v (kN q b) = true
  · by_cases e2 : bndl a (kN q b) = true
    · by_cases e3 : v = a
      · refine Ans_ref i2 (-1) 1 (by decide) ?_ ?_
        · show mX11_meet x h p v a d = _
          unfold mX11_meet
          rw [X_isBundle s, X_isBundle s, e, e2, if_pos rfl, if_pos rfl, if_pos e3]; rfl
        · show mX12_meet m v a (uI d x 9 1) = _
          unfold mX12_meet
          rw [M_isBundle (sr 1), Option.bind_some, M_isBundle (sr 1), Option.bind_some, e, e2, if_pos rfl, if_pos rfl, if_pos e3, t0]
      · obtain ⟨rfl, j, hj1, hj, rfl⟩ := told_bndl e
        obtain ⟨-, k, hk1, hk, rfl⟩ := told_bndl e2
        obtain ⟨w, hX, hM⟩ := s.2.2.2 rfl
        have hn := w.n
        have hM0 : MR m (rf m 0 (uI d x 9 0)) q := Ch_MR i2 (Ch_tr (Ch_x9 x m d 0) (Ch_rf2 x m _ 0)) hM
        obtain ⟨d2, a1, a2, a3⟩ := M_laysPlaces hM0 w
        have h2 := MFr_x9 i2 a2
        refine Ans_ok i2 (if mt q j k = true then 1 else 0) (Ch_rf x m d) ?_ (d2 := d2) ?_ (MFr_Ch i2 a2) h2.1 h2.2
        · show mX11_meet x h p (nI j) (nI k) d = _
          unfold mX11_meet
          rw [X_isBundle s, X_isBundle s, e, e2, if_pos rfl, if_pos rfl, if_neg e3, X_crosses hX.tr hX.td w hj1 hj hk1 hk, Option.bind_some]
          cases mt q j k <;> rfl
        · show mX12_meet m (nI j) (nI k) (uI d x 9 0) = _
          unfold mX12_meet
          rw [M_isBundle (sr 0), Option.bind_some, M_isBundle (sr 0), Option.bind_some, e, e2, if_pos rfl, if_pos rfl, if_neg e3]
          unfold mX12_meet_27
          rw [un1, iR0, if_neg (show ¬ false = true by decide), a1, Option.bind_some, M_doMeet (MR_fr hM0 a2) w a3 hj1 hj hk1 hk, Option.bind_some]
          cases mt q j k <;> rfl
    · refine Ans_ref i2 (-1) 1 (by decide) ?_ ?_
      · show mX11_meet x h p v a d = _
        unfold mX11_meet
        rw [X_isBundle s, X_isBundle s, e, bf e2, if_pos rfl, if_neg (show ¬ false = true by decide)]; rfl
      · show mX12_meet m v a (uI d x 9 1) = _
        unfold mX12_meet
        rw [M_isBundle (sr 1), Option.bind_some, M_isBundle (sr 1), Option.bind_some, e, bf e2, if_pos rfl, if_neg (show ¬ false = true by decide), t0]
  · refine Ans_ref i2 (-1) 1 (by decide) ?_ ?_
    · show mX11_meet x h p v a d = _
      unfold mX11_meet
      rw [X_isBundle s, bf e, if_neg (show ¬ false = true by decide)]; rfl
    · show mX12_meet m v a (uI d x 9 1) = _
      unfold mX12_meet
      rw [M_isBundle (sr 1), Option.bind_some, bf e, if_neg (show ¬ false = true by decide), t0]
theorem q_meetings {x h p m : Nat} {d : Dt} {q : Nat → Int32} {b : Bool} (id : Ids x h p m) (s : St x h m d q b) : Ans x m d (fun d => mX11_meetings x h p d) (fun d => mX12_meetings m d) := by
  have i2 := id
  obtain ⟨j1, j2, j3⟩ := id
  have sr : ∀ t, St x h m (uI d x 9 t) q b := fun t => Ch_St i2 (Ch_x9 x m d t) s
  cases b
  · refine Ans_ref i2 (-1) 1 (by decide) ?_ ?_
    · show mX11_meetings x h p d = _
      unfold mX11_meetings
      rw [s.1, if_pos b2i_0]; rfl
    · show mX12_meetings m (uI d x 9 1) = _
      unfold mX12_meetings
      rw [(sr 1).2.1, b2i_0, un0, iR1, if_pos rfl]
  · obtain ⟨w, hX, hM⟩ := s.2.2.2 rfl
    have hM0 : MR m (rf m 0 (uI d x 9 0)) q := Ch_MR i2 (Ch_tr (Ch_x9 x m d 0) (Ch_rf2 x m _ 0)) hM
    obtain ⟨d2, a1, a2, a3⟩ := M_laysPlaces hM0 w
    have h2 := MFr_x9 i2 a2
    refine Ans_ok i2 (nI (sN (fun a => cN (mt q a) (a + 1) (nN q - 1 - a)) 1 (nN q - 1))) (Ch_rf x m d) ?_ (d2 := d2) ?_ (MFr_Ch i2 a2) h2.1 h2.2
    · show mX11_meetings x h p d = _
      unfold mX11_meetings
      rw [s.1, b2i_1, if_neg (show ¬ (1 : Int32) = 0 by decide), X_countCrossings hX.tr hX.td w, Option.bind_some]; rfl
    · show mX12_meetings m (uI d x 9 0) = _
      unfold mX12_meetings
      rw [(sr 0).2.1, b2i_1, un1, iR0, if_neg (show ¬ false = true by decide), a1, Option.bind_some, M_meetings (MR_fr hM0 a2) w a3]
theorem q_lying {x h p m : Nat} {d : Dt} {q : Nat → Int32} {b : Bool} (id : Ids x h p m) (s : St x h m d q b) (v a : Int32) : Ans x m d (fun d => mX11_lying x h p v a d) (fun d => mX12_lying m v a d) := by
  have i2 := id
  obtain ⟨j1, j2, j3⟩ := id
  have sr : ∀ t, St x h m (uI d x 9 t) q b := fun t => Ch_St i2 (Ch_x9 x m d t) s
  cases b
  · refine Ans_ref i2 (-1) 1 (by decide) ?_ ?_
    · show mX11_lying x h p v a d = _
      unfold mX11_lying
      rw [s.1, if_pos b2i_0]; rfl
    · show mX12_lying m v a (uI d x 9 1) = _
      unfold mX12_lying
      rw [(sr 1).2.1, b2i_0, un0, iR1, if_pos rfl]
  · obtain ⟨w, hX, hM⟩ := s.2.2.2 rfl
    have hM0 : MR m (rf m 0 (uI d x 9 0)) q := Ch_MR i2 (Ch_tr (Ch_x9 x m d 0) (Ch_rf2 x m _ 0)) hM
    obtain ⟨d2, a1, a2, a3⟩ := M_laysPlaces hM0 w
    have h2 := MFr_x9 i2 a2
    refine Ans_ok i2 (lyi q v a) (Ch_rf x m d) ?_ (d2 := d2) ?_ (MFr_Ch i2 a2) h2.1 h2.2
    · show mX11_lying x h p v a d = _
      unfold mX11_lying
      rw [s.1, b2i_1, if_neg (show ¬ (1 : Int32) = 0 by decide), X_bundlesOn hX.tr hX.td w, Option.bind_some]; rfl
    · show mX12_lying m v a (uI d x 9 0) = _
      unfold mX12_lying
      rw [(sr 0).2.1, b2i_1, un1, iR0, if_neg (show ¬ false = true by decide), a1, Option.bind_some, M_lying (MR_fr hM0 a2) w a3]
theorem q_span {x h p m : Nat} {d : Dt} {q : Nat → Int32} {b : Bool} (id : Ids x h p m) (s : St x h m d q b) : Ans x m d (fun d => mX11_span x h p d) (fun d => mX12_span m d) := by
  have i2 := id
  obtain ⟨j1, j2, j3⟩ := id
  have sr : ∀ t, St x h m (uI d x 9 t) q b := fun t => Ch_St i2 (Ch_x9 x m d t) s
  cases b
  · refine Ans_ref i2 (-1) 1 (by decide) ?_ ?_
    · show mX11_span x h p d = _
      unfold mX11_span
      rw [s.1, if_pos b2i_0]; rfl
    · show mX12_span m (uI d x 9 1) = _
      unfold mX12_span
      rw [(sr 1).2.1, b2i_0, un0, iR1, if_pos rfl]
  · obtain ⟨w, hX, hM⟩ := s.2.2.2 rfl
    have hM0 : MR m (rf m 0 (uI d x 9 0)) q := Ch_MR i2 (Ch_tr (Ch_x9 x m d 0) (Ch_rf2 x m _ 0)) hM
    obtain ⟨r, r1, r2⟩ := X_span hX.tr hX.td w
    obtain ⟨r', r1', r2'⟩ := M_span hM0 w
    obtain rfl := MxOf_uni r2 r2'
    refine Ans_val i2 r ?_ ?_
    · show mX11_span x h p d = _
      unfold mX11_span
      rw [s.1, b2i_1, if_neg (show ¬ (1 : Int32) = 0 by decide), r1, Option.bind_some]; rfl
    · show mX12_span m (uI d x 9 0) = _
      unfold mX12_span
      rw [(sr 0).2.1, b2i_1, un1, iR0, if_neg (show ¬ false = true by decide), r1']
theorem q_way {x h p m : Nat} {d : Dt} {q : Nat → Int32} {b : Bool} (id : Ids x h p m) (s : St x h m d q b) (v a k : Int32) : Ans x m d (fun d => mX11_way x h p v a k d) (fun d => mX12_way m v a k d) := by
  have i2 := id
  obtain ⟨j1, j2, j3⟩ := id
  have sr : ∀ t, St x h m (uI d x 9 t) q b := fun t => Ch_St i2 (Ch_x9 x m d t) s
  have t0 : mX12_way_26 m v a k 0 m (uI d x 9 1) = some (-1, rf m 1 (uI d x 9 1)) := by unfold mX12_way_26; rw [un0, iR1, if_pos rfl]
  by_cases e : inB v (kN q b) = true
  · by_cases e2 : inB a (kN q b) = true
    · obtain ⟨rfl, j, hj, rfl⟩ := told_of e
      obtain ⟨-, i, hi, rfl⟩ := told_of e2
      obtain ⟨w, hX, hM⟩ := s.2.2.2 rfl
      have hn := w.n
      have rd : d.1 (h + 3) 0 = nI (nN q) := hX.tr.1.trans hn.1
      by_cases e3 : k < 0
      · refine Ans_ref i2 (-1) 1 (by decide) ?_ ?_
        · show mX11_way x h p (nI j) (nI i) k d = _
          unfold mX11_way mX9_onTheWay
          rw [X_isNode s, X_isNode s, e, e2, if_pos rfl, if_pos rfl, if_pos e3, Option.bind_some, if_neg (show ¬ (0 : Int32) ≤ -1 by decide)]; rfl
        · show mX12_way m (nI j) (nI i) k (uI d x 9 1) = _
          unfold mX12_way
          rw [M_isNode (sr 1), Option.bind_some, M_isNode (sr 1), Option.bind_some, e, e2, if_pos rfl, if_pos rfl, if_pos e3, t0]
      · have hk : ∃ K, K < 2 ^ 31 ∧ k = nI K := by
          refine in_nI (n := 2 ^ 31) ?_
          have hc : k.toNatClampNeg = k.toInt.toNat := rfl
          have hl := Int32.toInt_lt k
          simp only [inB, Bool.and_eq_true, Bool.not_eq_true', decide_eq_false_iff_not, decide_eq_true_eq]
          exact ⟨e3, by omega⟩
        obtain ⟨K, hK, rfl⟩ := hk
        have mm : ∀ d1, St x h m d1 q true → mX12_way m (nI j) (nI i) (nI K) d1 = mX12_way_43 m (nI i) (nI K) FUEL (nI j) (nI 0) (rf m 0 d1) := by
          intro d1 s1
          unfold mX12_way
          rw [M_isNode s1, Option.bind_some, M_isNode s1, Option.bind_some, e, e2, if_pos rfl, if_pos rfl, if_neg e3]
          unfold mX12_way_26
          rw [un1, iR0, if_neg (show ¬ false = true by decide)]
          rfl
        -- what the reference says if it comes to its end
        have no : ∀ d1, mX12_no m 1 (rf m 0 d1) = (-1, uI (rf m 0 d1) m 1 1) := fun d1 => rfl
        have ans1 : mX11_way x h p (nI j) (nI i) (nI K) d = some (-1, uI d x 9 1) → mX12_way_43 m (nI i) (nI K) FUEL (nI j) (nI 0) (rf m 0 (uI d x 9 1)) = some ((mX12_no m 1 (rf m 0 (uI d x 9 1))).1, (mX12_no m 1 (rf m 0 (uI d x 9 1))).2) → Ans x m d (fun d => mX11_way x h p (nI j) (nI i) (nI K) d) (fun d => mX12_way m (nI j) (nI i) (nI K) d) := by
          intro h1 h2
          refine ⟨-1, _, uI (rf m 0 (uI d x 9 1)) m 1 1, h1, Ch_x9 x m d 1, (mm _ (sr 1)).trans h2, ?_, ?_, ?_⟩
          · refine Ch_tr (Ch_x9 x m d 1) (Ch_tr (Ch_rf2 x m _ 0) ⟨rfl, fun o k _ _ h3 _ => dI_ne (by omega)⟩)
          · rw [dI_ne (Or.inl (by omega)), rf_o (by omega), dI_at, dI_at]
          · rw [dI_ne (Or.inl (by omega)), rf_o (by omega), dI_at]; decide
        by_cases e4 : K < nN q
        · have hMr : ∀ t, MR m (rf m 0 (uI d x 9 t)) q := fun t => Ch_MR i2 (Ch_tr (Ch_x9 x m d t) (Ch_rf2 x m _ 0)) hM
          have xx : mX11_way x h p (nI j) (nI i) (nI K) d = ((mX9_onTheWay_20 d (h + 3) (nI i) (nI K) FUEL (nI j) (nI 0)).bind fun x10 => (if 0 ≤ x10 then some (x10, uI d x 9 0) else some (-1, uI d x 9 1))) := by
            unfold mX11_way mX9_onTheWay
            rw [X_isNode s, X_isNode s, e, e2, if_pos rfl, if_pos rfl, if_neg e3, rd, if_pos ((nI_ltI (by omega) (by omega)).mpr e4)]
            rfl
          obtain ⟨r, r1, r2⟩ := way_short (d2 := rf m 0 (uI d x 9 1)) hX.tr hX.td (hMr 1) w hi e4 K 0 j FUEL FUEL (Nat.zero_add _) hj (fuel_big (by omega)) (fuel_big (by omega))
          rcases r2 with ⟨rfl, r3⟩ | ⟨c, hc, rfl, -⟩
          · refine ans1 ?_ r3
            rw [xx, r1, Option.bind_some, if_neg (show ¬ (0 : Int32) ≤ -1 by decide)]
          · obtain ⟨r', r1', r2'⟩ := way_short (d2 := rf m 0 (uI d x 9 0)) hX.tr hX.td (hMr 0) w hi e4 K 0 j FUEL FUEL (Nat.zero_add _) hj (fuel_big (by omega)) (fuel_big (by omega))
            have er : nI c = r' := Option.some.inj (r1.symm.trans r1')
            subst er
            rcases r2' with ⟨z, -⟩ | ⟨c', hc', ec, r3⟩
            · exact absurd z (nI_m1 (by omega))
            · refine Ans_val i2 (nI c) ?_ ?_
              · show mX11_way x h p (nI j) (nI i) (nI K) d = _
                rw [xx, r1, Option.bind_some, if_pos (show (0 : Int32) ≤ nI c from nI_le (a := 0) (by omega) (by omega))]
              · show mX12_way m (nI j) (nI i) (nI K) (uI d x 9 0) = _
                rw [mm _ (sr 0), r3, ec]
        · refine ans1 ?_ ?_
          · unfold mX11_way mX9_onTheWay
            rw [X_isNode s, X_isNode s, e, e2, if_pos rfl, if_pos rfl, if_neg e3, rd, if_neg (fun z => e4 ((nI_ltI (by omega) (by omega)).mp z)), Option.bind_some, if_neg (show ¬ (0 : Int32) ≤ -1 by decide)]; rfl
          · have hl := cN_le (fun x => anc q j x != anc q i x) (nN q - 1) 1
            have hl2 : dN q j i ≤ nN q - 1 := hl
            exact way_long (Ch_MR i2 (Ch_tr (Ch_x9 x m d 1) (Ch_rf2 x m _ 0)) hM) w hi hK (dN q j i) 0 j FUEL rfl (by omega) hj (fuel_big (by omega))
    · refine Ans_ref i2 (-1) 1 (by decide) ?_ ?_
      · show mX11_way x h p v a k d = _
        unfold mX11_way
        rw [X_isNode s, X_isNode s, e, bf e2, if_pos rfl, if_neg (show ¬ false = true by decide)]; rfl
      · show mX12_way m v a k (uI d x 9 1) = _
        unfold mX12_way
        rw [M_isNode (sr 1), Option.bind_some, M_isNode (sr 1), Option.bind_some, e, bf e2, if_pos rfl, if_neg (show ¬ false = true by decide), t0]
  · refine Ans_ref i2 (-1) 1 (by decide) ?_ ?_
    · show mX11_way x h p v a k d = _
      unfold mX11_way
      rw [X_isNode s, bf e, if_neg (show ¬ false = true by decide)]; rfl
    · show mX12_way m v a k (uI d x 9 1) = _
      unfold mX12_way
      rw [M_isNode (sr 1), Option.bind_some, bf e, if_neg (show ¬ false = true by decide), t0]
