/-! the class's functions over q: splices, lengths, bundles -/
theorem findI_at {c : Nat → Bool} {f : Nat} (hc : c f = true) : ∀ k i, i ≤ f → f < i + k → (∀ j, i ≤ j → j < f → c j = false) → findI c i k = nI f := by
  intro k
  induction k with
  | zero => intro i h1 h2; omega
  | succ k ih =>
    intro i h1 h2 h3
    show (if c i = true then nI i else findI c (i + 1) k) = nI f
    by_cases e : i = f
    · subst e; rw [if_pos hc]
    · rw [h3 i (Nat.le_refl _) (by omega), if_neg (by decide)]
      exact ih (i + 1) (by omega) (by omega) (fun j h4 h5 => h3 j (by omega) h5)
theorem fst5_first : ∀ p, p < 32 → ∀ j, j < fst5 (nI p) → bit (nI p) j = false := by
  have : ∀ p, p < 32 → ∀ j, j < 5 → j < fst5 (nI p) → bit (nI p) j = false := by decide +kernel
  exact fun p hp j hj => this p hp j (by have : fst5 (nI p) ≤ 4 := by unfold fst5; (repeat' split) <;> omega
                                         omega) hj
theorem X_firstNode {h : Nat} {d : Dt} {q : Nat → Int32} (x : XR h d q) (w : WF q) {i : Nat} {s : Int32} (hi : i < nT q) (hs : setOk q i s) (h1 : 1 ≤ pop s) : mX10_firstNode h (nI i) s d = some (nI (pn q i (fst5 s))) := by
  have ht := w.t
  have hm := w.mny hi
  have hf := M_firstOf hs h1
  have h2 : d.1 (h + 35) i = nI (many q i) := ((x.ne.2 i hi).1 2 (by omega)).trans hm.1
  have hff : ∀ j, j < fst5 s → bit s j = false := by obtain ⟨⟨p, hp, rfl⟩, -⟩ := hs; exact fst5_first p hp
  unfold mX10_firstNode
  have lp := loop_find (fun n k => mX10_firstNode_2 d h (nI i) s n k) (fun k => bit s k) (fun z => if z = -1 then some 0 else some (d.1 (h + 62 + i) z.toNatClampNeg)) (many q i)
    (fun fuel k hk => by
      have hz : ¬ nI k = (-1 : Int32) := fun z => by
        have : ∀ k, k < 5 → ¬ nI k = (-1 : Int32) := by decide +kernel
        exact this k (by omega) z
      show mX10_firstNode_2 d h (nI i) s (fuel + 1) (nI k) = _
      rw [mX10_firstNode_2, if_pos (inB_nI (by omega) (by decide)), cl_nI (by omega), h2, if_neg (nI_ge hk (by omega)), has10 (by omega), nI_1]
      by_cases e : bit s k = true
      · rw [if_pos e, if_pos e, if_pos (inB_nI (by omega) (by decide)), if_pos (inB_nI (by omega) (by decide)), if_neg hz]
      · rw [if_neg e, if_neg e])
    (fun fuel => by
      show mX10_firstNode_2 d h (nI i) s (fuel + 1) (nI (many q i)) = _
      rw [mX10_firstNode_2, if_pos (inB_nI (by omega) (by decide)), cl_nI (by omega), h2, if_pos (Int32.le_refl _), if_pos rfl])
    (many q i) 0 FUEL (Nat.zero_add _) (fuel_big (by omega))
  refine lp.trans ?_
  have hz : ¬ nI (fst5 s) = (-1 : Int32) := fun z => by
    have : ∀ k, k < 5 → ¬ nI k = (-1 : Int32) := by decide +kernel
    exact this _ (by omega) z
  rw [findI_at (c := fun k => bit s k) hf.2.2 (many q i) 0 (Nat.zero_le _) (by omega) (fun j _ hj => hff j hj), if_neg hz, cl_nI (by omega)]
  exact congrArg some ((x.ne.2 i hi).2 _ hf.2.1).2.2
theorem i32_max {z : Int32} (h : (2147483647 : Int32) ≤ z) : z = 2147483647 := by
  have h1 := Int32.le_iff_toInt_le.mp h
  have h2 := Int32.toInt_lt z
  have e : (2147483647 : Int32).toInt = 2147483647 := rfl
  exact Int32.toInt_inj.mp (by rw [e] at h1 ⊢; omega)
theorem X_hubOf {h : Nat} {d : Dt} {q : Nat → Int32} (x : XR h d q) (w : WF q) {i : Nat} {s : Int32} (hi : i < nT q) (hs : setOk q i s) (h1 : 2 ≤ pop s) : mX10_hubOf h (nI i) s d = some (nI (hubS q i s)) := by
  have ht := w.t
  have hn := w.n
  have hh : d.1 (h + 38) i = hand q i := (x.ne.2 i hi).1 5 (by omega)
  unfold mX10_hubOf hubS
  rw [X_needsSplice hs]
  by_cases e : pop s = 2
  · rw [if_pos e, if_neg (by simp; omega), X_firstNode x w hi hs (by omega), Option.bind_some]
  · rw [if_neg e, if_pos (by simp; omega), if_pos (inB_nI (by omega) (by decide)), if_pos (inB_nI (by omega) (by decide)), cl_nI (by omega), hh]
    unfold spl
    by_cases e2 : hand q i = -2
    · rw [if_pos e2, e2, if_pos (by decide)]
      obtain ⟨a, g, hR, eq⟩ := loop_rel (fun n j (a : Int32 × Int32) => mX10_hubOf_45 d h (nI i) s n a.1 a.2 j) (fun j a => (j = 0 ∧ a = (0, 2147483647)) ∨ (1 ≤ j ∧ ∃ b, b < nN q ∧ a = (nI b, rea q i s b) ∧ b = fo (fun x b => if rea q i s b ≤ rea q i s x then b else x) 1 (j - 1) 0)) (nN q)
        (fun fuel j a hj hR => by
          obtain ⟨a1, a2⟩ := a
          show ∃ b, _ ∧ mX10_hubOf_45 d h (nI i) s (fuel + 1) a1 a2 (nI j) = _
          rw [mX10_hubOf_45, show d.1 (h + 3) 0 = nI (nN q) from x.tr.1.trans hn.1, if_neg (nI_ge hj (by omega)), X_reachOf x w hi hs hj, Option.bind_some, nI_1]
          rcases hR with ⟨rfl, ea⟩ | ⟨hj1, b, hb, ea, eb⟩
          · cases ea
            by_cases e : (2147483647 : Int32) ≤ rea q i s 0
            · rw [if_pos e]
              refine ⟨(0, 2147483647), Or.inr ⟨by omega, 0, by omega, ?_, rfl⟩, rfl⟩
              rw [i32_max e]; rfl
            · rw [if_neg e]
              exact ⟨(nI 0, rea q i s 0), Or.inr ⟨by omega, 0, by omega, rfl, rfl⟩, rfl⟩
          · cases ea
            have st : fo (fun x b => if rea q i s b ≤ rea q i s x then b else x) 1 (j + 1 - 1) 0 = if rea q i s b ≤ rea q i s j then b else j := by
              rw [show j + 1 - 1 = (j - 1) + 1 by omega, fo_last, ← eb, show 1 + (j - 1) = j by omega]
            by_cases e : rea q i s b ≤ rea q i s j
            · rw [if_pos e]
              exact ⟨(nI b, rea q i s b), Or.inr ⟨by omega, b, hb, rfl, by rw [st, if_pos e]⟩, rfl⟩
            · rw [if_neg e]
              exact ⟨(nI j, rea q i s j), Or.inr ⟨by omega, j, hj, rfl, by rw [st, if_neg e]⟩, rfl⟩)
        (nN q) 0 (0, 2147483647) FUEL (Nat.zero_add _) (Or.inl ⟨rfl, rfl⟩) (fuel_big (by omega))
      refine Eq.trans eq ?_
      obtain ⟨a1, a2⟩ := a
      rcases hR with ⟨h0, -⟩ | ⟨-, b, hb, ea, eb⟩
      · omega
      · cases ea
        show mX10_hubOf_45 d h (nI i) s (g + 1) (nI b) (rea q i s b) (nI (nN q)) = _
        rw [mX10_hubOf_45, show d.1 (h + 3) 0 = nI (nN q) from x.tr.1.trans hn.1, if_pos (Int32.le_refl _)]
        unfold hub
        rw [← eb]
    · rcases (w.net hi).2.2.2.2.1 with e3 | ⟨a, ha, e3⟩
      · exact absurd e3 e2
      · rw [if_neg e2, show hand q i = nI a from e3, if_neg (nI_pos (by omega)), cl_nI (by omega)]
theorem X_lengthOf {h : Nat} {d : Dt} {q : Nat → Int32} (x : XR h d q) (w : WF q) {i : Nat} {s : Int32} (hi : i < nT q) (hs : setOk q i s) : mX10_lengthOf h (nI i) s d = some (lenS q i s) := by
  have h5 := pop_5 s
  unfold mX10_lengthOf lenS
  rw [X_countFor hs, show d.1 h 0 = q 0 from x.1.1, show d.1 h 1 = q 1 from x.1.2.1]
  by_cases e : pop s < 2
  · rw [if_pos e, if_pos rfl, if_pos e]
  · have hl := hubS_lt w hi hs (by omega)
    rw [if_neg e, if_neg e]
    unfold mX10_lengthOf_36
    rw [X_hubOf x w hi hs (by omega), Option.bind_some, Option.bind_some, X_reachOf x w hi hs hl, Option.bind_some, Option.bind_some]
    unfold hubS
    by_cases e2 : pop s = 2
    · rw [if_pos e2, if_pos e2, if_pos e2, if_neg (by decide), if_pos rfl]
    · rw [if_neg e2, if_neg e2, if_neg e2, if_neg (fun z => by have := nI_inj (b := 0) (by omega) (by omega) z; omega), if_neg (fun z => by have := nI_inj (b := 1) (by omega) (by omega) z; omega)]
theorem X_lengthTo {h : Nat} {d : Dt} {q : Nat → Int32} (x : XR h d q) (w : WF q) {i k : Nat} {s : Int32} (hi : i < nT q) (hs : setOk q i s) (h2 : 2 ≤ pop s) (hk : k < many q i) : mX10_lengthTo h (nI i) s (nI k) d = some (if pop s = 2 then lenS q i s else far q (spl q i s) (pn q i k) + q 0 + q 1) := by
  have h5 := pop_5 s
  have ht := w.t
  have hn := w.n
  have hm := w.mny hi
  have hl := hubS_lt w hi hs h2
  have hpn := (w.pnd hi hk).2
  have hN : d.1 (h + 62 + i) k = nI (pn q i k) := ((x.ne.2 i hi).2 k hk).2.2
  unfold mX10_lengthTo lenS
  rw [X_hubOf x w hi hs h2, Option.bind_some, X_countFor hs, if_neg (show ¬ pop s < 2 by omega), show d.1 h 0 = q 0 from x.1.1, show d.1 h 1 = q 1 from x.1.2.1]
  by_cases e2 : pop s = 2
  · rw [if_pos e2, if_pos rfl, X_reachOf x w hi hs hl, Option.bind_some, if_pos e2, if_neg (by omega), if_pos e2]
    unfold hubS
    rw [if_pos e2]
  · rw [if_neg e2, if_neg (fun z => by have := nI_inj (b := 1) (by omega) (by omega) z; omega), if_neg e2, if_pos (inB_nI (by omega) (by decide)), if_pos (inB_nI (by omega) (by decide)), if_pos (inB_nI (by omega) (by decide)), cl_nI (by omega), cl_nI (by omega), hN, if_pos (inB_nI (by omega) (by decide)), cl_nI (by omega)]
    rw [cl_nI (by omega)]
    have hF : d.1 (h + 11 + hubS q i s) (pn q i k) = far q (hubS q i s) (pn q i k) := (x.td _ hl).2.2.2 _ hpn
    rw [hF]
    unfold hubS
    rw [if_neg e2]
theorem X_parts {t : Nat} {d : Dt} {q : Nat → Int32} (x : XTd t d q) (w : WF q) {n a b : Nat} (hn : n < nN q) (ha : a < nN q) (hb : b < nN q) : mX9_parts t (nI n) (nI a) (nI b) d = some (anc q a n != anc q b n) := by
  have hN := w.n
  have one : ∀ c, c < nN q → mX9_isBeyond t (nI n) (nI c) d = some (anc q c n) := by
    intro c hc
    unfold mX9_isBeyond
    rw [if_pos (inB_nI (by omega) (by decide)), cl_nI (by omega), ← (x n hn).2.2.1 c hc]
    by_cases e : bit (d.1 (t + 6) n) c = true
    · rw [if_pos ((bit_has (by omega)).mpr e), e]
    · rw [if_neg (fun z => e ((bit_has (by omega)).mp z))]
      have : bit (d.1 (t + 6) n) c = false := by simpa using e
      rw [this]
  unfold mX9_parts
  rw [one a ha, Option.bind_some, one b hb, Option.bind_some]
  exact b2i_ne _ _
theorem X_runsThrough {h : Nat} {d : Dt} {q : Nat → Int32} (x : XR h d q) (w : WF q) {i n : Nat} (v : Int32) (hi : i < nT q) (hn : n < nN q) : mX10_runsThrough h v (nI i) (nI n) d = some (cnt q i (pins q v i) n) := by
  have hs := pins_ok w v hi
  have h5 := pop_5 (pins q v i)
  have ht := w.t
  have hm := w.mny hi
  have h2 : d.1 (h + 35) i = nI (many q i) := ((x.ne.2 i hi).1 2 (by omega)).trans hm.1
  unfold mX10_runsThrough cnt
  rw [X_pinsThere x w v hi, Option.bind_some, X_countFor hs]
  generalize pins q v i = s at hs h5
  by_cases e : pop s < 2
  · rw [if_pos e, if_pos rfl, if_pos e]
  · have hl := hubS_lt w hi hs (by omega)
    rw [if_neg e, if_neg (fun z => by
      by_cases e2 : pop s = 2
      · rw [if_pos e2] at z; exact absurd z (by decide)
      · rw [if_neg e2] at z; have := nI_inj (b := 0) (by omega) (by omega) z; omega), X_hubOf x w hi hs (by omega), Option.bind_some, if_neg e]
    rw [show (5 : Nat) = many q i + (5 - many q i) by omega, fo_more (5 - many q i) (many q i) 0 0 (fun j b hj => by
      have : bit s j = false := by
        by_cases h32 : j < 32
        · cases e : bit s j with
          | false => rfl
          | true => have := hs.2 j h32 e; omega
        · unfold bit; exact BitVec.getLsbD_of_ge _ _ (by omega)
      show (if (bit s j && _) = true then _ else b) = b
      rw [this]; rfl)]
    exact loop_fo (fun f k t => mX10_runsThrough_33 d h (nI i) (nI n) s (nI (hubS q i s)) f t k) _ some (many q i) (fun _ _ => True)
      (fun fuel k t hk _ => by
        have hpn := (w.pnd hi hk).2
        have hN : d.1 (h + 62 + i) k = nI (pn q i k) := ((x.ne.2 i hi).2 k hk).2.2
        show mX10_runsThrough_33 d h (nI i) (nI n) s (nI (hubS q i s)) (fuel + 1) t (nI k) = mX10_runsThrough_33 d h (nI i) (nI n) s (nI (hubS q i s)) fuel (if (bit s k && (anc q (hubS q i s) n != anc q (pn q i k) n)) = true then t + 1 else t) _
        rw [mX10_runsThrough_33, if_pos (inB_nI (by omega) (by decide)), cl_nI (by omega), h2, if_neg (nI_ge hk (by omega)), has10 (by omega), nI_1]
        by_cases e : bit s k = true
        · rw [if_pos e, e, Bool.true_and, if_pos (inB_nI (by omega) (by decide)), if_pos (inB_nI (by omega) (by decide)), cl_nI (by omega), hN, X_parts x.td w hn hl hpn, Option.bind_some]
          by_cases e4 : (anc q (hubS q i s) n != anc q (pn q i k) n) = true
          · rw [if_pos e4, if_pos e4]
          · rw [if_neg e4, if_neg e4]
        · rw [if_neg e, if_neg (by simp [e])])
      (fun _ _ _ _ => trivial)
      (fun fuel t _ => by
        show mX10_runsThrough_33 d h (nI i) (nI n) s (nI (hubS q i s)) (fuel + 1) t (nI (many q i)) = _
        rw [mX10_runsThrough_33, if_pos (inB_nI (by omega) (by decide)), cl_nI (by omega), h2, if_pos (Int32.le_refl _)])
      (many q i) 0 0 FUEL (Nat.zero_add _) trivial (fuel_big (by omega))
