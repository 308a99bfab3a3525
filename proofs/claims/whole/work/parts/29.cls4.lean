/-! the class's flaws: the same list -/
theorem XR_congr {h : Nat} {d d1 : Dt} {q : Nat → Int32} (x : XR h d q) (e : ∀ o k, h ≤ o → o < h + 75 → d1.1 o k = d.1 o k) (w : WF q) : XR h d1 q := by
  have hn := w.n
  have hp := w.p
  have ht := w.t
  have hb := w.b
  obtain ⟨⟨a1, a2, a3⟩, ⟨b1, b2⟩, ⟨c1, c2⟩, ⟨e1, e2⟩, ⟨f1, f2⟩, g⟩ := x
  refine ⟨⟨(e _ _ (by omega) (by omega)).trans a1, (e _ _ (by omega) (by omega)).trans a2, (e _ _ (by omega) (by omega)).trans a3⟩, ⟨(e _ _ (by omega) (by omega)).trans b1, fun i hi => ⟨(e _ _ (by omega) (by omega)).trans (b2 i hi).1, (e _ _ (by omega) (by omega)).trans (b2 i hi).2.1, fun h1 => (e _ _ (by omega) (by omega)).trans ((b2 i hi).2.2 h1)⟩⟩,
    ⟨(e _ _ (by omega) (by omega)).trans c1, fun i hi k hk => (e _ _ (by omega) (by omega)).trans (c2 i hi k hk)⟩,
    ⟨(e _ _ (by omega) (by omega)).trans e1, fun i hi => ⟨fun k hk => (e _ _ (by omega) (by omega)).trans ((e2 i hi).1 k hk), fun k hk => ⟨(e _ _ (by omega) (by omega)).trans ((e2 i hi).2 k hk).1, (e _ _ (by omega) (by omega)).trans ((e2 i hi).2 k hk).2.1, (e _ _ (by omega) (by omega)).trans ((e2 i hi).2 k hk).2.2⟩⟩⟩,
    ⟨(e _ _ (by omega) (by omega)).trans f1, fun i hi => ⟨(e _ _ (by omega) (by omega)).trans (f2 i hi).1, (e _ _ (by omega) (by omega)).trans (f2 i hi).2⟩⟩,
    fun i hi => ⟨(e _ _ (by omega) (by omega)).trans (g i hi).1, (e _ _ (by omega) (by omega)).trans (g i hi).2.1, fun j hj => ?_, fun j hj => (e _ _ (by omega) (by omega)).trans ((g i hi).2.2.2 j hj)⟩⟩
  rw [e _ _ (by omega) (by omega)]; exact (g i hi).2.2.1 j hj
theorem X_hasPinAt {h : Nat} {d : Dt} {q : Nat → Int32} (x : XR h d q) (w : WF q) {o : Nat} (v a b : Int32) (ho : o < nT q) : mX5_hasPinAt (h + 32) (nI o) (pins q v o) a b d = some (hpn q v o a b) := by
  have ht := w.t
  have hm := w.mny ho
  have hs := pins_ok w v ho
  have h2 : d.1 (h + 35) o = nI (many q o) := ((x.ne.2 o ho).1 2 (by omega)).trans hm.1
  unfold mX5_hasPinAt hpn
  rw [show (5 : Nat) = many q o + (5 - many q o) by omega, anyB_more _ _ _ (fun j hj hj2 => by
    cases e : bit (pins q v o) j with
    | false => rfl
    | true => have := hs.2 j (by omega) e; omega)]
  have lp := loop_any (fun n k => mX5_hasPinAt_3 d (h + 32) (nI o) (pins q v o) a b n k) (fun k => bit (pins q v o) k && (decide (q (97 + 16 * o + (6 + 2 * k)) = a) && decide (q (97 + 16 * o + (6 + 2 * k) + 1) = b))) (some true) (some false) (many q o)
    (fun fuel k hk => by
      have hA : d.1 (h + 40 + o) k = q (97 + 16 * o + (6 + 2 * k)) := ((x.ne.2 o ho).2 k hk).1
      have hB : d.1 (h + 51 + o) k = q (97 + 16 * o + (6 + 2 * k) + 1) := ((x.ne.2 o ho).2 k hk).2.1
      show mX5_hasPinAt_3 d (h + 32) (nI o) (pins q v o) a b (fuel + 1) (nI k) = _
      rw [mX5_hasPinAt_3, if_pos (inB_nI (by omega) (by decide)), cl_nI (by omega), h2, if_neg (nI_ge hk (by omega)), has10 (by omega), if_pos (inB_nI (by omega) (by decide)), cl_nI (by omega), hA, hB, nI_1]
      cases bit (pins q v o) k
      · rw [if_neg (by decide), Bool.false_and, if_neg (by decide)]
      · rw [if_pos rfl, Bool.true_and, if_pos (inB_nI (by omega) (by decide)), if_pos (inB_nI (by omega) (by decide))]
        by_cases e2 : q (97 + 16 * o + (6 + 2 * k)) = a
        · rw [if_pos e2, if_pos (inB_nI (by omega) (by decide))]
          by_cases e3 : q (97 + 16 * o + (6 + 2 * k) + 1) = b
          · rw [if_pos e3, if_pos (by simp [e2, e3])]
          · rw [if_neg e3, if_neg (by simp [e3])]
        · rw [if_neg e2, if_neg (by simp [e2])])
    (fun fuel => by
      show mX5_hasPinAt_3 d (h + 32) (nI o) (pins q v o) a b (fuel + 1) (nI (many q o)) = _
      rw [mX5_hasPinAt_3, if_pos (inB_nI (by omega) (by decide)), cl_nI (by omega), h2, if_pos (Int32.le_refl _)]) (many q o) 0 FUEL (Nat.zero_add _) (fuel_big (by omega))
  refine lp.trans ?_
  cases anyB _ 0 (many q o) <;> rfl
theorem X_firstAt {h fl : Nat} {d : Dt} {q : Nat → Int32} (x : XR h d q) (w : WF q) {i k : Nat} (v : Int32) (hp : ∀ o, o < nT q → d.1 (fl + 2) o = pins q v o) (hi : i < nT q) : mX3_firstAt fl h (nI i) (pinA q i k) (pinB q i k) d = some (cla q v i k) := by
  have ht := w.t
  unfold mX3_firstAt cla
  exact loop_find (fun n o => mX3_firstAt_3 d fl h (nI i) (pinA q i k) (pinB q i k) n o) _ some i
    (fun fuel o ho => by
      show mX3_firstAt_3 d fl h (nI i) (pinA q i k) (pinB q i k) (fuel + 1) (nI o) = _
      rw [mX3_firstAt_3, if_neg (nI_ge ho (by omega)), if_pos (inB_nI (by omega) (by decide)), cl_nI (by omega), hp o (by omega), X_hasPinAt x w v _ _ (by omega), Option.bind_some, nI_1])
    (fun fuel => by
      show mX3_firstAt_3 d fl h (nI i) (pinA q i k) (pinB q i k) (fuel + 1) (nI i) = _
      rw [mX3_firstAt_3, if_pos (Int32.le_refl _)]) i 0 FUEL (Nat.zero_add _) (fuel_big (by omega))
theorem findI_none {c : Nat → Bool} : ∀ k i, (∀ j, i ≤ j → j < i + k → c j = false) → findI c i k = -1 := by
  intro k
  induction k with
  | zero => intro i _; rfl
  | succ k ih => intro i h; show (if c i = true then _ else _) = _; rw [h i (Nat.le_refl _) (by omega), if_neg (by decide)]; exact ih (i + 1) (fun j h1 h2 => h j (by omega) (by omega))
theorem X_firstBeside {h fl : Nat} {d : Dt} {q : Nat → Int32} (x : XR h d q) (w : WF q) {i k : Nat} (v : Int32) (hp : ∀ o, o < nT q → d.1 (fl + 2) o = pins q v o) (hi : i < nT q) : mX3_firstBeside fl h (nI i) (pinA q i k) (pinB q i k) d = some (bes q v i k) := by
  have ht := w.t
  obtain ⟨t, ht3, et⟩ := (w.net hi).1
  have hk0 : d.1 (h + 33) i = q (97 + 16 * i) := (x.ne.2 i hi).1 0 (by omega)
  have lp : ∀ f : Int32, mX3_firstBeside_36 d fl h (pinA q i k) (pinB q i k) f FUEL 0 = some (findI (fun o => decide (q (97 + 16 * o) = f) && (hpn q v o (pinA q i k) (pinB q i k - 1) || hpn q v o (pinA q i k) (pinB q i k + 1))) 0 (nT q)) := fun f =>
    loop_find (fun n o => mX3_firstBeside_36 d fl h (pinA q i k) (pinB q i k) f n o) _ some (nT q)
      (fun fuel o ho => by
        have hko : d.1 (h + 33) o = q (97 + 16 * o) := (x.ne.2 o ho).1 0 (by omega)
        show mX3_firstBeside_36 d fl h (pinA q i k) (pinB q i k) f (fuel + 1) (nI o) = _
        rw [mX3_firstBeside_36, X_countNets x w, if_neg (nI_ge ho (by omega)), if_pos (inB_nI (by omega) (by decide)), cl_nI (by omega), hko, hp o ho, X_hasPinAt x w v _ _ ho, Option.bind_some, X_hasPinAt x w v _ _ ho, Option.bind_some, nI_1]
        by_cases e3 : q (97 + 16 * o) = f
        · rw [if_pos e3, if_pos (inB_nI (by omega) (by decide)), if_pos (inB_nI (by omega) (by decide))]
          cases hpn q v o (pinA q i k) (pinB q i k - 1) <;> cases hpn q v o (pinA q i k) (pinB q i k + 1) <;> simp [e3]
        · rw [if_neg e3]
          simp [e3])
      (fun fuel => by
        show mX3_firstBeside_36 d fl h (pinA q i k) (pinB q i k) f (fuel + 1) (nI (nT q)) = _
        rw [mX3_firstBeside_36, X_countNets x w, if_pos (Int32.le_refl _)]) (nT q) 0 FUEL (Nat.zero_add _) (fuel_big (by omega))
  unfold mX3_firstBeside bes
  rw [if_pos (inB_nI (by omega) (by decide)), cl_nI (by omega), hk0, lp, lp, lp]
  have t3 : t = 0 ∨ t = 1 ∨ t = 2 := by omega
  rcases t3 with rfl | rfl | rfl
  · rw [et, if_pos (show nI 0 = 0 from rfl), if_neg (show ¬ nI 0 = 2 by decide)]; rfl
  · rw [et, if_neg (show ¬ nI 1 = 0 by decide), if_pos (show nI 1 = 1 from rfl), if_neg (show ¬ nI 1 = 2 by decide)]; rfl
  · rw [et, if_neg (show ¬ nI 2 = 0 by decide), if_neg (show ¬ nI 2 = 1 by decide), if_pos (show nI 2 = 2 from rfl)]
    rw [findI_none (nT q) 0 (fun o _ ho => by
      obtain ⟨t2, ht2, e2⟩ := (w.net (show o < nT q by omega)).1
      rw [e2, show decide (nI t2 = -1) = false by simp; exact nI_m1 (by omega)]; rfl)]
/-- the class's list so far -/
def XSt (fl : Nat) (d0 d : Dt) (q : Nat → Int32) (v : Int32) (F : List Fl) : Prop := FSt fl 0 (fl + 1) (fl + 2) d0 d F ∧ ∀ o, o < nT q → d.1 (fl + 2) o = pins q v o
theorem XSt_XR {h fl : Nat} {d0 d : Dt} {q : Nat → Int32} {v : Int32} {F : List Fl} (x : XR h d0 q) (w : WF q) (hf : h + 75 ≤ fl) (hF : XSt fl d0 d q v F) : XR h d q := XR_congr x (fun o k h1 h2 => hF.1.2.1 o k (by omega) (by omega) (Or.inl (by omega))) w
theorem X_add {fl : Nat} {d0 d : Dt} {q : Nat → Int32} {v : Int32} {F : List Fl} (hF : XSt fl d0 d q v F) (hl : F.length < 160) (a b c e f : Int32) :
    ∃ d1, mX3_add fl a b c e f d = some d1 ∧ XSt fl d0 d1 q v (F ++ [(a, b, c, e, f)]) := by
  have e0 : d.1 fl 0 * (5 : Int32) = nI (5 * F.length) := by rw [hF.1.2.2.1, show (5 : Int32) = nI 5 from rfl, pk_mul, Nat.mul_comm]
  have e1 : nI (5 * F.length) + 1 = nI (5 * F.length + 1) := by rw [nI_1]
  have e2 : nI (5 * F.length) + 2 = nI (5 * F.length + 2) := by rw [show (2 : Int32) = nI 2 from rfl, nI_add]
  have e3 : nI (5 * F.length) + 3 = nI (5 * F.length + 3) := by rw [show (3 : Int32) = nI 3 from rfl, nI_add]
  have e4 : nI (5 * F.length) + 4 = nI (5 * F.length + 4) := by rw [show (4 : Int32) = nI 4 from rfl, nI_add]
  refine ⟨_, ?_, FSt_push hF.1 (by omega) (a, b, c, e, f), fun o ho => ?_⟩
  · unfold mX3_add
    rw [if_neg (show ¬ (160 : Int32) ≤ d.1 fl 0 by rw [hF.1.2.2.1]; exact nI_ge hl (by decide)), e0, e1, e2, e3, e4, if_pos (inB_nI (by omega) (by decide)), if_pos (inB_nI (by omega) (by decide)), if_pos (inB_nI (by omega) (by decide)), if_pos (inB_nI (by omega) (by decide)), if_pos (inB_nI (by omega) (by decide)), cl_nI (by omega), cl_nI (by omega), cl_nI (by omega), cl_nI (by omega), cl_nI (by omega)]
    refine congrArg some ?_
    unfold put5
    refine congrArg (uI _ fl 0) ?_
    simp only [uI]
    simp [hF.1.2.2.1, nI_1]
  · rw [put5_ne d _ _ (by omega) (Or.inl (by omega))]; exact hF.2 o ho
theorem find_lt0 {c : Nat → Bool} {k i : Nat} (h : i + k ≤ 2 ^ 31 - 1) : findI c i k < 0 ↔ findI c i k = -1 := by
  rcases findI_in (c := c) k i with e | ⟨j, h1, h2, h3, -⟩
  · rw [e]; decide
  · rw [h3]
    refine ⟨fun z => absurd z (nI_pos (by omega)), fun z => ?_⟩
    have h0 : ¬ nI j < 0 := nI_pos (by omega)
    rw [z] at h0
    exact absurd (by decide) h0
theorem X_listOfPin {h fl : Nat} {d0 d : Dt} {q : Nat → Int32} {v : Int32} {F : List Fl} (x : XR h d0 q) (w : WF q) (hf : h + 75 ≤ fl) (hF : XSt fl d0 d q v F) {i k : Nat} (hl : F.length + 3 ≤ 160 ∧ (pop (pins q v i) = 1 → F.length + 4 ≤ 160)) (hi : i < nT q) (hk : k < many q i) :
    ∃ d1, mX3_listOfPin fl h (nI i) (nI k) d = some d1 ∧ XSt fl d0 d1 q v ((if pop (pins q v i) = 1 then F ++ [(1, nI i, -2, pinA q i k, pinB q i k)] else F) ++ flP q v i k) := by
  have ht := w.t
  have hm := w.mny hi
  have hp := w.pin hi hk
  have hpp := w.p
  have t2 : ∀ (d2 : Dt) (F2 : List Fl), XSt fl d0 d2 q v F2 → F2.length + 1 ≤ 160 → ∃ d1, mX3_listOfPin_133 fl h (nI i) (pinA q i k) (pinB q i k) d2 = some d1 ∧ XSt fl d0 d1 q v (F2 ++ (if bes q v i k = -1 then [] else [(4, nI i, bes q v i k, pinA q i k, pinB q i k)])) := by
    intro d2 F2 h2 hl2
    unfold mX3_listOfPin_133
    rw [X_firstBeside (XSt_XR x w hf h2) w v h2.2 hi, Option.bind_some]
    have hz : bes q v i k < 0 ↔ bes q v i k = -1 := by
      unfold bes
      split
      · exact ⟨fun _ => rfl, fun _ => by decide⟩
      · exact find_lt0 (by omega)
    by_cases e : bes q v i k = -1
    · rw [if_pos (hz.mpr e), if_pos e, List.append_nil]; exact ⟨_, rfl, h2⟩
    · rw [if_neg (fun z => e (hz.mp z)), if_neg e]
      obtain ⟨d1, g1, g2⟩ := X_add h2 (by omega) 4 (nI i) (bes q v i k) (pinA q i k) (pinB q i k)
      rw [g1]; exact ⟨d1, rfl, g2⟩
  have tl : ∀ (d2 : Dt) (F2 : List Fl), XSt fl d0 d2 q v F2 → F2.length + 2 ≤ 160 → ∃ d1, mX3_listOfPin_104 fl h (nI i) (pinA q i k) (pinB q i k) d2 = some d1 ∧ XSt fl d0 d1 q v (F2 ++ ((if cla q v i k = -1 then [] else [(3, nI i, cla q v i k, pinA q i k, pinB q i k)]) ++ (if bes q v i k = -1 then [] else [(4, nI i, bes q v i k, pinA q i k, pinB q i k)]))) := by
    intro d2 F2 h2 hl2
    unfold mX3_listOfPin_104
    rw [X_firstAt (XSt_XR x w hf h2) w v h2.2 hi, Option.bind_some]
    have hz : cla q v i k < 0 ↔ cla q v i k = -1 := find_lt0 (by omega)
    by_cases e : cla q v i k = -1
    · rw [if_pos (hz.mpr e), if_pos e, List.nil_append]; exact t2 d2 F2 h2 (by omega)
    · rw [if_neg (fun z => e (hz.mp z)), if_neg e]
      obtain ⟨d1, g1, g2⟩ := X_add h2 (by omega) 3 (nI i) (cla q v i k) (pinA q i k) (pinB q i k)
      obtain ⟨d3, g3, g4⟩ := t2 d1 _ g2 (by rw [List.length_append]; simp; omega)
      rw [g1]
      rw [List.append_assoc] at g4
      exact ⟨d3, g3, g4⟩
  have t0 : ∀ (d2 : Dt) (F2 : List Fl), XSt fl d0 d2 q v F2 → F2.length + 3 ≤ 160 → ∃ d1, mX3_listOfPin_62 fl h (nI i) (pinA q i k) (pinB q i k) (gau q i) d2 = some d1 ∧ XSt fl d0 d1 q v (F2 ++ flP q v i k) := by
    intro d2 F2 h2 hl2
    have x2 := XSt_XR x w hf h2
    have hlo : d2.1 (h + 28) (pp q i k) = q (49 + 6 * pp q i k + 2) := x2.pl.2 _ hp.2 2 (by omega)
    have hhi : d2.1 (h + 29) (pp q i k) = q (49 + 6 * pp q i k + 3) := x2.pl.2 _ hp.2 3 (by omega)
    unfold mX3_listOfPin_62 flP fit mX12_in
    rw [show pinA q i k = nI (pp q i k) from hp.1, if_pos (inB_nI (by omega) (by decide)), if_pos (inB_nI (by omega) (by decide)), cl_nI (by omega), hlo, hhi]
    rw [show nI (pp q i k) = pinA q i k from hp.1.symm]
    obtain ⟨d1, g1, g2⟩ := X_add h2 (by omega) 2 (nI i) (-2) (pinA q i k) (pinB q i k)
    obtain ⟨d3, g3, g4⟩ := tl d1 _ g2 (by rw [List.length_append]; simp; omega)
    rw [List.append_assoc] at g4
    by_cases e : gau q i < q (49 + 6 * pp q i k + 2)
    · rw [if_pos e, g1]
      rw [if_neg (show ¬ (if gau q i < q (49 + 6 * pp q i k + 2) then false else if q (49 + 6 * pp q i k + 3) < gau q i then false else true) = true by rw [if_pos e]; decide)]
      exact ⟨d3, g3, g4⟩
    · rw [if_neg e]
      by_cases e2 : gau q i ≤ q (49 + 6 * pp q i k + 3)
      · rw [if_pos e2, if_pos (show (if gau q i < q (49 + 6 * pp q i k + 2) then false else if q (49 + 6 * pp q i k + 3) < gau q i then false else true) = true by rw [if_neg e, if_neg (by rw [Int32.not_lt]; exact e2)]), List.nil_append]
        exact tl d2 F2 h2 (by omega)
      · rw [if_neg e2, g1]
        rw [if_neg (show ¬ (if gau q i < q (49 + 6 * pp q i k + 2) then false else if q (49 + 6 * pp q i k + 3) < gau q i then false else true) = true by rw [if_neg e, if_pos (by rw [← Int32.not_le]; exact e2)]; decide)]
        exact ⟨d3, g3, g4⟩
  unfold mX3_listOfPin
  have xd := XSt_XR x w hf hF
  have hA : d.1 (h + 40 + i) k = pinA q i k := ((xd.ne.2 i hi).2 k hk).1
  have hB : d.1 (h + 51 + i) k = pinB q i k := ((xd.ne.2 i hi).2 k hk).2.1
  have hG : d.1 (h + 34) i = gau q i := (xd.ne.2 i hi).1 1 (by omega)
  have hs := pins_ok w v hi
  rw [if_pos (inB_nI (by omega) (by decide)), if_pos (inB_nI (by omega) (by decide)), if_pos (inB_nI (by omega) (by decide)), if_pos (inB_nI (by omega) (by decide)), if_pos (inB_nI (by omega) (by decide)), if_pos (inB_nI (by omega) (by decide)), cl_nI (by omega), cl_nI (by omega), hF.2 i hi, C_bitCount hs, hA, hB, hG]
  by_cases e : pop (pins q v i) = 1
  · rw [if_pos (show nI (pop (pins q v i)) = 1 by rw [e]; rfl), if_pos e]
    have hl2 := hl.2 e
    obtain ⟨d1, g1, g2⟩ := X_add hF (by omega) 1 (nI i) (-2) (pinA q i k) (pinB q i k)
    rw [g1, Option.bind_some]
    exact t0 d1 _ g2 (by rw [List.length_append]; simp; omega)
  · rw [if_neg (show ¬ nI (pop (pins q v i)) = 1 from fun z => e (nI_inj (b := 1) (by have := pop_5 (pins q v i); omega) (by omega) z)), if_neg e]
    exact t0 d F hF (by omega)
