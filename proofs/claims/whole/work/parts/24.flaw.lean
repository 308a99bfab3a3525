/-! the flaws, as a list; the reference's way of laying them -/
theorem loop_rel {α β : Type} (L : Nat → Int32 → α → β) (R : Nat → α → Prop) (n : Nat)
    (hs : ∀ fuel i a, i < n → R i a → ∃ b, R (i + 1) b ∧ L (fuel + 1) (nI i) a = L fuel (nI (i + 1)) b) :
    ∀ (k i : Nat) (a : α) (fuel : Nat), i + k = n → R i a → k < fuel → ∃ b g, R n b ∧ L fuel (nI i) a = L (g + 1) (nI n) b := by
  intro k
  induction k with
  | zero =>
    intro i a fuel hi hr hf
    obtain ⟨g, rfl⟩ : ∃ g, fuel = g + 1 := ⟨fuel - 1, by omega⟩
    obtain rfl : i = n := by omega
    exact ⟨a, g, hr, rfl⟩
  | succ k ih =>
    intro i a fuel hi hr hf
    obtain ⟨g, rfl⟩ : ∃ g, fuel = g + 1 := ⟨fuel - 1, by omega⟩
    obtain ⟨b, hb, e⟩ := hs g i a (by omega) hr
    obtain ⟨c, g2, h1, h2⟩ := ih (i + 1) b g (by omega) hb (by omega)
    exact ⟨c, g2, h1, e.trans h2⟩
abbrev Fl : Type := Int32 × Int32 × Int32 × Int32 × Int32
/-- the contents d: as d0, but the list F laid at ri, its length at (ci, cs), anything at xi -/
def FSt (ci cs ri xi : Nat) (d0 d : Dt) (F : List Fl) : Prop :=
  d.2 = d0.2 ∧ (∀ o k, o ≠ ri → o ≠ xi → (o ≠ ci ∨ k ≠ cs) → d.1 o k = d0.1 o k) ∧ d.1 ci cs = nI F.length ∧
  ∀ j, j < F.length → ∀ x, F[j]? = some x → d.1 ri (5 * j) = x.1 ∧ d.1 ri (5 * j + 1) = x.2.1 ∧ d.1 ri (5 * j + 2) = x.2.2.1 ∧ d.1 ri (5 * j + 3) = x.2.2.2.1 ∧ d.1 ri (5 * j + 4) = x.2.2.2.2
def put5 (d : Dt) (ci cs ri p : Nat) (x : Fl) (cn : Int32) : Dt := uI (uI (uI (uI (uI (uI d ri p x.1) ri (p + 1) x.2.1) ri (p + 2) x.2.2.1) ri (p + 3) x.2.2.2.1) ri (p + 4) x.2.2.2.2) ci cs cn
theorem put5_at (d : Dt) {ci cs ri p : Nat} (x : Fl) (cn : Int32) (h : ri ≠ ci) (j : Nat) : (put5 d ci cs ri p x cn).1 ri j = if j = p + 4 then x.2.2.2.2 else if j = p + 3 then x.2.2.2.1 else if j = p + 2 then x.2.2.1 else if j = p + 1 then x.2.1 else if j = p then x.1 else d.1 ri j := by
  simp [put5, uI, h]
theorem put5_ne (d : Dt) {ci cs ri p : Nat} (x : Fl) (cn : Int32) {o k : Nat} (h1 : o ≠ ri) (h2 : o ≠ ci ∨ k ≠ cs) : (put5 d ci cs ri p x cn).1 o k = d.1 o k := by
  have : ¬ (o = ci ∧ k = cs) := fun q => h2.elim (fun h => h q.1) (fun h => h q.2)
  simp [put5, uI, h1, this]
theorem FSt_push {ci cs ri xi : Nat} {d0 d : Dt} {F : List Fl} (h : FSt ci cs ri xi d0 d F) (hne : ri ≠ ci) (x : Fl) : FSt ci cs ri xi d0 (put5 d ci cs ri (5 * F.length) x (nI (F.length + 1))) (F ++ [x]) := by
  obtain ⟨h1, h2, h3, h4⟩ := h
  refine ⟨h1, fun o k a b c => ?_, ?_, fun j hj y hy => ?_⟩
  · rw [put5_ne d x _ a c]; exact h2 o k a b c
  · simp [put5, uI]
  · rw [List.length_append] at hj
    simp only [List.length_cons, List.length_nil] at hj
    by_cases e : j = F.length
    · subst e
      rw [List.getElem?_append_right (Nat.le_refl _)] at hy
      simp at hy
      subst hy
      refine ⟨?_, ?_, ?_, ?_, ?_⟩ <;> rw [put5_at d x _ hne] <;> simp
    · have hj2 : j < F.length := by omega
      rw [List.getElem?_append_left hj2] at hy
      obtain ⟨a1, a2, a3, a4, a5⟩ := h4 j hj2 y hy
      refine ⟨?_, ?_, ?_, ?_, ?_⟩
      · rw [put5_at d x _ hne, if_neg (by omega), if_neg (by omega), if_neg (by omega), if_neg (by omega), if_neg (by omega)]; exact a1
      · rw [put5_at d x _ hne, if_neg (by omega), if_neg (by omega), if_neg (by omega), if_neg (by omega), if_neg (by omega)]; exact a2
      · rw [put5_at d x _ hne, if_neg (by omega), if_neg (by omega), if_neg (by omega), if_neg (by omega), if_neg (by omega)]; exact a3
      · rw [put5_at d x _ hne, if_neg (by omega), if_neg (by omega), if_neg (by omega), if_neg (by omega), if_neg (by omega)]; exact a4
      · rw [put5_at d x _ hne, if_neg (by omega), if_neg (by omega), if_neg (by omega), if_neg (by omega), if_neg (by omega)]; exact a5
/-- the flaws of a pin, of a net, of a variant -/
def fit (q : Nat → Int32) (i k : Nat) : Bool := mX12_in (gau q i) (q (49 + 6 * pp q i k + 2)) (q (49 + 6 * pp q i k + 3))
def flP (q : Nat → Int32) (v : Int32) (i k : Nat) : List Fl :=
  (if fit q i k = true then [] else [(2, nI i, -2, pinA q i k, pinB q i k)]) ++ ((if cla q v i k = -1 then [] else [(3, nI i, cla q v i k, pinA q i k, pinB q i k)]) ++ (if bes q v i k = -1 then [] else [(4, nI i, bes q v i k, pinA q i k, pinB q i k)]))
def flI (q : Nat → Int32) (v : Int32) (i : Nat) (F : List Fl) : List Fl :=
  fo (fun k F => if bit (pins q v i) k = true then F ++ flP q v i k else F) 0 5 (if pop (pins q v i) = 1 then F ++ [(1, nI i, -2, pinA q i (fst5 (pins q v i)), pinB q i (fst5 (pins q v i)))] else F)
def flQ (q : Nat → Int32) (v : Int32) : List Fl := fo (fun i F => flI q v i F) 0 (nT q) []
theorem flP_len (q : Nat → Int32) (v : Int32) (i k : Nat) : (flP q v i k).length ≤ 3 := by
  unfold flP
  repeat rw [List.length_append]
  split <;> split <;> split <;> simp
theorem M_isFlaw {m : Nat} {d0 d : Dt} {q : Nat → Int32} {F : List Fl} (hM : MR m d0 q) (hF : FSt m 27 (m + 10) (m + 10) d0 d F) (hl : F.length < 160) {i k : Nat} (a c : Int32) (hi : i < 10) (hk : k < 5) :
    ∃ d1, mX12_isFlaw m a (nI i) c (nI k) d = some d1 ∧ FSt m 27 (m + 10) (m + 10) d0 d1 (F ++ [(a, nI i, c, pinA q i k, pinB q i k)]) := by
  have hMd : ∀ d1 : Dt, (∀ k, d1.1 (m + 2) k = d.1 (m + 2) k) → MR m d1 q := fun d1 h j hj => by rw [h j, hF.2.1 (m + 2) j (by omega) (by omega) (Or.inl (by omega))]; exact hM j hj
  have e0 : (5 : Int32) * d.1 m 27 = nI (5 * F.length) := by rw [hF.2.2.1, show (5 : Int32) = nI 5 from rfl, pk_mul]
  have e1 : (5 : Int32) * d.1 m 27 + 1 = nI (5 * F.length + 1) := by rw [e0, nI_1]
  have e2 : (5 : Int32) * d.1 m 27 + 2 = nI (5 * F.length + 2) := by rw [e0, show (2 : Int32) = nI 2 from rfl, nI_add]
  have e3 : (5 : Int32) * d.1 m 27 + 3 = nI (5 * F.length + 3) := by rw [e0, show (3 : Int32) = nI 3 from rfl, nI_add]
  have e4 : (5 : Int32) * d.1 m 27 + 4 = nI (5 * F.length + 4) := by rw [e0, show (4 : Int32) = nI 4 from rfl, nI_add]
  refine ⟨_, ?_, FSt_push hF (by omega) (a, nI i, c, pinA q i k, pinB q i k)⟩
  unfold mX12_isFlaw
  rw [e1, e2, e3, e4, e0, if_pos (inB_nI (by omega) (by decide)), if_pos (inB_nI (by omega) (by decide)), if_pos (inB_nI (by omega) (by decide)), cl_nI (by omega), cl_nI (by omega), cl_nI (by omega), cl_nI (by omega), cl_nI (by omega)]
  rw [M_pinPlug (hMd _ (fun j => by simp [uI])) hi hk, Option.bind_some, if_pos (inB_nI (by omega) (by decide)), M_pinHole (hMd _ (fun j => by simp [uI])) hi hk, Option.bind_some, if_pos (inB_nI (by omega) (by decide))]
  refine congrArg some ?_
  unfold put5
  refine congrArg (uI _ m 27) ?_
  simp only [uI]
  simp [hF.2.2.1, nI_1]
theorem FSt_MR {m : Nat} {d0 d : Dt} {q : Nat → Int32} {F : List Fl} (hM : MR m d0 q) (hF : FSt m 27 (m + 10) (m + 10) d0 d F) : MR m d q := fun k hk => by
  rw [hF.2.1 (m + 2) k (by omega) (by omega) (Or.inl (by omega))]; exact hM k hk
theorem M_flawsOfPin {m : Nat} {d0 d : Dt} {q : Nat → Int32} {F : List Fl} (hM : MR m d0 q) (h : WF q) (hF : FSt m 27 (m + 10) (m + 10) d0 d F) (hl : F.length + 3 ≤ 160) {i k : Nat} (v : Int32) (hi : i < nT q) (hk : k < many q i) :
    ∃ d1, mX12_flawsOfPin m v (nI i) (nI k) d = some d1 ∧ FSt m 27 (m + 10) (m + 10) d0 d1 (F ++ flP q v i k) := by
  have ht := h.t
  have hm := h.mny hi
  have hp := h.pin hi hk
  have hpp := h.p
  have tl : ∀ (d2 : Dt) (F2 : List Fl), FSt m 27 (m + 10) (m + 10) d0 d2 F2 → F2.length + 2 ≤ 160 → ∃ d1, mX12_flawsOfPin_43 m v (nI i) (nI k) d2 = some d1 ∧ FSt m 27 (m + 10) (m + 10) d0 d1 (F2 ++ ((if cla q v i k = -1 then [] else [(3, nI i, cla q v i k, pinA q i k, pinB q i k)]) ++ (if bes q v i k = -1 then [] else [(4, nI i, bes q v i k, pinA q i k, pinB q i k)]))) := by
    have t2 : ∀ (d2 : Dt) (F2 : List Fl), FSt m 27 (m + 10) (m + 10) d0 d2 F2 → F2.length + 1 ≤ 160 → ∃ d1, mX12_flawsOfPin_67 m v (nI i) (nI k) d2 = some d1 ∧ FSt m 27 (m + 10) (m + 10) d0 d1 (F2 ++ (if bes q v i k = -1 then [] else [(4, nI i, bes q v i k, pinA q i k, pinB q i k)])) := by
      intro d2 F2 h2 hl2
      unfold mX12_flawsOfPin_67
      rw [M_beside (FSt_MR hM h2) h v hi (by omega), Option.bind_some]
      by_cases e : bes q v i k = -1
      · rw [if_pos e, if_pos e, List.append_nil]; exact ⟨_, rfl, h2⟩
      · rw [if_neg e, if_neg e]
        obtain ⟨d1, g1, g2⟩ := M_isFlaw hM h2 (by omega) 4 (bes q v i k) (i := i) (k := k) (by omega) (by omega)
        rw [g1]; exact ⟨d1, rfl, g2⟩
    intro d2 F2 h2 hl2
    unfold mX12_flawsOfPin_43
    rw [M_clashing (FSt_MR hM h2) h v hi (by omega), Option.bind_some]
    by_cases e : cla q v i k = -1
    · rw [if_pos e, if_pos e, List.nil_append]; exact t2 d2 F2 h2 (by omega)
    · rw [if_neg e, if_neg e]
      obtain ⟨d1, g1, g2⟩ := M_isFlaw hM h2 (by omega) 3 (cla q v i k) (i := i) (k := k) (by omega) (by omega)
      obtain ⟨d3, g3, g4⟩ := t2 d1 _ g2 (by rw [List.length_append]; simp; omega)
      rw [g1]
      rw [List.append_assoc] at g4
      exact ⟨d3, g3, g4⟩
  unfold mX12_flawsOfPin
  have hMd := FSt_MR hM hF
  rw [M_pinPlug hMd (by omega) (by omega), Option.bind_some, M_netOf hMd (c := 1) (k := 1) rfl (by omega) (by omega), Option.bind_some, hp.1, M_plugOf hMd (c := 2) (k := 2) rfl (by omega) (by omega), Option.bind_some, M_plugOf hMd (c := 3) (k := 3) rfl (by omega) (by omega), Option.bind_some]
  unfold flP
  show ∃ d1, (if fit q i k = true then _ else _) = some d1 ∧ _
  by_cases e : fit q i k = true
  · rw [if_pos e, if_pos e, List.nil_append]
    exact tl d F hF (by omega)
  · rw [if_neg e, if_neg e]
    obtain ⟨d1, g1, g2⟩ := M_isFlaw hM hF (by omega) 2 (-2) (i := i) (k := k) (by omega) (by omega)
    obtain ⟨d3, g3, g4⟩ := tl d1 _ g2 (by rw [List.length_append]; simp; omega)
    rw [g1]
    rw [List.append_assoc] at g4
    exact ⟨d3, g3, g4⟩
theorem M_laysFlaws {m : Nat} {d : Dt} {q : Nat → Int32} (hM : MR m d q) (h : WF q) (v : Int32) :
    ∃ d1, mX12_laysFlaws m v d = some (nI (flQ q v).length, d1) ∧ FSt m 27 (m + 10) (m + 10) d d1 (flQ q v) ∧ (flQ q v).length ≤ 160 := by
  have ht := h.t
  have st0 : FSt m 27 (m + 10) (m + 10) d (uI d m 27 0) [] := ⟨rfl, fun o k _ _ hc => by
    have : ¬ (o = m ∧ k = 27) := fun q => hc.elim (fun h => h q.1) (fun h => h q.2)
    simp [uI, this], by simp [uI]; rfl, fun j hj => absurd hj (Nat.not_lt_zero _)⟩
  obtain ⟨d1, g, ⟨hF, hl⟩, e⟩ := loop_rel (fun n i d => mX12_laysFlaws_7 m v n i d) (fun i d1 => FSt m 27 (m + 10) (m + 10) d d1 (fo (fun i F => flI q v i F) 0 i []) ∧ (fo (fun i F => flI q v i F) 0 i []).length ≤ 16 * i) (nT q)
    (fun fuel i d1 hi hR => by
      obtain ⟨hF, hl⟩ := hR
      have hs := pins_ok h v hi
      have hm := h.mny hi
      rw [fo_last, Nat.zero_add]
      generalize fo (fun i F => flI q v i F) 0 i [] = F at hF hl
      have hMd := FSt_MR hM hF
      show ∃ b, _ ∧ mX12_laysFlaws_7 m v (fuel + 1) (nI i) d1 = _
      rw [mX12_laysFlaws_7, if_pos ib5, row5 hMd, ht.1, if_neg (nI_ge hi (by omega)), M_pinsOf hMd h v hi, Option.bind_some, M_bitsOf hs, Option.bind_some]
      -- the inner loop
      have inner : ∀ (d2 : Dt) (F2 : List Fl), FSt m 27 (m + 10) (m + 10) d d2 F2 → F2.length + 15 ≤ 160 → ∃ d3, mX12_laysFlaws_47 (mX12_laysFlaws_7 m v fuel) m v (nI i) (pins q v i) FUEL 0 d2 = mX12_laysFlaws_7 m v fuel (nI (i + 1)) d3 ∧ FSt m 27 (m + 10) (m + 10) d d3 (fo (fun k F => if bit (pins q v i) k = true then F ++ flP q v i k else F) 0 5 F2) ∧ (fo (fun k F => if bit (pins q v i) k = true then F ++ flP q v i k else F) 0 5 F2).length ≤ F2.length + 15 := by
        intro d2 F2 h2 hl2
        obtain ⟨d3, g, ⟨r1, r2⟩, e⟩ := loop_rel (fun n k d => mX12_laysFlaws_47 (mX12_laysFlaws_7 m v fuel) m v (nI i) (pins q v i) n k d) (fun k d3 => FSt m 27 (m + 10) (m + 10) d d3 (fo (fun k F => if bit (pins q v i) k = true then F ++ flP q v i k else F) 0 k F2) ∧ (fo (fun k F => if bit (pins q v i) k = true then F ++ flP q v i k else F) 0 k F2).length ≤ F2.length + 3 * k) 5
          (fun f2 k d3 hk hR => by
            obtain ⟨r1, r2⟩ := hR
            rw [fo_last, Nat.zero_add]
            generalize fo (fun k F => if bit (pins q v i) k = true then F ++ flP q v i k else F) 0 k F2 = F3 at r1 r2
            show ∃ b, _ ∧ mX12_laysFlaws_47 (mX12_laysFlaws_7 m v fuel) m v (nI i) (pins q v i) (f2 + 1) (nI k) d3 = _
            rw [mX12_laysFlaws_47, show (5 : Int32) = nI 5 from rfl, if_neg (nI_ge hk (by omega)), has12 (by omega), nI_1]
            have hlP := flP_len q v i k
            by_cases e : bit (pins q v i) k = true
            · obtain ⟨d4, g1, g2⟩ := M_flawsOfPin hM h r1 (by omega) v hi (hs.2 k (by omega) e)
              rw [if_pos e, if_pos e, g1, Option.bind_some]
              exact ⟨d4, ⟨g2, by rw [List.length_append]; omega⟩, rfl⟩
            · rw [if_neg e, if_neg e]
              exact ⟨d3, ⟨r1, by omega⟩, rfl⟩)
          5 0 d2 FUEL rfl ⟨h2, by show F2.length ≤ _; omega⟩ (fuel_big (by omega))
        refine ⟨d3, ?_, r1, by omega⟩
        refine Eq.trans e ?_
        show mX12_laysFlaws_47 (mX12_laysFlaws_7 m v fuel) m v (nI i) (pins q v i) (g + 1) (nI 5) d3 = _
        rw [mX12_laysFlaws_47, if_pos (by decide), nI_1]
      unfold flI
      by_cases e : pop (pins q v i) = 1
      · have hf := M_firstOf hs (by omega)
        rw [if_pos e, if_pos (show nI (pop (pins q v i)) = 1 by rw [e]; rfl), hf.1, Option.bind_some]
        obtain ⟨d2, g1, g2⟩ := M_isFlaw hM hF (by omega) 1 (-2) (i := i) (k := fst5 (pins q v i)) (by omega) (by omega)
        rw [g1, Option.bind_some]
        obtain ⟨d3, g3, g4, g5⟩ := inner d2 _ g2 (by rw [List.length_append]; simp; omega)
        refine ⟨d3, ⟨g4, ?_⟩, g3⟩
        rw [List.length_append] at g5; simp at g5; omega
      · rw [if_neg e, if_neg (show ¬ nI (pop (pins q v i)) = 1 from fun z => e (nI_inj (b := 1) (by have := pop_5 (pins q v i); omega) (by omega) z))]
        obtain ⟨d3, g3, g4, g5⟩ := inner d1 _ hF (by omega)
        exact ⟨d3, ⟨g4, by omega⟩, g3⟩)
    (nT q) 0 (uI d m 27 0) FUEL (Nat.zero_add _) ⟨st0, Nat.le_refl _⟩ (fuel_big (by omega))
  refine ⟨d1, ?_, hF, by unfold flQ; omega⟩
  unfold mX12_laysFlaws
  refine Eq.trans e ?_
  have hMd := FSt_MR hM hF
  show mX12_laysFlaws_7 m v (g + 1) (nI (nT q)) d1 = _
  rw [mX12_laysFlaws_7, if_pos ib5, row5 hMd, ht.1, if_pos (Int32.le_refl _), hF.2.2.1]
  rfl
