/-! the way from a node to another -/
theorem X_isBeyond {t : Nat} {d : Dt} {q : Nat → Int32} (x : XTd t d q) (w : WF q) {n c : Nat} (hn : n < nN q) (hc : c < nN q) : mX9_isBeyond t (nI n) (nI c) d = some (anc q c n) := by
  have hN := w.n
  unfold mX9_isBeyond
  rw [if_pos (inB_nI (by omega) (by decide)), cl_nI (by omega), ← (x n hn).2.2.1 c hc]
  by_cases e : bit (d.1 (t + 6) n) c = true
  · rw [if_pos ((bit_has (by omega)).mpr e), e]
  · rw [if_neg (fun z => e ((bit_has (by omega)).mp z))]
    have : bit (d.1 (t + 6) n) c = false := by simpa using e
    rw [this]
theorem findI_m1 {c : Nat → Bool} : ∀ k i, i + k < 100 → findI c i k = -1 → ∀ j, i ≤ j → j < i + k → c j = false := by
  intro k
  induction k with
  | zero => intro i _ _ j h1 h2; omega
  | succ k ih =>
    intro i hi h j h1 h2
    have h : (if c i = true then nI i else findI c (i + 1) k) = -1 := h
    by_cases e : c i = true
    · rw [if_pos e] at h; exact absurd h (nI_m1 (by omega))
    · rw [if_neg e] at h
      by_cases ej : j = i
      · subst ej; simpa using e
      · exact ih (i + 1) (by omega) h j (by omega) (by omega)
/-- c is the next node from a towards b -/
def Nx (q : Nat → Int32) (a b c : Nat) : Prop := (anc q b a = true ∧ 1 ≤ c ∧ c < nN q ∧ uq q c = a ∧ anc q b c = true) ∨ (anc q b a = false ∧ 1 ≤ a ∧ c = uq q a)
theorem anc_chain {q : Nat → Int32} (h : WF q) {c c' : Nat} : ∀ b, b < nN q → anc q b c = true → anc q b c' = true → anc q c c' = true ∨ anc q c' c = true := by
  intro b
  induction b using Nat.strongRecOn with
  | ind b ih =>
    intro hn h1 h2
    rcases Nat.eq_zero_or_pos b with rfl | hp
    · rw [anc_0] at h1
      have : 0 = c := by simpa using h1
      subst this; exact Or.inl h2
    · have hu := (h.up hp hn).2
      by_cases e1 : b = c
      · subst e1; exact Or.inl h2
      · by_cases e2 : b = c'
        · subst e2; exact Or.inr h1
        · rw [anc_s h c hp hn] at h1
          rw [anc_s h c' hp hn] at h2
          simp [e1] at h1
          simp [e2] at h2
          exact ih _ hu (by omega) h1 h2
theorem child_uni {q : Nat → Int32} (h : WF q) {b c c' : Nat} (hb : b < nN q) (c1 : 1 ≤ c) (cn : c < nN q) (c1' : 1 ≤ c') (cn' : c' < nN q) (e : uq q c = uq q c') (h1 : anc q b c = true) (h2 : anc q b c' = true) : c = c' := by
  have key : ∀ c c', 1 ≤ c → c < nN q → 1 ≤ c' → c' < nN q → uq q c = uq q c' → anc q c c' = true → c = c' := by
    intro c c' c1 cn c1' cn' e h3
    by_cases ec : c = c'
    · exact ec
    · rw [anc_s h c' c1 cn] at h3
      simp [ec] at h3
      have hu := (h.up c1 cn).2
      have hu' := (h.up c1' cn').2
      have := anc_le h (uq q c) (by omega) h3
      omega
  rcases anc_chain h b hb h1 h2 with h3 | h3
  · exact key c c' c1 cn c1' cn' e h3
  · exact (key c' c c1' cn' c1 cn e.symm h3).symm
theorem Nx_uni {q : Nat → Int32} (h : WF q) {a b c c' : Nat} (hb : b < nN q) (h1 : Nx q a b c) (h2 : Nx q a b c') : c = c' := by
  rcases h1 with ⟨a1, a2, a3, a4, a5⟩ | ⟨a1, a2, a3⟩
  · rcases h2 with ⟨b1, b2, b3, b4, b5⟩ | ⟨b1, b2, b3⟩
    · exact child_uni h hb a2 a3 b2 b3 (a4.trans b4.symm) a5 b5
    · rw [a1] at b1; cases b1
  · rcases h2 with ⟨b1, b2, b3, b4, b5⟩ | ⟨b1, b2, b3⟩
    · rw [a1] at b1; cases b1
    · exact a3.trans b3.symm
theorem anc_up {q : Nat → Int32} (h : WF q) {a : Nat} (h1 : 1 ≤ a) (h2 : a < nN q) : anc q a (uq q a) = true := by
  have hu := (h.up h1 h2).2
  rw [anc_s h _ h1 h2, anc_self h (by omega), Bool.or_true]
theorem Nx_lt {q : Nat → Int32} (h : WF q) {a b c : Nat} (ha : a < nN q) (h1 : Nx q a b c) : c < nN q := by
  rcases h1 with ⟨a1, a2, a3, a4, a5⟩ | ⟨a1, a2, a3⟩
  · exact a3
  · have := (h.up a2 ha).2; omega
theorem X_nextTowards {t : Nat} {d : Dt} {q : Nat → Int32} (x : XTr t d q) (y : XTd t d q) (w : WF q) {a b : Nat} (ha : a < nN q) (hb : b < nN q) (hne : a ≠ b) : ∃ c, mX9_nextTowards t (nI a) (nI b) d = some (nI c) ∧ Nx q a b c := by
  have hn := w.n
  have rd : d.1 t 0 = nI (nN q) := x.1.trans hn.1
  unfold mX9_nextTowards
  have lp := loop_find (fun n i => mX9_nextTowards_4 d t (nI a) (nI b) n i) (fun i => decide (q (7 + i) = nI a) && anc q b i) (fun z => if z = -1 then (if nI a ≤ 0 then some (nI a) else some (d.1 (t + 1) a)) else some z) (nN q)
    (fun fuel i hi => by
      show mX9_nextTowards_4 d t (nI a) (nI b) (fuel + 1) (nI i) = _
      rw [mX9_nextTowards_4, rd, if_neg (nI_ge hi (by omega)), if_pos (inB_nI (by omega) (by decide)), cl_nI (by omega), (x.2 i hi).1, X_isBeyond y w hi hb, Option.bind_some, nI_1, if_neg (nI_m1 (show i < 100 by omega))]
      by_cases e : q (7 + i) = nI a
      · rw [if_pos e]; simp [e]
      · rw [if_neg e]; simp [e])
    (fun fuel => by
      show mX9_nextTowards_4 d t (nI a) (nI b) (fuel + 1) (nI (nN q)) = _
      rw [mX9_nextTowards_4, rd, if_pos (Int32.le_refl _), if_pos rfl, if_pos (inB_nI (by omega) (by decide)), cl_nI (by omega)])
    (nN q - (a + 1)) (a + 1) FUEL (by omega) (fuel_big (by omega))
  rw [nI_1]
  rcases findI_in (c := fun i => decide (q (7 + i) = nI a) && anc q b i) (nN q - (a + 1)) (a + 1) with e | ⟨j, j1, j2, j3, j4⟩
  · have hno := findI_m1 _ _ (by omega) e
    rw [e, if_pos rfl] at lp
    have hna : anc q b a = false := by
      cases ea : anc q b a with
      | false => rfl
      | true =>
        rcases (anc_down w a b hb).mp ea with h1 | ⟨c, c1, c2, c3, c4⟩
        · exact absurd h1.symm hne
        · have hu := w.up c1 c2
          have := hno c (by omega) (by omega)
          rw [hu.1, c3, c4] at this
          simp at this
    have ha1 : 1 ≤ a := by
      rcases Nat.eq_zero_or_pos a with rfl | h
      · rw [anc_root w b hb] at hna; cases hna
      · exact h
    rw [if_neg (show ¬ nI a ≤ 0 from nI_ge (show 0 < a from ha1) (by omega)), (x.2 a ha).1, (w.up ha1 ha).1] at lp
    exact ⟨_, lp, Or.inr ⟨hna, ha1, rfl⟩⟩
  · rw [j3, if_neg (nI_m1 (show j < 100 by omega))] at lp
    have hj := Bool.and_eq_true_iff.mp j4
    have hu := w.up (show 1 ≤ j by omega) (show j < nN q by omega)
    have huj : uq q j = a := nI_inj (by omega) (by omega) (by rw [← hu.1]; simpa using hj.1)
    exact ⟨j, lp, Or.inl ⟨by rw [← huj]; exact anc_trans w (anc_up w (by omega) (by omega)) b hb hj.2, by omega, by omega, huj, hj.2⟩⟩
theorem M_nextTo {m : Nat} {d : Dt} {q : Nat → Int32} (hM : MR m d q) (w : WF q) {a b : Nat} (ha : a < nN q) (hb : b < nN q) (hne : a ≠ b) : ∃ c, mX12_nextTo m (nI a) (nI b) d = some (nI c) ∧ Nx q a b c := by
  have hn := w.n
  unfold mX12_nextTo
  rw [M_isBeyond hM w hb ha, Option.bind_some]
  cases ea : anc q b a
  · have ha1 : 1 ≤ a := by
      rcases Nat.eq_zero_or_pos a with rfl | h
      · rw [anc_root w b hb] at ea; cases ea
      · exact h
    rw [if_neg (by decide), show (7 : Int32) + nI a = nI (7 + a) by rw [show (7 : Int32) = nI 7 from rfl, nI_add], if_pos (inB_nI (by omega) (by decide)), cl_nI (by omega), hM _ (by omega), (w.up ha1 ha).1]
    exact ⟨_, rfl, Or.inr ⟨ea, ha1, rfl⟩⟩
  · rw [if_pos rfl]
    have key : ∀ c, c < nN q → anc q b c = true → anc q c a = true → c ≠ a → ∀ fuel, c < fuel → ∃ r, mX12_nextTo_21 d m (nI a) fuel (nI c) = some (nI r) ∧ Nx q a b r := by
      intro c
      induction c using Nat.strongRecOn with
      | ind c ih =>
        intro hc h1 h2 h3 fuel hf
        obtain ⟨f, rfl⟩ : ∃ f, fuel = f + 1 := ⟨fuel - 1, by omega⟩
        have hc1 : 1 ≤ c := by
          rcases Nat.eq_zero_or_pos c with rfl | h
          · rw [anc_0] at h2
            have : 0 = a := by simpa using h2
            exact absurd this h3
          · exact h
        have hu := w.up hc1 hc
        rw [mX12_nextTo_21, show (7 : Int32) + nI c = nI (7 + c) by rw [show (7 : Int32) = nI 7 from rfl, nI_add], if_pos (inB_nI (by omega) (by decide)), cl_nI (by omega), hM _ (by omega), hu.1]
        by_cases e : uq q c = a
        · rw [if_pos (by rw [e])]
          exact ⟨c, rfl, Or.inl ⟨ea, hc1, hc, e, h1⟩⟩
        · rw [if_neg (fun z => e (nI_inj (by omega) (by omega) z)), if_pos (inB_nI (by omega) (by decide))]
          refine ih _ hu.2 (by omega) (anc_trans w (anc_up w hc1 hc) b hb h1) ?_ e f (by omega)
          rw [anc_s w a hc1 hc] at h2
          simp [h3] at h2
          exact h2
    exact key b hb (anc_self w hb) ea (fun z => hne z.symm) FUEL (Nat.lt_of_lt_of_le (show b < 1000000 by omega) (Nat.le_refl _))
/-- how many bundles lie between -/
def dN (q : Nat → Int32) (a b : Nat) : Nat := cN (fun x => anc q a x != anc q b x) 1 (nN q - 1)
theorem cN_le (c : Nat → Bool) : ∀ k i, cN c i k ≤ k := by
  intro k
  induction k with
  | zero => intro i; exact Nat.le_refl _
  | succ k ih =>
    intro i
    show (if c i = true then 1 else 0) + cN c (i + 1) k ≤ k + 1
    have := ih (i + 1)
    split <;> omega
theorem cN_one {c c' : Nat → Bool} {y k i : Nat} (hk : i + k < 100) (h1 : i ≤ y) (h2 : y < i + k) (hc : c y = true) (hc' : c' y = false) (ho : ∀ x, x ≠ y → c x = c' x) : cN c i k = cN c' i k + 1 := by
  have e := fo_one (c := c) (c' := c') (f := fun _ => (1 : Int32)) k i (nI 0) h1 h2 hc hc' ho
  have e1 := fo_cnt c k i 0
  have e2 := fo_cnt c' k i 0
  have l1 := cN_le c k i
  have l2 := cN_le c' k i
  rw [e1, e2, nI_1] at e
  have := nI_inj (by omega) (by omega) e
  omega
theorem dN_s {q : Nat → Int32} (w : WF q) {a b c : Nat} (ha : a < nN q) (hb : b < nN q) (h : Nx q a b c) : dN q a b = dN q c b + 1 := by
  have hn := w.n
  have no : ∀ a x, a < nN q → a < x → anc q a x = false := by
    intro a x ha hx
    cases e : anc q a x with
    | false => rfl
    | true => have := anc_le w a ha e; omega
  rcases h with ⟨a1, a2, a3, a4, a5⟩ | ⟨a1, a2, a3⟩
  · have hu := w.up a2 a3
    refine cN_one (y := c) (by omega) a2 (by omega) ?_ ?_ (fun x hx => ?_)
    · show (anc q a c != anc q b c) = true
      rw [no a c ha (by omega), a5]; rfl
    · show (anc q c c != anc q b c) = false
      rw [anc_self w a3, a5]; rfl
    · show (anc q a x != anc q b x) = (anc q c x != anc q b x)
      rw [anc_s w x a2 a3, a4]
      simp [show ¬ c = x from fun e => hx e.symm]
  · have hu := w.up a2 ha
    subst a3
    refine cN_one (y := a) (by omega) a2 (by omega) ?_ ?_ (fun x hx => ?_)
    · show (anc q a a != anc q b a) = true
      rw [anc_self w ha, a1]; rfl
    · show (anc q (uq q a) a != anc q b a) = false
      rw [no (uq q a) a (by omega) hu.2, a1]; rfl
    · show (anc q a x != anc q b x) = (anc q (uq q a) x != anc q b x)
      rw [anc_s w x a2 ha]
      simp [show ¬ a = x from fun e => hx e.symm]
theorem way_short {m t : Nat} {d d2 : Dt} {q : Nat → Int32} (x : XTr t d q) (y : XTd t d q) (hM : MR m d2 q) (w : WF q) {b K : Nat} (hb : b < nN q) (hK : K < nN q) :
    ∀ k s a f g, s + k = K → a < nN q → k < f → k < g → ∃ r, mX9_onTheWay_20 d t (nI b) (nI K) f (nI a) (nI s) = some r ∧ ((r = -1 ∧ mX12_way_43 m (nI b) (nI K) g (nI a) (nI s) d2 = some ((mX12_no m 1 d2).1, (mX12_no m 1 d2).2)) ∨ ∃ c, c < nN q ∧ r = nI c ∧ mX12_way_43 m (nI b) (nI K) g (nI a) (nI s) d2 = some (nI c, d2)) := by
  have hn := w.n
  intro k
  induction k with
  | zero =>
    intro s a f g hs ha hf hg
    obtain ⟨f, rfl⟩ : ∃ e, f = e + 1 := ⟨f - 1, by omega⟩
    obtain ⟨g, rfl⟩ : ∃ e, g = e + 1 := ⟨g - 1, by omega⟩
    obtain rfl : s = K := by omega
    rw [mX9_onTheWay_20, mX12_way_43, if_pos (Int32.le_refl _), if_pos (Int32.le_refl _)]
    exact ⟨_, rfl, Or.inr ⟨a, ha, rfl, rfl⟩⟩
  | succ k ih =>
    intro s a f g hs ha hf hg
    obtain ⟨f, rfl⟩ : ∃ e, f = e + 1 := ⟨f - 1, by omega⟩
    obtain ⟨g, rfl⟩ : ∃ e, g = e + 1 := ⟨g - 1, by omega⟩
    rw [mX9_onTheWay_20, mX12_way_43, if_neg (nI_ge (show s < K by omega) (by omega)), if_neg (nI_ge (show s < K by omega) (by omega))]
    by_cases e : a = b
    · subst e
      rw [if_pos rfl, if_pos rfl]
      exact ⟨_, rfl, Or.inl ⟨rfl, rfl⟩⟩
    · rw [if_neg (fun z => e (nI_inj (by omega) (by omega) z)), if_neg (fun z => e (nI_inj (by omega) (by omega) z))]
      obtain ⟨c, c1, c2⟩ := X_nextTowards x y w ha hb e
      obtain ⟨c', c1', c2'⟩ := M_nextTo hM w ha hb e
      obtain rfl := Nx_uni w hb c2 c2'
      rw [c1, c1', Option.bind_some, Option.bind_some, nI_1]
      exact ih (s + 1) c f g (by omega) (Nx_lt w ha c2) (by omega) (by omega)
theorem way_long {m : Nat} {d2 : Dt} {q : Nat → Int32} (hM : MR m d2 q) (w : WF q) {b K : Nat} (hb : b < nN q) (hK : K < 2 ^ 31) :
    ∀ c s a g, dN q a b = c → c + s < K → a < nN q → c < g → mX12_way_43 m (nI b) (nI K) g (nI a) (nI s) d2 = some ((mX12_no m 1 d2).1, (mX12_no m 1 d2).2) := by
  have hn := w.n
  intro c
  induction c with
  | zero =>
    intro s a g hc hs ha hg
    obtain ⟨g, rfl⟩ : ∃ e, g = e + 1 := ⟨g - 1, by omega⟩
    rw [mX12_way_43, if_neg (nI_ge (show s < K by omega) (by omega))]
    by_cases e : a = b
    · subst e; rw [if_pos rfl]
    · obtain ⟨c', c1', c2'⟩ := M_nextTo hM w ha hb e
      have := dN_s w ha hb c2'
      omega
  | succ c ih =>
    intro s a g hc hs ha hg
    obtain ⟨g, rfl⟩ : ∃ e, g = e + 1 := ⟨g - 1, by omega⟩
    rw [mX12_way_43, if_neg (nI_ge (show s < K by omega) (by omega))]
    by_cases e : a = b
    · subst e; rw [if_pos rfl]
    · obtain ⟨c', c1', c2'⟩ := M_nextTo hM w ha hb e
      have := dN_s w ha hb c2'
      rw [if_neg (fun z => e (nI_inj (by omega) (by omega) z)), c1', Option.bind_some, nI_1]
      exact ih (s + 1) c' g (by omega) (by omega) (Nx_lt w ha c2') (by omega)
