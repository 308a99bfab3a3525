/-! the tree is measured: places, what is beyond, FAR -/
theorem dI_at (d : Dt) (o k : Nat) (v : Int32) : (uI d o k v).1 o k = v := by simp [uI]
theorem dI_ne {d : Dt} {o k : Nat} {v : Int32} {o' k' : Nat} (h : o' ≠ o ∨ k' ≠ k) : (uI d o k v).1 o' k' = d.1 o' k' := by
  have : ¬ (o' = o ∧ k' = k) := fun z => h.elim (fun h => h z.1) (fun h => h z.2)
  simp [uI, this]
theorem posF_eq {q : Nat → Int32} (l : List Int32) (h : WF q) : ∀ f g a, a < nN q → a ≤ f → a ≤ g → posF l q f a = posF l q g a := by
  intro f
  induction f with
  | zero =>
    intro g a _ h1 h2
    obtain rfl : a = 0 := by omega
    cases g <;> rfl
  | succ f ih =>
    intro g a hn h1 h2
    rcases Nat.eq_zero_or_pos a with rfl | hp
    · cases g <;> rfl
    · obtain ⟨g, rfl⟩ : ∃ b, g = b + 1 := ⟨g - 1, by omega⟩
      have hu := (h.up hp hn).2
      show (if a = 0 then 0 else posF l q f (uq q a) + stp l q a) = (if a = 0 then 0 else posF l q g (uq q a) + stp l q a)
      rw [ih g (uq q a) (by omega) (by omega) (by omega)]
theorem pos_0 (l : List Int32) (q : Nat → Int32) : pos l q 0 = 0 := rfl
theorem pos_s {q : Nat → Int32} (l : List Int32) (h : WF q) {a : Nat} (h1 : 1 ≤ a) (h2 : a < nN q) : pos l q a = pos l q (uq q a) + stp l q a := by
  have hu := (h.up h1 h2).2
  obtain ⟨b, rfl⟩ : ∃ b, a = b + 1 := ⟨a - 1, by omega⟩
  show (if b + 1 = 0 then 0 else posF l q b (uq q (b + 1)) + stp l q (b + 1)) = _
  rw [if_neg (Nat.succ_ne_zero b), posF_eq l h b (uq q (b + 1)) (uq q (b + 1)) (by omega) (by omega) (Nat.le_refl _)]
  rfl
theorem anc_trans {q : Nat → Int32} (h : WF q) {c a : Nat} (hca : anc q c a = true) : ∀ j, j < nN q → anc q j c = true → anc q j a = true := by
  intro j
  induction j using Nat.strongRecOn with
  | ind j ih =>
    intro hn hj
    rcases Nat.eq_zero_or_pos j with rfl | hp
    · rw [anc_0] at hj
      have : 0 = c := by simpa using hj
      subst this; exact hca
    · rw [anc_s h c hp hn] at hj
      have hu := (h.up hp hn).2
      rcases Bool.or_eq_true_iff.mp hj with e | e
      · have : j = c := by simpa using e
        subst this; exact hca
      · rw [anc_s h a hp hn, ih _ hu (by omega) e, Bool.or_true]
theorem anc_down {q : Nat → Int32} (h : WF q) (a : Nat) : ∀ j, j < nN q → (anc q j a = true ↔ j = a ∨ ∃ c, 1 ≤ c ∧ c < nN q ∧ uq q c = a ∧ anc q j c = true) := by
  intro j
  induction j using Nat.strongRecOn with
  | ind j ih =>
    intro hn
    constructor
    · intro hj
      rcases Nat.eq_zero_or_pos j with rfl | hp
      · rw [anc_0] at hj; exact Or.inl (by simpa using hj)
      · have hu := (h.up hp hn).2
        rw [anc_s h a hp hn] at hj
        rcases Bool.or_eq_true_iff.mp hj with e | e
        · exact Or.inl (by simpa using e)
        · rcases (ih _ hu (by omega)).mp e with e2 | ⟨c, h1, h2, h3, h4⟩
          · exact Or.inr ⟨j, hp, hn, e2, anc_self h hn⟩
          · exact Or.inr ⟨c, h1, h2, h3, by rw [anc_s h c hp hn, h4, Bool.or_true]⟩
    · rintro (rfl | ⟨c, h1, h2, h3, h4⟩)
      · exact anc_self h hn
      · have hu := (h.up h1 h2).2
        refine anc_trans h ?_ j hn h4
        rw [anc_s h a h1 h2, ← h3, anc_self h (by omega), Bool.or_true]
/-- what measuring leaves alone -/
def TFr (t : Nat) (d0 d : Dt) : Prop := d.2 = d0.2 ∧ ∀ o k, (o < t + 4 ∨ o = t + 7 ∨ t + 22 ≤ o) → d.1 o k = d0.1 o k
theorem XTr_fr {t : Nat} {d0 d : Dt} {q : Nat → Int32} (x : XTr t d0 q) (h : TFr t d0 d) : XTr t d q := by
  obtain ⟨b1, b2⟩ := x
  exact ⟨(h.2 _ _ (by omega)).trans b1, fun i hi => ⟨(h.2 _ _ (by omega)).trans (b2 i hi).1, (h.2 _ _ (by omega)).trans (b2 i hi).2.1, fun h1 => (h.2 _ _ (by omega)).trans ((b2 i hi).2.2 h1)⟩⟩
/-- measured up to i -/
def TUp (t : Nat) (d : Dt) (q : Nat → Int32) (i : Nat) : Prop := (∀ a, a < i → d.1 (t + 4) a = pos [0, 1, 0, -1] q a ∧ d.1 (t + 5) a = pos [1, 0, -1, 0] q a ∧ ∀ b, b < i → d.1 (t + 8 + a) b = far q a b)
def TOwn (t : Nat) (d : Dt) (i : Nat) : Prop := ∀ a, a < i → d.1 (t + 6) a = (1 : Int32) <<< (nI a &&& 31)
theorem X_measureFrom {t : Nat} {d0 d : Dt} {q : Nat → Int32} (x : XTr t d0 q) (w : WF q) (hf : TFr t d0 d) {i : Nat} (h1 : 1 ≤ i) (hi : i < nN q) (hU : TUp t d q i) (hO : TOwn t d (i + 1)) (hz : d.1 (t + 8 + i) i = 0) :
    ∃ d1, mX9_measureFrom t (nI i) (nI (uq q i)) d = some d1 ∧ TFr t d0 d1 ∧ TUp t d1 q (i + 1) ∧ TOwn t d1 (i + 1) := by
  have hn := w.n
  have hu := w.up h1 hi
  have xd := XTr_fr x hf
  obtain ⟨s, hs, es⟩ := w.side h1 hi
  have hS : d.1 (t + 3) i = q (35 + i) := (xd.2 i hi).2.2 h1
  have hL : d.1 (t + 2) i = q (21 + i) := (xd.2 i hi).2.1
  have hX : d.1 (t + 4) (uq q i) = pos [0, 1, 0, -1] q (uq q i) := (hU _ hu.2).1
  have hY : d.1 (t + 5) (uq q i) = pos [1, 0, -1, 0] q (uq q i) := (hU _ hu.2).2.1
  unfold mX9_measureFrom
  rw [if_pos (inB_nI (by omega) (by decide)), if_pos (inB_nI (by omega) (by decide)), cl_nI (by omega), hS, es, if_pos (inB_nI hs (by decide)), if_pos (inB_nI (by omega) (by decide)), if_pos (inB_nI (by omega) (by decide)), if_pos (inB_nI (by omega) (by decide)), if_pos (inB_nI (by omega) (by decide)),
    dI_ne (show t + 3 ≠ t + 4 ∨ i ≠ i from Or.inl (by omega)), hS, es, if_pos (inB_nI hs (by decide)), if_pos (inB_nI (by omega) (by decide)), if_pos (inB_nI (by omega) (by decide)), cl_nI (by omega), dI_ne (show t + 5 ≠ t + 4 ∨ uq q i ≠ i from Or.inl (by omega)), dI_ne (show t + 2 ≠ t + 4 ∨ i ≠ i from Or.inl (by omega)), hL, hX, hY]
  have e1 : pos [0, 1, 0, -1] q (uq q i) + ([0, 1, 0, -1] : List Int32).getD (nI s).toNatClampNeg 0 * q (21 + i) = pos [0, 1, 0, -1] q i := by rw [pos_s _ w h1 hi]; unfold stp; rw [es]
  have e2 : pos [1, 0, -1, 0] q (uq q i) + ([1, 0, -1, 0] : List Int32).getD (nI s).toNatClampNeg 0 * q (21 + i) = pos [1, 0, -1, 0] q i := by rw [pos_s _ w h1 hi]; unfold stp; rw [es]
  rw [e1, e2]
  generalize ed : uI (uI d (t + 4) i (pos [0, 1, 0, -1] q i)) (t + 5) i (pos [1, 0, -1, 0] q i) = d2
  have f2 : ∀ o k, o ≠ t + 4 → o ≠ t + 5 → d2.1 o k = d.1 o k := fun o k a b => by rw [← ed, dI_ne (Or.inl b), dI_ne (Or.inl a)]
  have fx : ∀ a, a < i + 1 → d2.1 (t + 4) a = pos [0, 1, 0, -1] q a := fun a ha => by
    by_cases e : a = i
    · subst e; rw [← ed, dI_ne (Or.inl (by omega)), dI_at]
    · rw [← ed, dI_ne (Or.inl (by omega)), dI_ne (Or.inr e)]; exact (hU a (by omega)).1
  have fy : ∀ a, a < i + 1 → d2.1 (t + 5) a = pos [1, 0, -1, 0] q a := fun a ha => by
    by_cases e : a = i
    · subst e; rw [← ed, dI_at]
    · rw [← ed, dI_ne (Or.inr e), dI_ne (Or.inl (by omega))]; exact (hU a (by omega)).2.1
  have g2 : d2.2 = d.2 := by rw [← ed]; rfl
  obtain ⟨d1, g, ⟨r1, r2, r3, r4⟩, e⟩ := loop_rel (fun n j d => mX9_measureFrom_62 t (nI i) (nI (uq q i)) n j d)
    (fun j d1 => d1.2 = d2.2 ∧ (∀ o k, (o < t + 8 ∨ t + 22 ≤ o) → d1.1 o k = d2.1 o k) ∧ (∀ a b, a < i → b < i → d1.1 (t + 8 + a) b = far q a b) ∧ (d1.1 (t + 8 + i) i = 0 ∧ ∀ a, a < j → d1.1 (t + 8 + i) a = far q i a ∧ d1.1 (t + 8 + a) i = far q a i)) i
    (fun fuel j d1 hj hR => by
      obtain ⟨r1, r2, r3, r4, r5⟩ := hR
      have hA : d1.1 (t + 8 + uq q i) j = far q (uq q i) j := r3 _ _ hu.2 hj
      have hL1 : d1.1 (t + 2) i = q (21 + i) := by rw [r2 _ _ (by omega), f2 _ _ (by omega) (by omega)]; exact hL
      show ∃ b, _ ∧ mX9_measureFrom_62 t (nI i) (nI (uq q i)) (fuel + 1) (nI j) d1 = _
      rw [mX9_measureFrom_62, if_neg (nI_ge hj (by omega)), if_pos (inB_nI (by omega) (by decide)), if_pos (inB_nI (by omega) (by decide)), if_pos (inB_nI (by omega) (by decide)), if_pos (inB_nI (by omega) (by decide)), if_pos (inB_nI (by omega) (by decide)), if_pos (inB_nI (by omega) (by decide)), if_pos (inB_nI (by omega) (by decide)), if_pos (inB_nI (by omega) (by decide)), if_pos (inB_nI (by omega) (by decide)), cl_nI (by omega), cl_nI (by omega), cl_nI (by omega), hA, hL1, dI_at, ← far_s w h1 hi hj, nI_1]
      refine ⟨_, ⟨?_, fun o k ho => ?_, fun a b ha hb => ?_, ?_, fun a ha => ⟨?_, ?_⟩⟩, rfl⟩
      · exact r1
      · rw [dI_ne (Or.inl (by omega)), dI_ne (Or.inl (by omega))]; exact r2 o k ho
      · rw [dI_ne (Or.inr (by omega)), dI_ne (Or.inl (by omega))]; exact r3 a b ha hb
      · rw [dI_ne (Or.inl (by omega)), dI_ne (Or.inr (by omega))]; exact r4
      · rw [dI_ne (Or.inl (by omega))]
        by_cases e : a = j
        · subst e; rw [dI_at]
        · rw [dI_ne (Or.inr e)]; exact (r5 a (by omega)).1
      · by_cases e : a = j
        · subst e; rw [dI_at, far_comm]
        · rw [dI_ne (Or.inl (by omega)), dI_ne (Or.inl (by omega))]; exact (r5 a (by omega)).2)
    i 0 d2 FUEL (Nat.zero_add _) ⟨rfl, fun _ _ _ => rfl, fun a b ha hb => by rw [f2 _ _ (by omega) (by omega)]; exact (hU a ha).2.2 b hb, by rw [f2 _ _ (by omega) (by omega)]; exact hz, fun a ha => absurd ha (Nat.not_lt_zero _)⟩ (fuel_big (by omega))
  refine ⟨d1, ?_, ⟨(r1.trans g2).trans hf.1, fun o k ho => ?_⟩, fun a ha => ⟨?_, ?_, fun b hb => ?_⟩, fun a ha => ?_⟩
  · refine Eq.trans e ?_
    show mX9_measureFrom_62 t (nI i) (nI (uq q i)) (g + 1) (nI i) d1 = _
    rw [mX9_measureFrom_62, if_pos (Int32.le_refl _)]
  · rw [r2 o k (by omega), f2 o k (by omega) (by omega)]; exact hf.2 o k ho
  · rw [r2 _ _ (by omega)]; exact fx a ha
  · rw [r2 _ _ (by omega)]; exact fy a ha
  · by_cases ea : a = i
    · by_cases eb : b = i
      · subst ea; subst eb; rw [r4.1, far_self]
      · subst ea; exact (r4.2 b (by omega)).1
    · by_cases eb : b = i
      · subst eb; exact (r4.2 a (by omega)).2
      · exact r3 a b (by omega) (by omega)
  · rw [r2 _ _ (by omega), f2 _ _ (by omega) (by omega)]; exact hO a ha
