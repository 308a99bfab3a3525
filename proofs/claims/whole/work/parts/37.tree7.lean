/-! extents, span, how many off a node -/
def lst (l : List Int32) (q : Nat → Int32) : Int32 := fo (fun i t => mnI t (pos l q i)) 0 (nN q) 0
def gst (l : List Int32) (q : Nat → Int32) : Int32 := fo (fun i t => mxI t (pos l q i)) 0 (nN q) 0
theorem X_leastOf {t r : Nat} {d : Dt} {q : Nat → Int32} (x : XTr t d q) (w : WF q) (l : List Int32) (hr : ∀ i, i < nN q → d.1 r i = pos l q i) : mX9_leastOf t r d = some (lst l q) := by
  have hn := w.n
  have rd : d.1 t 0 = nI (nN q) := x.1.trans hn.1
  unfold mX9_leastOf lst
  exact loop_fo (fun n i v => mX9_leastOf_4 d t r n v i) _ some (nN q) (fun _ _ => True)
    (fun fuel i v hi _ => by
      show mX9_leastOf_4 d t r (fuel + 1) v (nI i) = _
      rw [mX9_leastOf_4, rd, if_neg (nI_ge hi (by omega)), if_pos (inB_nI (by omega) (by decide)), cl_nI (by omega), hr i hi, nI_1])
    (fun _ _ _ _ => trivial)
    (fun fuel v _ => by
      show mX9_leastOf_4 d t r (fuel + 1) v (nI (nN q)) = _
      rw [mX9_leastOf_4, rd, if_pos (Int32.le_refl _)])
    (nN q) 0 0 FUEL (Nat.zero_add _) trivial (fuel_big (by omega))
theorem X_greatestG {t r : Nat} {d : Dt} {q : Nat → Int32} (x : XTr t d q) (w : WF q) (f : Nat → Int32) (hr : ∀ i, i < nN q → d.1 r i = f i) : mX9_greatestOf t r d = some (fo (fun i t => mxI t (f i)) 0 (nN q) 0) := by
  have hn := w.n
  have rd : d.1 t 0 = nI (nN q) := x.1.trans hn.1
  unfold mX9_greatestOf
  exact loop_fo (fun n i v => mX9_greatestOf_4 d t r n v i) _ some (nN q) (fun _ _ => True)
    (fun fuel i v hi _ => by
      show mX9_greatestOf_4 d t r (fuel + 1) v (nI i) = _
      rw [mX9_greatestOf_4, rd, if_neg (nI_ge hi (by omega)), if_pos (inB_nI (by omega) (by decide)), cl_nI (by omega), hr i hi, nI_1])
    (fun _ _ _ _ => trivial)
    (fun fuel v _ => by
      show mX9_greatestOf_4 d t r (fuel + 1) v (nI (nN q)) = _
      rw [mX9_greatestOf_4, rd, if_pos (Int32.le_refl _)])
    (nN q) 0 0 FUEL (Nat.zero_add _) trivial (fuel_big (by omega))
def ext (q : Nat → Int32) (k : Nat) : Int32 := if k = 0 then lst LX q else if k = 1 then gst LX q else if k = 2 then lst LY q else gst LY q
theorem M_extent {m : Nat} {d : Dt} {q : Nat → Int32} (hM : MR m d q) (w : WF q) (hP : MP m d q (nN q)) {k : Nat} (hk : k < 4) : mX12_extent_44 m (nI k) FUEL 0 0 d = some (ext q k, d) := by
  have hn := w.n
  have key : ∀ (F : Nat → Int32 → Int32), (∀ fuel i v, i < nN q → mX12_extent_44 m (nI k) (fuel + 1) v (nI i) d = mX12_extent_44 m (nI k) fuel (F i v) (nI (i + 1)) d) → mX12_extent_44 m (nI k) FUEL 0 0 d = some (fo F 0 (nN q) 0, d) := fun F hF =>
    loop_fo (fun n i v => mX12_extent_44 m (nI k) n v i d) F (fun v => some (v, d)) (nN q) (fun _ _ => True)
      (fun fuel i v hi _ => hF fuel i v hi) (fun _ _ _ _ => trivial)
      (fun fuel v _ => by
        show mX12_extent_44 m (nI k) (fuel + 1) v (nI (nN q)) d = _
        rw [mX12_extent_44, if_pos ib2, row2 hM, hn.1, if_pos (Int32.le_refl _)])
      (nN q) 0 0 FUEL (Nat.zero_add _) trivial (fuel_big (by omega))
  have k4 : k = 0 ∨ k = 1 ∨ k = 2 ∨ k = 3 := by omega
  unfold ext
  rcases k4 with rfl | rfl | rfl | rfl
  · refine key (fun i t => mnI t (pos LX q i)) fun fuel i v hi => ?_
    rw [mX12_extent_44, if_pos ib2, row2 hM, hn.1, if_neg (nI_ge hi (by omega)), if_neg (show ¬ (2 : Int32) ≤ nI 0 by decide), if_pos (inB_nI (by omega) (by decide)), cl_nI (by omega), (hP i hi).1]
    unfold mX12_extent_74
    rw [if_pos (by decide), nI_1, mn_eq]
  · refine key (fun i t => mxI t (pos LX q i)) fun fuel i v hi => ?_
    rw [mX12_extent_44, if_pos ib2, row2 hM, hn.1, if_neg (nI_ge hi (by omega)), if_neg (show ¬ (2 : Int32) ≤ nI 1 by decide), if_pos (inB_nI (by omega) (by decide)), cl_nI (by omega), (hP i hi).1]
    unfold mX12_extent_74
    rw [if_neg (by decide), nI_1, mx_eq]
  · refine key (fun i t => mnI t (pos LY q i)) fun fuel i v hi => ?_
    rw [mX12_extent_44, if_pos ib2, row2 hM, hn.1, if_neg (nI_ge hi (by omega)), if_pos (show (2 : Int32) ≤ nI 2 by decide), if_pos (inB_nI (by omega) (by decide)), cl_nI (by omega), (hP i hi).2]
    unfold mX12_extent_74
    rw [if_pos (by decide), nI_1, mn_eq]
  · refine key (fun i t => mxI t (pos LY q i)) fun fuel i v hi => ?_
    rw [mX12_extent_44, if_pos ib2, row2 hM, hn.1, if_neg (nI_ge hi (by omega)), if_pos (show (2 : Int32) ≤ nI 3 by decide), if_pos (inB_nI (by omega) (by decide)), cl_nI (by omega), (hP i hi).2]
    unfold mX12_extent_74
    rw [if_neg (by decide), nI_1, mx_eq]
-- span
def MxOf (P : Int32 → Prop) (z : Int32) : Prop := P z ∧ ∀ y, P y → y.toInt ≤ z.toInt
theorem MxOf_uni {P : Int32 → Prop} {a b : Int32} (ha : MxOf P a) (hb : MxOf P b) : a = b := Int32.toInt_inj.mp (by have := ha.2 b hb.1; have := hb.2 a ha.1; omega)
theorem MxOf_or {P Q R : Int32 → Prop} {a b : Int32} (ha : MxOf P a) (hb : MxOf Q b) (h : ∀ z, R z ↔ P z ∨ Q z) : MxOf R (mxI a b) := by
  have t := ti_mx a b
  refine ⟨?_, fun z hz => ?_⟩
  · unfold mxI
    split
    · exact (h _).mpr (Or.inr hb.1)
    · exact (h _).mpr (Or.inl ha.1)
  · rcases (h z).mp hz with h1 | h1
    · have := ha.2 z h1; rw [t]; split <;> omega
    · have := hb.2 z h1; rw [t]; split <;> omega
theorem MxOf_one (v : Int32) : MxOf (fun z => z = v) v := ⟨rfl, fun y hy => by rw [show y = v from hy]; exact Int.le_refl _⟩
theorem MxOf_iff {P Q : Int32 → Prop} {a : Int32} (h : MxOf P a) (e : ∀ z, Q z ↔ P z) : MxOf Q a := ⟨(e _).mpr h.1, fun y hy => h.2 y ((e y).mp hy)⟩
theorem X_span {t : Nat} {d : Dt} {q : Nat → Int32} (x : XTr t d q) (y : XTd t d q) (w : WF q) : ∃ r, mX9_greatestApart t d = some r ∧ MxOf (fun z => z = 0 ∨ ∃ a b, a < nN q ∧ b < nN q ∧ z = far q a b) r := by
  have hn := w.n
  have rd : d.1 t 0 = nI (nN q) := x.1.trans hn.1
  have lp : mX9_greatestApart t d = some (fo (fun a v => mxI v (fo (fun i t => mxI t (far q a i)) 0 (nN q) 0)) 0 (nN q) 0) := by
    unfold mX9_greatestApart
    exact loop_fo (fun n i v => mX9_greatestApart_4 d t n v i) _ some (nN q) (fun _ _ => True)
      (fun fuel i v hi _ => by
        show mX9_greatestApart_4 d t (fuel + 1) v (nI i) = _
        rw [mX9_greatestApart_4, rd, if_neg (nI_ge hi (by omega)), if_pos (inB_nI (by omega) (by decide)), cl_nI (by omega), X_greatestG x w (far q i) (y i hi).2.2.2, Option.bind_some, nI_1])
      (fun _ _ _ _ => trivial)
      (fun fuel v _ => by
        show mX9_greatestApart_4 d t (fuel + 1) v (nI (nN q)) = _
        rw [mX9_greatestApart_4, rd, if_pos (Int32.le_refl _)])
      (nN q) 0 0 FUEL (Nat.zero_add _) trivial (fuel_big (by omega))
  have inner : ∀ a, MxOf (fun z => z = 0 ∨ ∃ b, b < nN q ∧ z = far q a b) (fo (fun i t => mxI t (far q a i)) 0 (nN q) 0) := by
    intro a
    have := fo_ind (f := fun i t => mxI t (far q a i)) (fun j v => MxOf (fun z => z = 0 ∨ ∃ b, b < j ∧ z = far q a b) v) (nN q) 0 0 (MxOf_iff (MxOf_one 0) (fun z => ⟨fun h => h.elim id (fun ⟨b, hb, _⟩ => absurd hb (Nat.not_lt_zero _)), Or.inl⟩))
      (fun j v _ _ hv => MxOf_or hv (MxOf_one (far q a j)) (fun z => ⟨fun h => by
        rcases h with h | ⟨b, hb, h⟩
        · exact Or.inl (Or.inl h)
        · by_cases e : b = j
          · subst e; exact Or.inr h
          · exact Or.inl (Or.inr ⟨b, by omega, h⟩), fun h => by
        rcases h with (h | ⟨b, hb, h⟩) | h
        · exact Or.inl h
        · exact Or.inr ⟨b, by omega, h⟩
        · exact Or.inr ⟨j, by omega, h⟩⟩))
    rw [Nat.zero_add] at this
    exact this
  refine ⟨_, lp, ?_⟩
  have := fo_ind (f := fun a v => mxI v (fo (fun i t => mxI t (far q a i)) 0 (nN q) 0)) (fun j v => MxOf (fun z => z = 0 ∨ ∃ a b, a < j ∧ b < nN q ∧ z = far q a b) v) (nN q) 0 0 (MxOf_iff (MxOf_one 0) (fun z => ⟨fun h => h.elim id (fun ⟨a, b, ha, _⟩ => absurd ha (Nat.not_lt_zero _)), Or.inl⟩))
    (fun j v _ _ hv => MxOf_or hv (inner j) (fun z => ⟨fun h => by
      rcases h with h | ⟨a, b, ha, hb, h⟩
      · exact Or.inl (Or.inl h)
      · by_cases e : a = j
        · subst e; exact Or.inr (Or.inr ⟨b, hb, h⟩)
        · exact Or.inl (Or.inr ⟨a, b, by omega, hb, h⟩), fun h => by
      rcases h with (h | ⟨a, b, ha, hb, h⟩) | h | ⟨b, hb, h⟩
      · exact Or.inl h
      · exact Or.inr ⟨a, b, by omega, hb, h⟩
      · exact Or.inl h
      · exact Or.inr ⟨j, b, by omega, hb, h⟩⟩))
  rw [Nat.zero_add] at this
  exact this
theorem M_span {m : Nat} {d : Dt} {q : Nat → Int32} (hM : MR m d q) (w : WF q) : ∃ r, mX12_span_20 m FUEL 0 0 d = some (r, d) ∧ MxOf (fun z => z = 0 ∨ ∃ a b, a < nN q ∧ b < nN q ∧ z = far q a b) r := by
  have hn := w.n
  have lp : mX12_span_20 m FUEL 0 0 d = some (fo (fun a v => fo (fun b t => mxI t (far q a b)) 0 a v) 0 (nN q) 0, d) :=
    loop_fo (fun n i v => mX12_span_20 m n v i d) (fun a v => fo (fun b t => mxI t (far q a b)) 0 a v) (fun v => some (v, d)) (nN q) (fun _ _ => True)
      (fun fuel a v ha _ => by
        show mX12_span_20 m (fuel + 1) v (nI a) d = _
        rw [mX12_span_20, if_pos ib2, row2 hM, hn.1, if_neg (nI_ge ha (by omega))]
        refine loop_fo (fun n j v => mX12_span_32 (mX12_span_20 m fuel) m (nI a) n v j d) (fun b t => mxI t (far q a b)) (fun v => mX12_span_20 m fuel v (nI (a + 1)) d) a (fun _ _ => True)
          (fun f2 j v hj _ => ?_) (fun _ _ _ _ => trivial) (fun f2 v _ => ?_) a 0 v FUEL (Nat.zero_add _) trivial (fuel_big (by omega))
        · show mX12_span_32 (mX12_span_20 m fuel) m (nI a) (f2 + 1) v (nI j) d = _
          rw [mX12_span_32, if_neg (nI_ge hj (by omega)), M_farOf hM w ha (by omega), Option.bind_some, Option.bind_some, nI_1]
          unfold mxI
          by_cases e : far q a j ≤ v
          · rw [if_pos e, if_neg (Int32.not_lt.mpr e)]
          · rw [if_neg e, if_pos (Int32.not_le.mp e)]
        · show mX12_span_32 (mX12_span_20 m fuel) m (nI a) (f2 + 1) v (nI a) d = _
          rw [mX12_span_32, if_pos (Int32.le_refl _), nI_1])
      (fun _ _ _ _ => trivial)
      (fun fuel v _ => by
        show mX12_span_20 m (fuel + 1) v (nI (nN q)) d = _
        rw [mX12_span_20, if_pos ib2, row2 hM, hn.1, if_pos (Int32.le_refl _)])
      (nN q) 0 0 FUEL (Nat.zero_add _) trivial (fuel_big (by omega))
  refine ⟨_, lp, ?_⟩
  have h2 := fo_ind (f := fun a v => fo (fun b t => mxI t (far q a b)) 0 a v) (fun j v => MxOf (fun z => z = 0 ∨ ∃ a b, a < j ∧ b < a ∧ z = far q a b) v) (nN q) 0 0 (MxOf_iff (MxOf_one 0) (fun z => ⟨fun h => h.elim id (fun ⟨a, b, ha, _⟩ => absurd ha (Nat.not_lt_zero _)), Or.inl⟩))
    (fun j v _ _ hv => by
      have h3 := fo_ind (f := fun b t => mxI t (far q j b)) (fun k v => MxOf (fun z => (z = 0 ∨ ∃ a b, a < j ∧ b < a ∧ z = far q a b) ∨ ∃ b, b < k ∧ z = far q j b) v) j 0 v (MxOf_iff hv (fun z => ⟨fun h => h.elim id (fun ⟨b, hb, _⟩ => absurd hb (Nat.not_lt_zero _)), Or.inl⟩))
        (fun k v _ _ hv => MxOf_or hv (MxOf_one (far q j k)) (fun z => ⟨fun h => by
          rcases h with h | ⟨b, hb, h⟩
          · exact Or.inl (Or.inl h)
          · by_cases e : b = k
            · subst e; exact Or.inr h
            · exact Or.inl (Or.inr ⟨b, by omega, h⟩), fun h => by
          rcases h with (h | ⟨b, hb, h⟩) | h
          · exact Or.inl h
          · exact Or.inr ⟨b, by omega, h⟩
          · exact Or.inr ⟨k, by omega, h⟩⟩))
      rw [Nat.zero_add] at h3
      refine MxOf_iff h3 (fun z => ⟨fun h => ?_, fun h => ?_⟩)
      · rcases h with h | ⟨a, b, ha, hb, h⟩
        · exact Or.inl (Or.inl h)
        · by_cases e : a = j
          · subst e; exact Or.inr ⟨b, hb, h⟩
          · exact Or.inl (Or.inr ⟨a, b, by omega, hb, h⟩)
      · rcases h with (h | ⟨a, b, ha, hb, h⟩) | ⟨b, hb, h⟩
        · exact Or.inl h
        · exact Or.inr ⟨a, b, by omega, hb, h⟩
        · exact Or.inr ⟨j, b, by omega, hb, h⟩)
  rw [Nat.zero_add] at h2
  refine MxOf_iff h2 (fun z => ⟨fun h => ?_, fun h => ?_⟩)
  · rcases h with h | ⟨a, b, ha, hb, h⟩
    · exact Or.inl h
    · rcases Nat.lt_trichotomy a b with e | e | e
      · exact Or.inr ⟨b, a, hb, e, by rw [far_comm]; exact h⟩
      · subst e; rw [far_self] at h; exact Or.inl h
      · exact Or.inr ⟨a, b, ha, e, h⟩
  · rcases h with h | ⟨a, b, ha, hb, h⟩
    · exact Or.inl h
    · exact Or.inr ⟨a, b, ha, by omega, h⟩
def off (q : Nat → Int32) (v : Int32) : Int32 := fo (fun i t => if q (7 + i) = v then t + 1 else t) 1 (nN q - 1) 0
theorem X_countOff {t : Nat} {d : Dt} {q : Nat → Int32} (x : XTr t d q) (w : WF q) (v : Int32) : mX9_countOff t v d = some (off q v) := by
  have hn := w.n
  have rd : d.1 t 0 = nI (nN q) := x.1.trans hn.1
  unfold mX9_countOff off
  exact loop_fo (fun n i s => mX9_countOff_4 d t v n s i) _ some (nN q) (fun a _ => 1 ≤ a)
    (fun fuel i s hi _ => by
      show mX9_countOff_4 d t v (fuel + 1) s (nI i) = mX9_countOff_4 d t v fuel (if q (7 + i) = v then s + 1 else s) _
      rw [mX9_countOff_4, rd, if_neg (nI_ge hi (by omega)), if_pos (inB_nI (by omega) (by decide)), cl_nI (by omega), (x.2 i hi).1, nI_1]
      by_cases e : q (7 + i) = v
      · rw [if_pos e, if_pos e]
      · rw [if_neg e, if_neg e])
    (fun _ _ _ _ => by omega)
    (fun fuel s _ => by
      show mX9_countOff_4 d t v (fuel + 1) s (nI (nN q)) = _
      rw [mX9_countOff_4, rd, if_pos (Int32.le_refl _)])
    (nN q - 1) 1 0 FUEL (by omega) (Nat.le_refl _) (fuel_big (by omega))
