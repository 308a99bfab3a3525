/-! families: all rows of the class; all rows of the reference; they are the same -/
def lf (l : List Nat) (j : Nat) : Nat := l.getD j 0
def tlf (ρ : Nat → Nat) : List Nat := [ρ 0, ρ 1, ρ 2, ρ 3, ρ 4]
theorem lf_tlf (ρ : Nat → Nat) {j : Nat} (h : j < 5) : lf (tlf ρ) j = ρ j := by
  have : j = 0 ∨ j = 1 ∨ j = 2 ∨ j = 3 ∨ j = 4 := by omega
  rcases this with rfl | rfl | rfl | rfl | rfl <;> rfl
def enumX (B k : Nat) : Nat → List Nat → List (List Nat)
  | 0, _ => []
  | f + 1, l => l :: (match nextF B k (lf l) (B - 1) with | none => [] | some ρ => enumX B k f (tlf ρ))
def good (B : Nat) (l : List Nat) : Prop := NE (lf l) B ∧ ∀ j, j < 5 → lf l j ≤ 4
def bstep (q : Nat → Int32) (s : Option (Int32 × List Nat)) (l : List Nat) : Option (Int32 × List Nat) :=
  match s with
  | none => some (wiG q (lf l), l)
  | some (z, l0) => if z ≤ wiG q (lf l) then some (z, l0) else some (wiG q (lf l), l)
def Cst (fm : Nat) (d : Dt) (q : Nat → Int32) (s : Option (Int32 × List Nat)) : Prop :=
  match s with
  | none => d.1 fm 3 = 2147483647
  | some (z, l) => d.1 fm 3 = z ∧ ∀ b, b < nB q → d.1 (fm + 3) b = nI (lf l b)
theorem X_rows {fm : Nat} {q : Nat → Int32} {k : Nat} (w : WF q) (hB1 : 1 ≤ nB q) (hk1 : 1 ≤ k) (hk : k ≤ 5) : ∀ f l s d fuel, f ≤ 52 → f < fuel → Ro (fm + 2) d (lf l) → Wei fm d q → Cst fm d q s → (∀ r, r ∈ enumX (nB q) k f l → good (nB q) r) →
    ∃ d1, mX2_find_33 fm (nI k) (nI (nB q)) fuel 1 (nI (52 - f)) d = some d1 ∧ XFr fm d d1 ∧ Cst fm d1 q ((enumX (nB q) k f l).foldl (bstep q) s) := by
  have hb := w.b
  intro f
  induction f with
  | zero =>
    intro l s d fuel _ hf hr hw hc _
    obtain ⟨g, rfl⟩ : ∃ e, fuel = e + 1 := ⟨fuel - 1, by omega⟩
    rw [mX2_find_33, if_pos (by decide)]
    exact ⟨d, rfl, ⟨rfl, fun _ _ _ _ _ _ => rfl⟩, hc⟩
  | succ f ih =>
    intro l s d fuel hf52 hf hr hw hc hgood
    obtain ⟨g, rfl⟩ : ∃ e, fuel = e + 1 := ⟨fuel - 1, by omega⟩
    have hgl : good (nB q) l := hgood l (List.mem_cons_self)
    obtain ⟨d1, a1, a2, a3, a4⟩ := X_keep w hr hgl.1 hw
    have hr1 : Ro (fm + 2) d1 (lf l) := fun j hj => ⟨by rw [a3 _ _ (Or.inl (by omega)) (by omega)]; exact (hr j hj).1, (hr j hj).2⟩
    have hw1 : Wei fm d1 q := fun g h1 h2 => by rw [a3 _ _ (Or.inl (by omega)) (by omega)]; exact hw g h1 h2
    have hc1 : Cst fm d1 q (bstep q s l) := by
      have hgr : gr (lf l) (nB q) + 1 ≤ 5 := by have := gr_le (m := 4) (nB q) (fun j hj => hgl.2 j (by omega)); omega
      obtain ⟨z, hz, ez⟩ := wir_nI w (lf l) hgr
      cases s with
      | none =>
        have hlt : ¬ d.1 fm 3 ≤ wiG q (lf l) := by
          rw [show d.1 fm 3 = 2147483647 from hc, show wiG q (lf l) = nI z from ez]
          intro y
          have y1 := Int32.le_iff_toInt_le.mp y
          rw [ti_nI (by omega), show (2147483647 : Int32).toInt = 2147483647 from by decide] at y1
          omega
        rcases a4 with ⟨b1, -⟩ | ⟨-, b2, b3⟩
        · exact absurd b1 hlt
        · exact ⟨b2, b3⟩
      | some p =>
        obtain ⟨z0, l0⟩ := p
        have e3 : d.1 fm 3 = z0 := hc.1
        show Cst fm d1 q (if z0 ≤ wiG q (lf l) then some (z0, l0) else some (wiG q (lf l), l))
        rw [← e3]
        rcases a4 with ⟨b1, b2⟩ | ⟨b1, b2, b3⟩
        · rw [if_pos b1, e3, b2]; exact hc
        · rw [if_neg b1]; exact ⟨b2, b3⟩
    obtain ⟨b, d2, c1, c2, c3, c4⟩ := X_nextRow (k := k) hr1 hb.2 hB1 hk1 hk
    have hw2 : Wei fm d2 q := fun g h1 h2 => by rw [c3 _ _ (by omega)]; exact hw1 g h1 h2
    have hc2 : Cst fm d2 q (bstep q s l) := by
      cases hs : bstep q s l with
      | none => rw [hs] at hc1; exact (c3 fm 3 (by omega)).trans hc1
      | some p =>
        rw [hs] at hc1
        exact ⟨(c3 fm 3 (by omega)).trans hc1.1, fun b hb => (c3 (fm + 3) b (by omega)).trans (hc1.2 b hb)⟩
    have fr : XFr fm d d2 := ⟨c2.trans a2, fun o k h1 h2 h3 h4 => (c3 o k h3).trans (a3 o k h1 h4)⟩
    rw [mX2_find_33, if_neg (show ¬ (52 : Int32) ≤ nI (52 - (f + 1)) from nI_ge (show 52 - (f + 1) < 52 by omega) (by decide)), if_neg (show ¬ (1 : Int32) = 0 by decide), a1, Option.bind_some, c1, Option.bind_some, nI_1, show 52 - (f + 1) + 1 = 52 - f by omega]
    have hfold : (enumX (nB q) k (f + 1) l).foldl (bstep q) s = (match nextF (nB q) k (lf l) (nB q - 1) with | none => [] | some ρ => enumX (nB q) k f (tlf ρ)).foldl (bstep q) (bstep q s l) := rfl
    rw [hfold]
    have hgood2 : ∀ r, r ∈ (match nextF (nB q) k (lf l) (nB q - 1) with | none => [] | some ρ => enumX (nB q) k f (tlf ρ)) → good (nB q) r := fun r hr => hgood r (List.mem_cons_of_mem _ hr)
    cases hn : nextF (nB q) k (lf l) (nB q - 1) with
    | none =>
      rw [hn] at c4
      obtain ⟨rfl, rfl⟩ := c4
      obtain ⟨g, rfl⟩ : ∃ e, g = e + 1 := ⟨g - 1, by omega⟩
      refine ⟨d2, ?_, fr, hc2⟩
      rw [mX2_find_33, if_pos (show b2i false = 0 from rfl), ite_self]
    | some ρ =>
      rw [hn] at c4 hgood2
      obtain ⟨rfl, c5⟩ := c4
      have hr2 : Ro (fm + 2) d2 (lf (tlf ρ)) := fun j hj => by rw [lf_tlf ρ hj]; exact c5 j hj
      obtain ⟨d3, e1, e2, e3⟩ := ih (tlf ρ) (bstep q s l) d2 g (by omega) (by omega) hr2 hw2 hc2 hgood2
      exact ⟨d3, e1, XFr_tr fr e2, e3⟩
theorem X_find {h fm : Nat} {d : Dt} {q : Nat → Int32} {k : Nat} (x : XR h d q) (w : WF q) (hf : h + 75 ≤ fm) (hB1 : 1 ≤ nB q) (hk1 : 1 ≤ k) (hk : k ≤ 5) (hgood : ∀ r, r ∈ enumX (nB q) k 52 [0, 0, 0, 0, 0] → good (nB q) r) :
    ∃ d1, mX2_find fm h (nI k) d = some d1 ∧ XFr fm d d1 ∧ Cst fm d1 q ((enumX (nB q) k 52 [0, 0, 0, 0, 0]).foldl (bstep q) none) := by
  obtain ⟨d1, a1, a2, a3, a4⟩ := X_weigh x w hf
  obtain ⟨d2, b1, b2, b3, b4⟩ := X_fill (r := fm + 2) (d := d1)
  have hB : d.1 (h + 72) 0 = nI (nB q) := x.bu.1.trans w.b.1
  have e3 : (uI d2 fm 3 2147483647).1 fm 3 = 2147483647 := dI_at _ _ _ _
  obtain ⟨d3, c1, c2, c3⟩ := X_rows (fm := fm) w hB1 hk1 hk 52 [0, 0, 0, 0, 0] none (uI d2 fm 3 2147483647) FUEL (Nat.le_refl _) (fuel_big (by omega))
    (fun j hj => ⟨by
      rw [dI_ne (Or.inl (by omega)), b4 j hj]
      have : j = 0 ∨ j = 1 ∨ j = 2 ∨ j = 3 ∨ j = 4 := by omega
      rcases this with rfl | rfl | rfl | rfl | rfl <;> rfl, by
      have : j = 0 ∨ j = 1 ∨ j = 2 ∨ j = 3 ∨ j = 4 := by omega
      rcases this with rfl | rfl | rfl | rfl | rfl <;> decide⟩)
    (fun g h1 h2 => by rw [dI_ne (Or.inl (by omega)), b3 _ _ (by omega)]; exact a4 g h1 h2) e3 hgood
  refine ⟨d3, ?_, ⟨c2.1.trans (b2.trans a2), fun o k h1 h2 h3 h4 => ?_⟩, c3⟩
  · unfold mX2_find
    rw [a1, Option.bind_some, b1, Option.bind_some, hB]
    rw [Nat.sub_self] at c1
    exact c1
  · rw [c2.2 o k h1 h2 h3 h4, dI_ne h1, b3 o k h3, a3 o k h2]
