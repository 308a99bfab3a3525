/-! families: both find the same -/
abbrev Z5 : List Nat := [0, 0, 0, 0, 0]
def eqL : List (List Nat × Nat) → List (List Nat × Nat) → Bool
  | [], [] => true
  | (a, b) :: s, (c, d) :: t => decide (a = c) && (decide (b = d) && eqL s t)
  | _, _ => false
theorem eqL_eq : ∀ s t, eqL s t = true → s = t := by
  intro s
  induction s with
  | nil => intro t h; cases t with
    | nil => rfl
    | cons x t => exact absurd h (by intro z; cases z)
  | cons x s ih =>
    intro t h
    obtain ⟨a, b⟩ := x
    cases t with
    | nil => exact absurd h (by intro z; cases z)
    | cons y t =>
      obtain ⟨c, d⟩ := y
      have h : (decide (a = c) && (decide (b = d) && eqL s t)) = true := h
      obtain ⟨h1, h2⟩ := Bool.and_eq_true_iff.mp h
      obtain ⟨h2, h3⟩ := Bool.and_eq_true_iff.mp h2
      rw [show a = c by simpa using h1, show b = d by simpa using h2, ih t h3]
theorem rows_eqB : ((List.range 5).all fun B => (List.range 5).all fun k => eqL (trL (B + 1) (k + 1) 7 [] 0) ((enumX (B + 1) (k + 1) 52 Z5).map (fun l => (l, gr (lf l) (B + 1) + 1)))) = true := by decide +kernel
theorem rows_eq {B k : Nat} (h1 : B < 6) (h2 : 1 ≤ B) (h3 : k < 6) (h4 : 1 ≤ k) : trL B k 7 [] 0 = (enumX B k 52 Z5).map (fun l => (l, gr (lf l) B + 1)) := by
  obtain ⟨B, rfl⟩ : ∃ b, B = b + 1 := ⟨B - 1, by omega⟩
  obtain ⟨k, rfl⟩ : ∃ b, k = b + 1 := ⟨k - 1, by omega⟩
  exact eqL_eq _ _ (List.all_eq_true.mp (List.all_eq_true.mp rows_eqB B (List.mem_range.mpr (by omega))) k (List.mem_range.mpr (by omega)))
def goodB (B : Nat) (l : List Nat) : Bool := (List.range 5).all (fun g => decide (gr (lf l) B < g) || (decide (1 ≤ (grp (lf l) B g).toNatClampNeg) && (decide ((grp (lf l) B g).toNatClampNeg < 2 ^ B) && decide (grp (lf l) B g = nI (grp (lf l) B g).toNatClampNeg)))) && (List.range 5).all (fun j => decide (lf l j ≤ 4))
theorem rows_goodB : ((List.range 5).all fun B => (List.range 5).all fun k => (enumX (B + 1) (k + 1) 52 Z5).all (goodB (B + 1))) = true := by decide +kernel
theorem rows_good {B k : Nat} (h1 : B < 6) (h2 : 1 ≤ B) (h3 : k < 6) (h4 : 1 ≤ k) : (enumX B k 52 Z5).all (goodB B) = true := by
  obtain ⟨B, rfl⟩ : ∃ b, B = b + 1 := ⟨B - 1, by omega⟩
  obtain ⟨k, rfl⟩ : ∃ b, k = b + 1 := ⟨k - 1, by omega⟩
  exact List.all_eq_true.mp (List.all_eq_true.mp rows_goodB B (List.mem_range.mpr (by omega))) k (List.mem_range.mpr (by omega))
theorem good_of {B : Nat} {l : List Nat} (hB : B ≤ 5) (h : goodB B l = true) : good B l := by
  unfold goodB at h
  obtain ⟨h1, h2⟩ := Bool.and_eq_true_iff.mp h
  rw [List.all_eq_true] at h1 h2
  have l4 : ∀ j, j < 5 → lf l j ≤ 4 := fun j hj => by simpa using h2 j (List.mem_range.mpr hj)
  refine ⟨fun g hg => ?_, l4⟩
  have g4 : gr (lf l) B ≤ 4 := gr_le B fun j hj => l4 j (by omega)
  have := h1 g (List.mem_range.mpr (by omega))
  rcases Bool.or_eq_true_iff.mp this with h3 | h3
  · have : gr (lf l) B < g := by simpa using h3
    omega
  · obtain ⟨a, b⟩ := Bool.and_eq_true_iff.mp h3
    obtain ⟨b, c⟩ := Bool.and_eq_true_iff.mp b
    exact ⟨_, by simpa using a, by simpa using b, by simpa using c⟩
theorem fold_corr (q : Nat → Int32) : ∀ (L : List (List Nat)) (s : Option (Int32 × List Nat)), (L.map (fun l => (l, gr (lf l) (nB q) + 1))).foldl (rstep q) (s.map fun p => (p.1, p.2, gr (lf p.2) (nB q) + 1)) = (L.foldl (bstep q) s).map fun p => (p.1, p.2, gr (lf p.2) (nB q) + 1) := by
  intro L
  induction L with
  | nil => intro s; rfl
  | cons l L ih =>
    intro s
    show (L.map _).foldl (rstep q) (rstep q (s.map _) (l, gr (lf l) (nB q) + 1)) = (L.foldl (bstep q) (bstep q s l)).map _
    rw [← ih]
    congr 1
    cases s with
    | none => rfl
    | some p =>
      obtain ⟨z, l0⟩ := p
      show (if z ≤ wiG q (lf l) then some (z, l0, gr (lf l0) (nB q) + 1) else some (wiG q (lf l), l, gr (lf l) (nB q) + 1)) = (if z ≤ wiG q (lf l) then some (z, l0) else some (wiG q (lf l), l)).map _
      split <;> rfl
theorem fold_mem (q : Nat → Int32) : ∀ (L : List (List Nat)) (s : Option (Int32 × List Nat)) (P : List Nat → Prop), (∀ l, l ∈ L → P l) → (∀ p, s = some p → P p.2) → ∀ p, L.foldl (bstep q) s = some p → P p.2 := by
  intro L
  induction L with
  | nil => intro s P _ h p hp; exact h p hp
  | cons l L ih =>
    intro s P hL h p hp
    refine ih (bstep q s l) P (fun a ha => hL a (List.mem_cons_of_mem _ ha)) (fun p2 hp2 => ?_) p hp
    have hl := hL l List.mem_cons_self
    cases s with
    | none =>
      have : some (wiG q (lf l), l) = some p2 := hp2
      cases this; exact hl
    | some p0 =>
      obtain ⟨z, l0⟩ := p0
      have hp2 : (if z ≤ wiG q (lf l) then some (z, l0) else some (wiG q (lf l), l)) = some p2 := hp2
      split at hp2
      · cases hp2; exact h _ rfl
      · cases hp2; exact hl
theorem fold_some (q : Nat → Int32) : ∀ (L : List (List Nat)) (s : Option (Int32 × List Nat)), s ≠ none → L.foldl (bstep q) s ≠ none := by
  intro L
  induction L with
  | nil => intro s h; exact h
  | cons l L ih =>
    intro s h
    refine ih _ ?_
    cases s with
    | none => exact absurd rfl h
    | some p =>
      obtain ⟨z, l0⟩ := p
      show (if z ≤ wiG q (lf l) then some (z, l0) else some (wiG q (lf l), l)) ≠ none
      split <;> exact fun z => by cases z
theorem fam_all {m h fm : Nat} {d d2 : Dt} {q : Nat → Int32} {k : Nat} (x : XR h d q) (hM : MR m d2 q) (w : WF q) (hf : h + 75 ≤ fm) (hB1 : 1 ≤ nB q) (hk1 : 1 ≤ k) (hk : k ≤ 5) :
    ∃ z l, (∀ j, j < 5 → lf l j ≤ 4) ∧ (∃ d1, mX2_find fm h (nI k) d = some d1 ∧ XFr fm d d1 ∧ d1.1 fm 3 = z ∧ ∀ b, b < nB q → d1.1 (fm + 3) b = nI (lf l b)) ∧
      ∃ d3, mX12_laysFamilies m (nI k) d2 = some d3 ∧ MFm m d2 d3 ∧ d3.1 m 30 = z ∧ d3.1 m 31 = nI (gr (lf l) (nB q) + 1) ∧ ∀ b, b < nB q → d3.1 (m + 12) b = nI (lf l b) := by
  have hb := w.b
  have hgd : ∀ r, r ∈ enumX (nB q) k 52 Z5 → good (nB q) r := fun r hr => good_of hb.2 (List.all_eq_true.mp (rows_good (B := nB q) (k := k) (by omega) hB1 (by omega) hk1) r hr)
  obtain ⟨d1, a1, a2, a3⟩ := X_find x w hf hB1 hk1 hk hgd
  have e0 : (uI d2 m 31 0).1 m 31 = 0 := dI_at _ _ _ _
  obtain ⟨d3, b1, b2, -, b3⟩ := M_tries (m := m) (q := q) (k := k) w hk1 hk 7 [] 0 none (uI d2 m 31 0) (Nat.zero_le _) (by show nB q + 1 ≤ 0 + 7; omega) (Nat.le_refl _) (fun h => absurd h (by decide)) hB1 (fun j hj => by rw [dI_ne (Or.inl (by omega))]; exact hM j hj) (fun j hj => absurd hj (Nat.not_lt_zero _)) e0
  rw [rows_eq (B := nB q) (k := k) (by omega) hB1 (by omega) hk1] at b3
  have fc := fold_corr q (enumX (nB q) k 52 Z5) none
  rw [show (Option.map (fun p : Int32 × List Nat => (p.1, p.2, gr (lf p.2) (nB q) + 1)) none) = none from rfl] at fc
  rw [fc] at b3
  have hne : (enumX (nB q) k 52 Z5).foldl (bstep q) none ≠ none := fold_some q _ (some (wiG q (lf Z5), Z5)) (fun z => by cases z)
  cases hF : (enumX (nB q) k 52 Z5).foldl (bstep q) none with
  | none => exact absurd hF hne
  | some p =>
    obtain ⟨z, l⟩ := p
    rw [hF] at a3 b3
    have hl := fold_mem q _ none (good (nB q)) hgd (fun p hp => by cases hp) (z, l) hF
    obtain ⟨c1, c2, c3, c4⟩ := b3
    refine ⟨z, l, hl.2, ⟨d1, a1, a2, a3.1, a3.2⟩, d3, ?_, ⟨b2.1, fun o j h1 h2 h3 => ?_⟩, c1, c2, c4⟩
    · unfold mX12_laysFamilies
      show (mX12_tries 7 m (nI ([] : List Nat).length) (nI 0) (nI k) (uI d2 m 31 0)).bind _ = _
      rw [b1]; rfl
    · rw [b2.2 o j h1 h2 h3, dI_ne (by omega)]
theorem X_countBest {fm B : Nat} {d : Dt} {l : List Nat} (hB : B ≤ 5) (hl : ∀ j, j < 5 → lf l j ≤ 4) (h : ∀ b, b < B → d.1 (fm + 3) b = nI (lf l b)) : mX2_countBest fm (nI B) d = some (nI (gr (lf l) B + 1)) := by
  have lp := loop_fo (fun f i v => mX2_greatest_4 d (fm + 3) (nI B) f v i) (fun i v => mxI v (nI (lf l i))) some B (fun _ _ => True)
    (fun fuel i v hi _ => by
      show mX2_greatest_4 d (fm + 3) (nI B) (fuel + 1) v (nI i) = _
      rw [mX2_greatest_4, if_neg (nI_ge hi (by omega)), if_pos (inB_nI (by omega) (by decide)), cl_nI (by omega), h i hi, nI_1])
    (fun _ _ _ _ => trivial)
    (fun fuel v _ => by
      show mX2_greatest_4 d (fm + 3) (nI B) (fuel + 1) v (nI B) = _
      rw [mX2_greatest_4, if_pos (Int32.le_refl _)])
    B 0 0 FUEL (Nat.zero_add _) trivial (fuel_big (by omega))
  have e := fo_ind (f := fun i v => mxI v (nI (lf l i))) (fun j v => j ≤ B → v = nI (gr (lf l) j)) B 0 0 (fun _ => rfl) (fun j v _ hj hv hle => by
    rw [hv (by omega)]
    exact mxI_nI (Nat.lt_of_le_of_lt (gr_le (m := 4) j (fun i hi => hl i (by omega))) (by omega)) (by have := hl j (by omega); omega))
  rw [Nat.zero_add] at e
  rw [e (Nat.le_refl _)] at lp
  unfold mX2_countBest
  rw [show mX2_greatest (fm + 3) (nI B) d = some (nI (gr (lf l) B)) from lp, Option.bind_some, nI_1]
