/-! families: the class's rows, one after another -/
def XFr (fm : Nat) (d0 d : Dt) : Prop := d.2 = d0.2 ∧ ∀ o k, (o ≠ fm ∨ k ≠ 3) → o ≠ fm + 1 → o ≠ fm + 2 → o ≠ fm + 3 → d.1 o k = d0.1 o k
theorem XFr_tr {fm : Nat} {a b c : Dt} (h1 : XFr fm a b) (h2 : XFr fm b c) : XFr fm a c := ⟨h2.1.trans h1.1, fun o k a b c d => (h2.2 o k a b c d).trans (h1.2 o k a b c d)⟩
def Wei (fm : Nat) (d : Dt) (q : Nat → Int32) : Prop := ∀ g, 1 ≤ g → g < 2 ^ nB q → d.1 (fm + 1) g = ned q (nI g)
theorem pow_B : ∀ B, B ≤ 5 → (1 : Int32) <<< (nI B &&& 31) = nI (2 ^ B) ∧ 2 ^ B ≤ 32 := by decide +kernel
theorem X_weigh {h fm : Nat} {d : Dt} {q : Nat → Int32} (x : XR h d q) (w : WF q) (hf : h + 75 ≤ fm) : ∃ d1, mX2_weighGroups fm h d = some d1 ∧ d1.2 = d.2 ∧ (∀ o k, o ≠ fm + 1 → d1.1 o k = d.1 o k) ∧ Wei fm d1 q := by
  have hb := w.b
  obtain ⟨p1, p2⟩ := pow_B (nB q) hb.2
  have p3 : 1 ≤ 2 ^ nB q := Nat.one_le_two_pow
  unfold mX2_weighGroups
  obtain ⟨d1, g, ⟨r1, r2, r3⟩, e⟩ := loop_rel (fun n i d => mX2_weighGroups_2 fm h n i d) (fun i d1 => d1.2 = d.2 ∧ (∀ o k, o ≠ fm + 1 → d1.1 o k = d.1 o k) ∧ (1 ≤ i ∧ ∀ g, 1 ≤ g → g < i → d1.1 (fm + 1) g = ned q (nI g))) (2 ^ nB q)
    (fun fuel i d1 hi hR => by
      obtain ⟨r1, r2, r3, r4⟩ := hR
      have x1 : XR h d1 q := XR_congr x (fun o k h1 h2 => r2 o k (by omega)) w
      show ∃ b, _ ∧ mX2_weighGroups_2 fm h (fuel + 1) (nI i) d1 = _
      rw [mX2_weighGroups_2, show d1.1 (h + 72) 0 = nI (nB q) from x1.bu.1.trans hb.1, p1, if_neg (nI_ge hi (by omega)), X_lengthFor x1 w, Option.bind_some, X_harnessesOf x1 w, Option.bind_some, if_pos (inB_nI (by omega) (by decide)), cl_nI (by omega), nI_1]
      refine ⟨uI d1 (fm + 1) i (com q (nI i) * har q (nI i)), ⟨r1, fun o k ho => by rw [dI_ne (Or.inl ho)]; exact r2 o k ho, by omega, fun g h1 h2 => ?_⟩, rfl⟩
      by_cases e : g = i
      · subst e; rw [dI_at]; rfl
      · rw [dI_ne (Or.inr e)]; exact r4 g h1 (by omega))
    (2 ^ nB q - 1) 1 d FUEL (by omega) ⟨rfl, fun _ _ _ => rfl, Nat.le_refl _, fun g h1 h2 => by omega⟩ (fuel_big (by omega))
  refine ⟨d1, ?_, r1, r2, r3.2⟩
  have x1 : XR h d1 q := XR_congr x (fun o k h1 h2 => r2 o k (by omega)) w
  refine Eq.trans e ?_
  show mX2_weighGroups_2 fm h (g + 1) (nI (2 ^ nB q)) d1 = _
  rw [mX2_weighGroups_2, show d1.1 (h + 72) 0 = nI (nB q) from x1.bu.1.trans hb.1, p1, if_pos (Int32.le_refl _)]
theorem X_fill {r : Nat} {d : Dt} : ∃ d1, mJ7_fill_53178 r 0 d = some d1 ∧ d1.2 = d.2 ∧ (∀ o k, o ≠ r → d1.1 o k = d.1 o k) ∧ ∀ j, j < 5 → d1.1 r j = 0 := by
  obtain ⟨d1, g, ⟨r1, r2, r3⟩, e⟩ := loop_rel (fun n i d => mJ7_fill_53178_5 r 0 (nI 5) n i d) (fun i d1 => d1.2 = d.2 ∧ (∀ o k, o ≠ r → d1.1 o k = d.1 o k) ∧ ∀ j, j < i → d1.1 r j = 0) 5
    (fun fuel i d1 hi hR => by
      obtain ⟨r1, r2, r3⟩ := hR
      show ∃ b, _ ∧ mJ7_fill_53178_5 r 0 (nI 5) (fuel + 1) (nI i) d1 = _
      rw [mJ7_fill_53178_5, if_neg (nI_ge hi (by omega)), if_pos (inB_nI (by omega) (by decide)), cl_nI (by omega), nI_1]
      refine ⟨uI d1 r i 0, ⟨r1, fun o k ho => by rw [dI_ne (Or.inl ho)]; exact r2 o k ho, fun j hj => ?_⟩, rfl⟩
      by_cases e : j = i
      · subst e; rw [dI_at]
      · rw [dI_ne (Or.inr e)]; exact r3 j (by omega))
    5 0 d FUEL rfl ⟨rfl, fun _ _ _ => rfl, fun j hj => absurd hj (Nat.not_lt_zero _)⟩ (fuel_big (by omega))
  refine ⟨d1, ?_, r1, r2, r3⟩
  refine Eq.trans (show mJ7_fill_53178 r 0 d = mJ7_fill_53178_5 r 0 (nI 5) FUEL (nI 0) d from rfl) (Eq.trans e ?_)
  show mJ7_fill_53178_5 r 0 (nI 5) (g + 1) (nI 5) d1 = _
  rw [mJ7_fill_53178_5, if_pos (Int32.le_refl _)]
/-- no group of a row is empty -/
def NE (ρ : Nat → Nat) (B : Nat) : Prop := ∀ g, g ≤ gr ρ B → ∃ p, 1 ≤ p ∧ p < 2 ^ B ∧ grp ρ B g = nI p
def wiG (q : Nat → Int32) (ρ : Nat → Nat) : Int32 := wir q ρ (gr ρ (nB q) + 1)
theorem Ro_gr {r : Nat} {d : Dt} {ρ : Nat → Nat} (h : Ro r d ρ) {n : Nat} (hn : n ≤ 5) : gr ρ n ≤ 5 := gr_le n fun j hj => (h j (by omega)).2
theorem X_keep {fm : Nat} {d : Dt} {q : Nat → Int32} {ρ : Nat → Nat} (w : WF q) (hr : Ro (fm + 2) d ρ) (ne : NE ρ (nB q)) (hw : Wei fm d q) :
    ∃ d1, mX2_keepIfLess fm (nI (nB q)) d = some d1 ∧ d1.2 = d.2 ∧ (∀ o k, (o ≠ fm ∨ k ≠ 3) → o ≠ fm + 3 → d1.1 o k = d.1 o k) ∧
      ((d.1 fm 3 ≤ wiG q ρ ∧ d1 = d) ∨ (¬ d.1 fm 3 ≤ wiG q ρ ∧ d1.1 fm 3 = wiG q ρ ∧ ∀ b, b < nB q → d1.1 (fm + 3) b = nI (ρ b))) := by
  have hb := w.b
  obtain ⟨p1, p2⟩ := pow_B (nB q) hb.2
  have hg := Ro_gr hr hb.2
  have e1 : mX2_keepIfLess fm (nI (nB q)) d = if d.1 fm 3 ≤ wiG q ρ then some d else mX2_keepIfLess_51 fm (nI (nB q)) FUEL 0 (uI d fm 3 (wiG q ρ)) := by
    unfold mX2_keepIfLess wiG wir
    exact loop_fo (fun f g t => mX2_keepIfLess_4 fm (nI (nB q)) f t g d) (fun g t => t + ned q (grp ρ (nB q) g)) (fun z => if d.1 fm 3 ≤ z then some d else mX2_keepIfLess_51 fm (nI (nB q)) FUEL 0 (uI d fm 3 z)) (gr ρ (nB q) + 1) (fun _ _ => True)
      (fun fuel g t hgg _ => by
        obtain ⟨p, a1, a2, a3⟩ := ne g (by omega)
        show mX2_keepIfLess_4 fm (nI (nB q)) (fuel + 1) t (nI g) d = _
        rw [mX2_keepIfLess_4, X_greatest hr hb.2, Option.bind_some, if_neg (fun z => by have := (nI_ltI (by omega) (by omega)).mp z; omega), X_buildsIn hr hb.2 (by omega), Option.bind_some, a3, if_pos (inB_nI (by omega) (by decide)), cl_nI (by omega), hw p a1 a2, nI_1])
      (fun _ _ _ _ => trivial)
      (fun fuel t _ => by
        show mX2_keepIfLess_4 fm (nI (nB q)) (fuel + 1) t (nI (gr ρ (nB q) + 1)) d = _
        rw [mX2_keepIfLess_4, X_greatest hr hb.2, Option.bind_some, if_pos ((nI_ltI (by omega) (by omega)).mpr (by omega))])
      (gr ρ (nB q) + 1) 0 0 FUEL (Nat.zero_add _) trivial (fuel_big (by omega))
  rw [e1]
  by_cases e : d.1 fm 3 ≤ wiG q ρ
  · rw [if_pos e]
    exact ⟨d, rfl, rfl, fun _ _ _ _ => rfl, Or.inl ⟨e, rfl⟩⟩
  · rw [if_neg e]
    obtain ⟨d1, g, ⟨r1, r2, r3⟩, eq⟩ := loop_rel (fun n i d => mX2_keepIfLess_51 fm (nI (nB q)) n i d) (fun i d1 => d1.2 = d.2 ∧ (∀ o k, o ≠ fm + 3 → d1.1 o k = (uI d fm 3 (wiG q ρ)).1 o k) ∧ ∀ b, b < i → d1.1 (fm + 3) b = nI (ρ b)) (nB q)
      (fun fuel i d1 hi hR => by
        obtain ⟨r1, r2, r3⟩ := hR
        show ∃ b, _ ∧ mX2_keepIfLess_51 fm (nI (nB q)) (fuel + 1) (nI i) d1 = _
        rw [mX2_keepIfLess_51, if_neg (nI_ge hi (by omega)), if_pos (inB_nI (by omega) (by decide)), if_pos (inB_nI (by omega) (by decide)), cl_nI (by omega), r2 (fm + 2) i (by omega), dI_ne (Or.inl (by omega)), (hr i (by omega)).1, nI_1]
        refine ⟨uI d1 (fm + 3) i (nI (ρ i)), ⟨r1, fun o k ho => by rw [dI_ne (Or.inl ho)]; exact r2 o k ho, fun b hb => ?_⟩, rfl⟩
        by_cases e : b = i
        · subst e; rw [dI_at]
        · rw [dI_ne (Or.inr e)]; exact r3 b (by omega))
      (nB q) 0 (uI d fm 3 (wiG q ρ)) FUEL (Nat.zero_add _) ⟨rfl, fun _ _ _ => rfl, fun j hj => absurd hj (Nat.not_lt_zero _)⟩ (fuel_big (by omega))
    refine ⟨d1, ?_, r1, fun o k h1 h2 => by rw [r2 o k h2, dI_ne h1], Or.inr ⟨e, by rw [r2 fm 3 (by omega), dI_at], r3⟩⟩
    refine Eq.trans eq ?_
    show mX2_keepIfLess_51 fm (nI (nB q)) (g + 1) (nI (nB q)) d1 = _
    rw [mX2_keepIfLess_51, if_pos (Int32.le_refl _)]
/-- the next row -/
def nextF (B k : Nat) (ρ : Nat → Nat) : Nat → Option (Nat → Nat)
  | 0 => none
  | i + 1 => if min (gr ρ (i + 1) + 1) (k - 1) ≤ ρ (i + 1) then nextF B k ρ i else some (fun j => if j = i + 1 then ρ (i + 1) + 1 else if i + 1 < j ∧ j < B then 0 else ρ j)
theorem X_nextRow {fm : Nat} {d : Dt} {ρ : Nat → Nat} {B k : Nat} (hr : Ro (fm + 2) d ρ) (hB : B ≤ 5) (hB1 : 1 ≤ B) (hk1 : 1 ≤ k) (hk : k ≤ 5) :
    ∃ b d1, mX2_nextRow fm (nI B) (nI k) d = some (b, d1) ∧ d1.2 = d.2 ∧ (∀ o j, o ≠ fm + 2 → d1.1 o j = d.1 o j) ∧
      match nextF B k ρ (B - 1) with
      | none => b = false ∧ d1 = d
      | some ρ' => b = true ∧ Ro (fm + 2) d1 ρ' := by
  have key : ∀ i fuel, i < B → i < fuel → ∃ b d1, mX2_nextRow_4 fm (nI B) (nI k) fuel (nI i) d = some (b, d1) ∧ d1.2 = d.2 ∧ (∀ o j, o ≠ fm + 2 → d1.1 o j = d.1 o j) ∧
      match nextF B k ρ i with
      | none => b = false ∧ d1 = d
      | some ρ' => b = true ∧ Ro (fm + 2) d1 ρ' := by
    intro i
    induction i with
    | zero =>
      intro fuel _ hf
      obtain ⟨f, rfl⟩ : ∃ e, fuel = e + 1 := ⟨fuel - 1, by omega⟩
      rw [mX2_nextRow_4, if_pos (show nI 0 ≤ 0 by decide)]
      exact ⟨false, d, rfl, rfl, fun _ _ _ => rfl, rfl, rfl⟩
    | succ i ih =>
      intro fuel hi hf
      obtain ⟨f, rfl⟩ : ∃ e, fuel = e + 1 := ⟨fuel - 1, by omega⟩
      have hg := Ro_gr hr (show i + 1 ≤ 5 by omega)
      have hri := hr (i + 1) (by omega)
      rw [mX2_nextRow_4, if_neg (show ¬ nI (i + 1) ≤ 0 from nI_ge (show 0 < i + 1 by omega) (by omega)), X_greatest hr (by omega), Option.bind_some, if_pos (inB_nI (by omega) (by decide)), if_pos (inB_nI (by omega) (by decide)), if_pos (inB_nI (by omega) (by decide)), cl_nI (by omega), hri.1, nI_1, show nI k - (1 : Int32) = nI (k - 1) by rw [show (1 : Int32) = nI 1 from rfl, nI_sub hk1], mnI_nI (by omega) (by omega)]
      unfold nextF
      by_cases e : min (gr ρ (i + 1) + 1) (k - 1) ≤ ρ (i + 1)
      · rw [if_pos (nI_le e (by omega)), if_pos e, pk_m1]
        exact ih f (by omega) (by omega)
      · have e2 : ρ (i + 1) < min (gr ρ (i + 1) + 1) (k - 1) := by omega
        have e3 : min (gr ρ (i + 1) + 1) (k - 1) ≤ k - 1 := Nat.min_le_right _ _
        rw [if_neg (nI_ge e2 (by omega)), if_neg e, nI_1, nI_1]
        obtain ⟨d1, g, ⟨r1, r2, -, r3⟩, eq⟩ := loop_rel (fun n j d => mX2_nextRow_52 fm (nI B) n j d) (fun j d1 => d1.2 = d.2 ∧ (∀ o k, o ≠ fm + 2 → d1.1 o k = d.1 o k) ∧ i + 1 < j ∧ ∀ a, a < 5 → d1.1 (fm + 2) a = nI (if a = i + 1 then ρ (i + 1) + 1 else if i + 1 < a ∧ a < j then 0 else ρ a)) B
          (fun fuel j d1 hj hR => by
            obtain ⟨r1, r2, hij, r3⟩ := hR
            show ∃ b, _ ∧ mX2_nextRow_52 fm (nI B) (fuel + 1) (nI j) d1 = _
            rw [mX2_nextRow_52, if_neg (nI_ge hj (by omega)), if_pos (inB_nI (by omega) (by decide)), cl_nI (by omega), nI_1]
            refine ⟨uI d1 (fm + 2) j 0, ⟨r1, fun o k ho => by rw [dI_ne (Or.inl ho)]; exact r2 o k ho, by omega, fun a ha => ?_⟩, rfl⟩
            by_cases ea : a = j
            · subst ea; rw [dI_at, if_neg (by omega), if_pos ⟨hij, by omega⟩]; rfl
            · rw [dI_ne (Or.inr ea), r3 a ha]
              by_cases e1 : a = i + 1
              · rw [if_pos e1, if_pos e1]
              · rw [if_neg e1, if_neg e1]
                by_cases e4 : i + 1 < a ∧ a < j
                · rw [if_pos e4, if_pos ⟨e4.1, by omega⟩]
                · rw [if_neg e4, if_neg (by omega)])
          (B - (i + 2)) (i + 2) (uI d (fm + 2) (i + 1) (nI (ρ (i + 1) + 1))) FUEL (by omega) ⟨rfl, fun o k ho => by rw [dI_ne (Or.inl ho)], by omega, fun a ha => by
            by_cases ea : a = i + 1
            · subst ea; rw [dI_at, if_pos rfl]
            · rw [dI_ne (Or.inr ea), if_neg ea, if_neg (by omega)]; exact (hr a ha).1⟩ (fuel_big (by omega))
        have eq2 : mX2_nextRow_52 fm (nI B) FUEL (nI (i + 1 + 1)) (uI d (fm + 2) (i + 1) (nI (ρ (i + 1) + 1))) = some (true, d1) := by
          refine Eq.trans eq ?_
          show mX2_nextRow_52 fm (nI B) (g + 1) (nI B) d1 = _
          rw [mX2_nextRow_52, if_pos (Int32.le_refl _)]
        refine ⟨true, d1, eq2, r1, r2, rfl, fun a ha => ⟨r3 a ha, ?_⟩⟩
        show (if a = i + 1 then ρ (i + 1) + 1 else if i + 1 < a ∧ a < B then 0 else ρ a) ≤ 5
        have := (hr a ha).2
        split
        · omega
        · split <;> omega
  unfold mX2_nextRow
  rw [show (1 : Int32) = nI 1 from rfl, nI_sub hB1]
  exact key (B - 1) FUEL (by omega) (Nat.lt_of_lt_of_le (show B - 1 < 1000000 by omega) (Nat.le_refl _))
