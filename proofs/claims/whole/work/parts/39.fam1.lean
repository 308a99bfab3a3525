/-! families: what groups need, and how great that can be -/
theorem far_nI {q : Nat → Int32} (w : WF q) (a b : Nat) : ∃ f, f ≤ 12987 ∧ far q a b = nI f := by
  have hn := w.n
  unfold far
  have := fo_ind (f := fun x (s : Int32) => if (anc q a x != anc q b x) = true then s + q (21 + x) else s) (fun j s => 1 ≤ j ∧ ∃ c, c ≤ 999 * (j - 1) ∧ s = nI c) (nN q - 1) 1 0 ⟨Nat.le_refl _, 0, by omega, rfl⟩ (fun j s h1 h2 hb => by
    obtain ⟨-, c, hc, rfl⟩ := hb
    obtain ⟨l, -, hl, el⟩ := w.len h1 (show j < nN q by omega)
    refine ⟨by omega, ?_⟩
    by_cases e : (anc q a j != anc q b j) = true
    · exact ⟨c + l, by omega, by rw [if_pos e, el, nI_add]⟩
    · exact ⟨c, by omega, if_neg e⟩)
  obtain ⟨-, c, hc, e⟩ := this
  exact ⟨c, by omega, e⟩
theorem rea_nI {q : Nat → Int32} (w : WF q) (i : Nat) (s : Int32) (x : Nat) : ∃ r, r ≤ 64935 ∧ rea q i s x = nI r := by
  unfold rea
  have := fo_ind (f := fun k (t : Int32) => if bit s k = true then t + far q (pn q i k) x else t) (fun j t => ∃ c, c ≤ 12987 * j ∧ t = nI c) 5 0 0 ⟨0, by omega, rfl⟩ (fun j t _ _ hb => by
    obtain ⟨c, hc, rfl⟩ := hb
    obtain ⟨f, hf, ef⟩ := far_nI w (pn q i j) x
    by_cases e : bit s j = true
    · exact ⟨c + f, by omega, by rw [if_pos e, ef, nI_add]⟩
    · exact ⟨c, by omega, if_neg e⟩)
  exact this
theorem lenS_nI {q : Nat → Int32} (w : WF q) (i : Nat) (s : Int32) : ∃ r, r ≤ 65925 ∧ lenS q i s = nI r := by
  obtain ⟨⟨a, ha, ea⟩, ⟨b, hb, eb⟩⟩ := w.sj
  have h5 := pop_5 s
  unfold lenS
  rw [ea, eb]
  split
  · exact ⟨0, by omega, rfl⟩
  · split
    · obtain ⟨r, hr, er⟩ := rea_nI w i s (pn q i (fst5 s))
      exact ⟨r + 2 * a, by omega, by rw [er, show (2 : Int32) = nI 2 from rfl, pk_mul, nI_add]⟩
    · obtain ⟨r, hr, er⟩ := rea_nI w i s (spl q i s)
      refine ⟨r + pop s * (a + b), ?_, by rw [er, nI_add, pk_mul, nI_add]⟩
      have : pop s * (a + b) ≤ 5 * 198 := Nat.mul_le_mul h5 (by omega)
      omega
theorem com_nI {q : Nat → Int32} (w : WF q) (B : Int32) : ∃ r, r ≤ 659250 ∧ com q B = nI r := by
  have ht := w.t
  unfold com
  have := fo_ind (f := fun i (t : Int32) => t + lenS q i (cpn q B i)) (fun j t => ∃ c, c ≤ 65925 * j ∧ t = nI c) (nT q) 0 0 ⟨0, by omega, rfl⟩ (fun j t _ _ hb => by
    obtain ⟨c, hc, rfl⟩ := hb
    obtain ⟨f, hf, ef⟩ := lenS_nI w j (cpn q B j)
    exact ⟨c + f, by omega, by rw [ef, nI_add]⟩)
  rw [Nat.zero_add] at this
  obtain ⟨c, hc, e⟩ := this
  exact ⟨c, by omega, e⟩
def har (q : Nat → Int32) (B : Int32) : Int32 := fo (fun b t => if bit B b = true then t + hv q b else t) 0 (nB q) 0
theorem har_nI {q : Nat → Int32} (w : WF q) (B : Int32) : ∃ r, r ≤ 495 ∧ har q B = nI r := by
  have hb := w.b
  unfold har
  have := fo_ind (f := fun b (t : Int32) => if bit B b = true then t + hv q b else t) (fun j t => j ≤ nB q → ∃ c, c ≤ 99 * j ∧ t = nI c) (nB q) 0 0 (fun _ => ⟨0, by omega, rfl⟩) (fun j t _ hj hb _ => by
    obtain ⟨c, hc, rfl⟩ := hb (by omega)
    obtain ⟨a, -, ha, ea⟩ := (w.bld (show j < nB q by omega)).2
    by_cases e : bit B j = true
    · exact ⟨c + a, by omega, by rw [if_pos e, show hv q j = nI a from ea, nI_add]⟩
    · exact ⟨c, by omega, if_neg e⟩)
  rw [Nat.zero_add] at this
  obtain ⟨c, hc, e⟩ := this (Nat.le_refl _)
  exact ⟨c, by omega, e⟩
def ned (q : Nat → Int32) (B : Int32) : Int32 := com q B * har q B
theorem ned_nI {q : Nat → Int32} (w : WF q) (B : Int32) : ∃ r, r ≤ 326328750 ∧ ned q B = nI r := by
  obtain ⟨a, ha, ea⟩ := com_nI w B
  obtain ⟨b, hb, eb⟩ := har_nI w B
  unfold ned
  refine ⟨a * b, ?_, by rw [ea, eb, pk_mul]⟩
  exact Nat.le_trans (Nat.mul_le_mul ha hb) (by omega)
/-- a row of groups: which group each build is in -/
def grp (ρ : Nat → Nat) (B g : Nat) : Int32 := bset (fun b => decide (ρ b = g)) B
def wir (q : Nat → Int32) (ρ : Nat → Nat) (come : Nat) : Int32 := fo (fun g t => t + ned q (grp ρ (nB q) g)) 0 come 0
theorem wir_nI {q : Nat → Int32} (w : WF q) (ρ : Nat → Nat) {come : Nat} (h : come ≤ 5) : ∃ r, r ≤ 1631643750 ∧ wir q ρ come = nI r := by
  unfold wir
  have := fo_ind (f := fun g (t : Int32) => t + ned q (grp ρ (nB q) g)) (fun j t => ∃ c, c ≤ 326328750 * j ∧ t = nI c) come 0 0 ⟨0, by omega, rfl⟩ (fun j t _ _ hb => by
    obtain ⟨c, hc, rfl⟩ := hb
    obtain ⟨f, hf, ef⟩ := ned_nI w (grp ρ (nB q) j)
    exact ⟨c + f, by omega, by rw [ef, nI_add]⟩)
  rw [Nat.zero_add] at this
  obtain ⟨c, hc, e⟩ := this
  exact ⟨c, by omega, e⟩
/-- the greatest of the first n of a row -/
def gr (ρ : Nat → Nat) : Nat → Nat
  | 0 => 0
  | n + 1 => max (gr ρ n) (ρ n)
theorem gr_le {ρ : Nat → Nat} {m : Nat} : ∀ n, (∀ j, j < n → ρ j ≤ m) → gr ρ n ≤ m := by
  intro n
  induction n with
  | zero => intro _; exact Nat.zero_le _
  | succ n ih => intro h; exact Nat.max_le.mpr ⟨ih (fun j hj => h j (by omega)), h n (by omega)⟩
theorem mxI_nI {a b : Nat} (ha : a < 2 ^ 31) (hb : b < 2 ^ 31) : mxI (nI a) (nI b) = nI (max a b) := by
  unfold mxI
  by_cases e : a < b
  · rw [if_pos ((nI_ltI ha hb).mpr e), Nat.max_eq_right (by omega)]
  · rw [if_neg (fun z => e ((nI_ltI ha hb).mp z)), Nat.max_eq_left (by omega)]
theorem mnI_nI {a b : Nat} (ha : a < 2 ^ 31) (hb : b < 2 ^ 31) : mnI (nI a) (nI b) = nI (min a b) := by
  unfold mnI
  by_cases e : b < a
  · rw [if_pos ((nI_ltI hb ha).mpr e), Nat.min_eq_right (by omega)]
  · rw [if_neg (fun z => e ((nI_ltI hb ha).mp z)), Nat.min_eq_left (by omega)]
/-- a row lies in the array r -/
def Ro (r : Nat) (d : Dt) (ρ : Nat → Nat) : Prop := ∀ j, j < 5 → d.1 r j = nI (ρ j) ∧ ρ j ≤ 5
theorem X_greatest {r : Nat} {d : Dt} {ρ : Nat → Nat} (h : Ro r d ρ) {n : Nat} (hn : n ≤ 5) : mX2_greatest r (nI n) d = some (nI (gr ρ n)) := by
  have lp := loop_fo (fun f i v => mX2_greatest_4 d r (nI n) f v i) (fun i v => mxI v (nI (ρ i))) some n (fun _ _ => True)
    (fun fuel i v hi _ => by
      show mX2_greatest_4 d r (nI n) (fuel + 1) v (nI i) = _
      rw [mX2_greatest_4, if_neg (nI_ge hi (by omega)), if_pos (inB_nI (by omega) (by decide)), cl_nI (by omega), (h i (by omega)).1, nI_1])
    (fun _ _ _ _ => trivial)
    (fun fuel v _ => by
      show mX2_greatest_4 d r (nI n) (fuel + 1) v (nI n) = _
      rw [mX2_greatest_4, if_pos (Int32.le_refl _)])
    n 0 0 FUEL (Nat.zero_add _) trivial (fuel_big (by omega))
  unfold mX2_greatest
  refine lp.trans (congrArg some ?_)
  have := fo_ind (f := fun i v => mxI v (nI (ρ i))) (fun j v => j ≤ n → v = nI (gr ρ j)) n 0 0 (fun _ => rfl) (fun j v _ hj hv hle => by
    rw [hv (by omega)]
    exact mxI_nI (Nat.lt_of_le_of_lt (gr_le (m := 5) j (fun i hi => (h i (by omega)).2)) (by omega)) (by have := (h j (by omega)).2; omega))
  rw [Nat.zero_add] at this
  exact this (Nat.le_refl _)
theorem X_buildsIn {fm : Nat} {d : Dt} {ρ : Nat → Nat} (h : Ro (fm + 2) d ρ) {B g : Nat} (hB : B ≤ 5) (hg : g ≤ 5) : mX2_buildsIn fm (nI g) (nI B) d = some (grp ρ B g) := by
  unfold mX2_buildsIn grp bset
  exact loop_fo (fun f i v => mX2_buildsIn_5 d fm (nI g) (nI B) f v i) _ some B (fun _ _ => True)
    (fun fuel i v hi _ => by
      have hr := h i (by omega)
      show mX2_buildsIn_5 d fm (nI g) (nI B) (fuel + 1) v (nI i) = mX2_buildsIn_5 d fm (nI g) (nI B) fuel (if decide (ρ i = g) = true then _ else v) _
      rw [mX2_buildsIn_5, if_neg (nI_ge hi (by omega)), if_pos (inB_nI (by omega) (by decide)), cl_nI (by omega), hr.1, nI_1]
      by_cases e : ρ i = g
      · rw [if_pos (by rw [e]), if_pos (by simp [e])]
      · rw [if_neg (fun z => e (nI_inj (by omega) (by omega) z)), if_neg (by simp [e])])
    (fun _ _ _ _ => trivial)
    (fun fuel v _ => by
      show mX2_buildsIn_5 d fm (nI g) (nI B) (fuel + 1) v (nI B) = _
      rw [mX2_buildsIn_5, if_pos (Int32.le_refl _)])
    B 0 0 FUEL (Nat.zero_add _) trivial (fuel_big (by omega))
theorem X_harnessesOf {h : Nat} {d : Dt} {q : Nat → Int32} (x : XR h d q) (w : WF q) (B : Int32) : mX2_harnessesOf h B d = some (har q B) := by
  have hb := w.b
  have rd : d.1 (h + 72) 0 = nI (nB q) := x.bu.1.trans hb.1
  unfold mX2_harnessesOf har
  exact loop_fo (fun f b t => mX2_harnessesOf_4 d h B f t b) _ some (nB q) (fun _ _ => True)
    (fun fuel b t hbb _ => by
      have hv2 : d.1 (h + 74) b = hv q b := (x.bu.2 b hbb).2
      show mX2_harnessesOf_4 d h B (fuel + 1) t (nI b) = mX2_harnessesOf_4 d h B fuel (if bit B b = true then _ else t) _
      rw [mX2_harnessesOf_4, rd, if_neg (nI_ge hbb (by omega)), has10 (by omega), if_pos (inB_nI (by omega) (by decide)), cl_nI (by omega), hv2, nI_1]
      by_cases e : bit B b = true
      · rw [if_pos e, if_pos e]
      · rw [if_neg e, if_neg e])
    (fun _ _ _ _ => trivial)
    (fun fuel t _ => by
      show mX2_harnessesOf_4 d h B (fuel + 1) t (nI (nB q)) = _
      rw [mX2_harnessesOf_4, rd, if_pos (Int32.le_refl _)])
    (nB q) 0 0 FUEL (Nat.zero_add _) trivial (fuel_big (by omega))
