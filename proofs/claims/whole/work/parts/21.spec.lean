/-! THE HARNESS AS A ROW OF NUMBERS q (the reference's own row): what it is to be well formed, what is asked of it -/
def nN (q : Nat → Int32) : Nat := (q 2).toNatClampNeg
def nO (q : Nat → Int32) : Nat := (q 3).toNatClampNeg
def nP (q : Nat → Int32) : Nat := (q 4).toNatClampNeg
def nT (q : Nat → Int32) : Nat := (q 5).toNatClampNeg
def nB (q : Nat → Int32) : Nat := (q 6).toNatClampNeg
def uq (q : Nat → Int32) (i : Nat) : Nat := (q (7 + i)).toNatClampNeg
/-- WHEN: no option, or one that there is and 0 or 1 -/
def whenOk (o : Nat) (a b : Int32) : Prop := (a = -2 ∧ b = -2) ∨ ∃ j, j < o ∧ a = nI j ∧ (b = 0 ∨ b = 1)
def many (q : Nat → Int32) (i : Nat) : Nat := (q (97 + 16 * i + 2)).toNatClampNeg
def pp (q : Nat → Int32) (i k : Nat) : Nat := (q (97 + 16 * i + (6 + 2 * k))).toNatClampNeg
def pn (q : Nat → Int32) (i k : Nat) : Nat := (q (49 + 6 * pp q i k)).toNatClampNeg
def WF (q : Nat → Int32) : Prop :=
  (q 2 = nI (nN q) ∧ 1 ≤ nN q ∧ nN q ≤ 14) ∧ (q 3 = nI (nO q) ∧ nO q ≤ 4) ∧ (q 4 = nI (nP q) ∧ nP q ≤ 8) ∧ (q 5 = nI (nT q) ∧ nT q ≤ 10) ∧ (q 6 = nI (nB q) ∧ nB q ≤ 5) ∧
  (q 7 = -2 ∧ q 21 = 0 ∧ ∀ i, 1 ≤ i → i < nN q → (q (7 + i) = nI (uq q i) ∧ uq q i < i) ∧ (∃ l, 1 ≤ l ∧ l ≤ 999 ∧ q (21 + i) = nI l) ∧ ∃ s, s < 4 ∧ q (35 + i) = nI s) ∧
  (∀ i, i < nP q → (∃ a, a < nN q ∧ q (49 + 6 * i) = nI a) ∧ (∃ a, 1 ≤ a ∧ a ≤ 12 ∧ q (49 + 6 * i + 1) = nI a) ∧ (∃ a, a ≤ 9 ∧ q (49 + 6 * i + 2) = nI a) ∧ (∃ a, a ≤ 9 ∧ q (49 + 6 * i + 3) = nI a) ∧ whenOk (nO q) (q (49 + 6 * i + 4)) (q (49 + 6 * i + 5))) ∧
  (∀ i, i < nT q → (∃ a, a < 3 ∧ q (97 + 16 * i) = nI a) ∧ (∃ a, 1 ≤ a ∧ a ≤ 9 ∧ q (97 + 16 * i + 1) = nI a) ∧ (q (97 + 16 * i + 2) = nI (many q i) ∧ 2 ≤ many q i ∧ many q i ≤ 5) ∧ whenOk (nO q) (q (97 + 16 * i + 3)) (q (97 + 16 * i + 4)) ∧
    (q (97 + 16 * i + 5) = -2 ∨ ∃ a, a < nN q ∧ q (97 + 16 * i + 5) = nI a) ∧ ∀ k, k < many q i → (q (97 + 16 * i + (6 + 2 * k)) = nI (pp q i k) ∧ pp q i k < nP q) ∧ ∃ a, a < 12 ∧ q (97 + 16 * i + (6 + 2 * k) + 1) = nI a) ∧
  (∀ i, i < nB q → (∃ v, v < 2 ^ nO q ∧ q (257 + 2 * i) = nI v) ∧ ∃ a, 1 ≤ a ∧ a ≤ 99 ∧ q (257 + 2 * i + 1) = nI a) ∧
  (∃ a, a ≤ 99 ∧ q 0 = nI a) ∧ ∃ a, a ≤ 99 ∧ q 1 = nI a
theorem WF.n {q : Nat → Int32} (h : WF q) : q 2 = nI (nN q) ∧ 1 ≤ nN q ∧ nN q ≤ 14 := h.1
theorem WF.o {q : Nat → Int32} (h : WF q) : q 3 = nI (nO q) ∧ nO q ≤ 4 := h.2.1
theorem WF.p {q : Nat → Int32} (h : WF q) : q 4 = nI (nP q) ∧ nP q ≤ 8 := h.2.2.1
theorem WF.t {q : Nat → Int32} (h : WF q) : q 5 = nI (nT q) ∧ nT q ≤ 10 := h.2.2.2.1
theorem WF.b {q : Nat → Int32} (h : WF q) : q 6 = nI (nB q) ∧ nB q ≤ 5 := h.2.2.2.2.1
theorem WF.root {q : Nat → Int32} (h : WF q) : q 7 = -2 ∧ q 21 = 0 := ⟨h.2.2.2.2.2.1.1, h.2.2.2.2.2.1.2.1⟩
theorem WF.up {q : Nat → Int32} (h : WF q) {i : Nat} (h1 : 1 ≤ i) (h2 : i < nN q) : q (7 + i) = nI (uq q i) ∧ uq q i < i := (h.2.2.2.2.2.1.2.2 i h1 h2).1
theorem WF.len {q : Nat → Int32} (h : WF q) {i : Nat} (h1 : 1 ≤ i) (h2 : i < nN q) : ∃ l, 1 ≤ l ∧ l ≤ 999 ∧ q (21 + i) = nI l := (h.2.2.2.2.2.1.2.2 i h1 h2).2.1
theorem WF.side {q : Nat → Int32} (h : WF q) {i : Nat} (h1 : 1 ≤ i) (h2 : i < nN q) : ∃ s, s < 4 ∧ q (35 + i) = nI s := (h.2.2.2.2.2.1.2.2 i h1 h2).2.2
theorem WF.plug {q : Nat → Int32} (h : WF q) {i : Nat} (h1 : i < nP q) : (∃ a, a < nN q ∧ q (49 + 6 * i) = nI a) ∧ (∃ a, 1 ≤ a ∧ a ≤ 12 ∧ q (49 + 6 * i + 1) = nI a) ∧ (∃ a, a ≤ 9 ∧ q (49 + 6 * i + 2) = nI a) ∧ (∃ a, a ≤ 9 ∧ q (49 + 6 * i + 3) = nI a) ∧ whenOk (nO q) (q (49 + 6 * i + 4)) (q (49 + 6 * i + 5)) := h.2.2.2.2.2.2.1 i h1
theorem WF.net {q : Nat → Int32} (h : WF q) {i : Nat} (h1 : i < nT q) : (∃ a, a < 3 ∧ q (97 + 16 * i) = nI a) ∧ (∃ a, 1 ≤ a ∧ a ≤ 9 ∧ q (97 + 16 * i + 1) = nI a) ∧ (q (97 + 16 * i + 2) = nI (many q i) ∧ 2 ≤ many q i ∧ many q i ≤ 5) ∧ whenOk (nO q) (q (97 + 16 * i + 3)) (q (97 + 16 * i + 4)) ∧
    (q (97 + 16 * i + 5) = -2 ∨ ∃ a, a < nN q ∧ q (97 + 16 * i + 5) = nI a) ∧ ∀ k, k < many q i → (q (97 + 16 * i + (6 + 2 * k)) = nI (pp q i k) ∧ pp q i k < nP q) ∧ ∃ a, a < 12 ∧ q (97 + 16 * i + (6 + 2 * k) + 1) = nI a := h.2.2.2.2.2.2.2.1 i h1
theorem WF.mny {q : Nat → Int32} (h : WF q) {i : Nat} (h1 : i < nT q) : q (97 + 16 * i + 2) = nI (many q i) ∧ 2 ≤ many q i ∧ many q i ≤ 5 := (h.net h1).2.2.1
theorem WF.pin {q : Nat → Int32} (h : WF q) {i k : Nat} (h1 : i < nT q) (h2 : k < many q i) : q (97 + 16 * i + (6 + 2 * k)) = nI (pp q i k) ∧ pp q i k < nP q := ((h.net h1).2.2.2.2.2 k h2).1
theorem WF.pnd {q : Nat → Int32} (h : WF q) {i k : Nat} (h1 : i < nT q) (h2 : k < many q i) : q (49 + 6 * pp q i k) = nI (pn q i k) ∧ pn q i k < nN q := by
  obtain ⟨a, ha, e⟩ := (h.plug (h.pin h1 h2).2).1
  have hn := h.n
  unfold pn
  rw [e, cl_nI (by omega)]
  exact ⟨rfl, ha⟩
theorem WF.bld {q : Nat → Int32} (h : WF q) {i : Nat} (h1 : i < nB q) : (∃ v, v < 2 ^ nO q ∧ q (257 + 2 * i) = nI v) ∧ ∃ a, 1 ≤ a ∧ a ≤ 99 ∧ q (257 + 2 * i + 1) = nI a := h.2.2.2.2.2.2.2.2.1 i h1
theorem WF.sj {q : Nat → Int32} (h : WF q) : (∃ a, a ≤ 99 ∧ q 0 = nI a) ∧ ∃ a, a ≤ 99 ∧ q 1 = nI a := h.2.2.2.2.2.2.2.2.2
/-- x is a or one on a's way to the root -/
def ancF (q : Nat → Int32) : Nat → Nat → Nat → Bool
  | 0, a, x => decide (a = x)
  | f + 1, a, x => if a = x then true else if a = 0 then false else ancF q f (uq q a) x
def anc (q : Nat → Int32) (a x : Nat) : Bool := ancF q a a x
theorem ancF_eq {q : Nat → Int32} (h : WF q) : ∀ f g a x, a < nN q → a ≤ f → a ≤ g → ancF q f a x = ancF q g a x := by
  intro f
  induction f with
  | zero =>
    intro g a x _ h1 h2
    obtain rfl : a = 0 := by omega
    cases g with
    | zero => rfl
    | succ g => unfold ancF; by_cases e : 0 = x <;> simp [e]
  | succ f ih =>
    intro g a x hn h1 h2
    rcases Nat.eq_zero_or_pos a with rfl | hp
    · cases g with
      | zero => unfold ancF; by_cases e : 0 = x <;> simp [e]
      | succ g => rfl
    · obtain ⟨g, rfl⟩ : ∃ b, g = b + 1 := ⟨g - 1, by omega⟩
      have hu := (h.up hp hn).2
      show (if a = x then true else if a = 0 then false else ancF q f (uq q a) x) = (if a = x then true else if a = 0 then false else ancF q g (uq q a) x)
      rw [ih g (uq q a) x (by omega) (by omega) (by omega)]
theorem anc_0 (q : Nat → Int32) (x : Nat) : anc q 0 x = decide (0 = x) := rfl
theorem anc_s {q : Nat → Int32} (h : WF q) {a : Nat} (x : Nat) (h1 : 1 ≤ a) (h2 : a < nN q) : anc q a x = (decide (a = x) || anc q (uq q a) x) := by
  have hu := (h.up h1 h2).2
  obtain ⟨b, rfl⟩ : ∃ b, a = b + 1 := ⟨a - 1, by omega⟩
  show (if b + 1 = x then true else if b + 1 = 0 then false else ancF q b (uq q (b + 1)) x) = _
  rw [ancF_eq h b (uq q (b + 1)) (uq q (b + 1)) x (by omega) (by omega) (Nat.le_refl _)]
  by_cases e : b + 1 = x
  · simp [e]
  · rw [if_neg e, if_neg (Nat.succ_ne_zero b)]; simp [e]; rfl
theorem anc_le {q : Nat → Int32} (h : WF q) : ∀ (a : Nat) {x : Nat}, a < nN q → anc q a x = true → x ≤ a := by
  intro a
  induction a using Nat.strongRecOn with
  | ind a ih =>
    intro x hn ha
    rcases Nat.eq_zero_or_pos a with rfl | hp
    · rw [anc_0] at ha; simp at ha; omega
    · rw [anc_s h x hp hn] at ha
      have hu := (h.up hp hn).2
      rcases Bool.or_eq_true_iff.mp ha with e | e
      · simp at e; omega
      · have := ih (uq q a) hu (by omega) e; omega
theorem anc_self {q : Nat → Int32} (h : WF q) {a : Nat} (hn : a < nN q) : anc q a a = true := by
  rcases Nat.eq_zero_or_pos a with rfl | hp
  · simp [anc_0]
  · rw [anc_s h a hp hn]; simp
theorem anc_root {q : Nat → Int32} (h : WF q) : ∀ (a : Nat), a < nN q → anc q a 0 = true := by
  intro a
  induction a using Nat.strongRecOn with
  | ind a ih =>
    intro hn
    rcases Nat.eq_zero_or_pos a with rfl | hp
    · simp [anc_0]
    · rw [anc_s h 0 hp hn]
      have hu := (h.up hp hn).2
      rw [ih _ hu (by omega), Bool.or_true]
/-- FAR of two nodes -/
def far (q : Nat → Int32) (a b : Nat) : Int32 := fo (fun x s => if (anc q a x != anc q b x) = true then s + q (21 + x) else s) 1 (nN q - 1) 0
theorem far_comm (q : Nat → Int32) (a b : Nat) : far q a b = far q b a := by
  unfold far
  refine fo_congr _ _ _ fun j _ _ s => ?_
  rw [show (anc q a j != anc q b j) = (anc q b j != anc q a j) by cases anc q a j <;> cases anc q b j <;> rfl]
/-- a sum, with one of its terms apart -/
theorem fo_sum {c : Nat → Bool} {f : Nat → Int32} : ∀ (k i : Nat) (s t : Int32), fo (fun x s => if c x = true then s + f x else s) i k (s + t) = fo (fun x s => if c x = true then s + f x else s) i k s + t := by
  intro k
  induction k with
  | zero => intro i s t; rfl
  | succ k ih =>
    intro i s t
    show fo _ (i + 1) k (if c i = true then s + t + f i else s + t) = fo _ (i + 1) k (if c i = true then s + f i else s) + t
    rw [← ih]
    congr 1
    by_cases e : c i = true
    · rw [if_pos e, if_pos e, Int32.add_assoc, Int32.add_comm t, ← Int32.add_assoc]
    · rw [if_neg e, if_neg e]
theorem fo_one {c c' : Nat → Bool} {f : Nat → Int32} {y : Nat} : ∀ (k i : Nat) (s : Int32), i ≤ y → y < i + k → c y = true → c' y = false → (∀ x, x ≠ y → c x = c' x) → fo (fun x s => if c x = true then s + f x else s) i k s = fo (fun x s => if c' x = true then s + f x else s) i k s + f y := by
  intro k
  induction k with
  | zero => intro i s h1 h2; omega
  | succ k ih =>
    intro i s h1 h2 hc hc' ho
    show fo _ (i + 1) k (if c i = true then s + f i else s) = fo _ (i + 1) k (if c' i = true then s + f i else s) + f y
    by_cases e : i = y
    · subst e
      rw [if_pos hc, hc', if_neg (by decide), fo_sum]
      congr 1
      exact fo_congr _ _ _ fun j h3 _ b => by rw [ho j (by omega)]
    · rw [ho i e]
      exact ih (i + 1) _ (by omega) (by omega) hc hc' ho
theorem far_self (q : Nat → Int32) (a : Nat) : far q a a = 0 := by
  unfold far
  have := fo_ind (f := fun x s => if (anc q a x != anc q a x) = true then s + q (21 + x) else s) (fun _ s => s = 0) (nN q - 1) 1 0 rfl (fun j b _ _ hb => by simpa using hb)
  exact this
theorem far_s {q : Nat → Int32} (h : WF q) {i j : Nat} (h1 : 1 ≤ i) (h2 : i < nN q) (h3 : j < i) : far q i j = far q (uq q i) j + q (21 + i) := by
  have hu := (h.up h1 h2).2
  have hj : anc q j i = false := by
    cases e : anc q j i with
    | false => rfl
    | true => have := anc_le h j (by omega) e; omega
  have hui : anc q (uq q i) i = false := by
    cases e : anc q (uq q i) i with
    | false => rfl
    | true => have := anc_le h (uq q i) (by omega) e; omega
  unfold far
  refine fo_one (c := fun x => anc q i x != anc q j x) (c' := fun x => anc q (uq q i) x != anc q j x) (f := fun x => q (21 + x)) (y := i) (nN q - 1) 1 0 h1 (by omega) ?_ ?_ ?_
  · simp [hj, anc_self h h2]
  · simp [hj, hui]
  · intro x hx
    show (anc q i x != anc q j x) = (anc q (uq q i) x != anc q j x)
    rw [anc_s h x h1 h2]
    simp [show ¬ i = x from fun e => hx e.symm]
