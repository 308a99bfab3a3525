/-! the reference's functions over the row, 2: lengths, counts, flaws -/
def anyB (c : Nat → Bool) : Nat → Nat → Bool
  | _, 0 => false
  | i, k + 1 => c i || anyB c (i + 1) k
theorem anyB_congr {c c' : Nat → Bool} : ∀ k i, (∀ j, i ≤ j → j < i + k → c j = c' j) → anyB c i k = anyB c' i k := by
  intro k
  induction k with
  | zero => intro i _; rfl
  | succ k ih => intro i h; show (c i || anyB c (i + 1) k) = (c' i || anyB c' (i + 1) k); rw [h i (Nat.le_refl _) (by omega), ih (i + 1) (fun j h1 h2 => h j (by omega) (by omega))]
theorem anyB_more {c : Nat → Bool} : ∀ k l i, (∀ j, i + k ≤ j → j < i + (k + l) → c j = false) → anyB c i (k + l) = anyB c i k := by
  intro k
  induction k with
  | zero =>
    intro l
    induction l with
    | zero => intro i _; rfl
    | succ l ih =>
      intro i h
      show (c i || anyB c (i + 1) (0 + l)) = false
      rw [h i (by omega) (by omega), ih (i + 1) (fun j h1 h2 => h j (by omega) (by omega))]
      rfl
  | succ k ih =>
    intro l i h
    rw [show k + 1 + l = (k + l) + 1 by omega]
    show (c i || anyB c (i + 1) (k + l)) = (c i || anyB c (i + 1) k)
    rw [ih l (i + 1) (fun j h1 h2 => h j (by omega) (by omega))]
theorem loop_any {β : Type} (L : Nat → Int32 → β) (c : Nat → Bool) (t f : β) (n : Nat)
    (hs : ∀ fuel i, i < n → L (fuel + 1) (nI i) = if c i = true then t else L fuel (nI (i + 1))) (he : ∀ fuel, L (fuel + 1) (nI n) = f) :
    ∀ (k i fuel : Nat), i + k = n → k < fuel → L fuel (nI i) = if anyB c i k = true then t else f := by
  intro k
  induction k with
  | zero =>
    intro i fuel hi hf
    obtain ⟨g, rfl⟩ : ∃ g, fuel = g + 1 := ⟨fuel - 1, by omega⟩
    obtain rfl : i = n := by omega
    rw [he]; rfl
  | succ k ih =>
    intro i fuel hi hf
    obtain ⟨g, rfl⟩ : ∃ g, fuel = g + 1 := ⟨fuel - 1, by omega⟩
    rw [hs g i (by omega), ih (i + 1) g (by omega) (by omega)]
    show _ = if (c i || anyB c (i + 1) k) = true then t else f
    cases c i <;> simp
/-- the first i with c i; -1 -/
def findI (c : Nat → Bool) : Nat → Nat → Int32
  | _, 0 => -1
  | i, k + 1 => if c i = true then nI i else findI c (i + 1) k
theorem findI_congr {c c' : Nat → Bool} : ∀ k i, (∀ j, i ≤ j → j < i + k → c j = c' j) → findI c i k = findI c' i k := by
  intro k
  induction k with
  | zero => intro i _; rfl
  | succ k ih => intro i h; show (if c i = true then _ else _) = (if c' i = true then _ else _); rw [h i (Nat.le_refl _) (by omega), ih (i + 1) (fun j h1 h2 => h j (by omega) (by omega))]
theorem findI_in {c : Nat → Bool} : ∀ k i, findI c i k = -1 ∨ ∃ j, i ≤ j ∧ j < i + k ∧ findI c i k = nI j ∧ c j = true := by
  intro k
  induction k with
  | zero => intro i; exact Or.inl rfl
  | succ k ih =>
    intro i
    show (if c i = true then nI i else findI c (i + 1) k) = -1 ∨ _
    by_cases h : c i = true
    · rw [if_pos h]; exact Or.inr ⟨i, Nat.le_refl _, by omega, (if_pos h), h⟩
    · rw [if_neg h]
      rcases ih (i + 1) with e | ⟨j, h1, h2, h3, h4⟩
      · exact Or.inl e
      · exact Or.inr ⟨j, by omega, by omega, by show (if c i = true then nI i else findI c (i + 1) k) = _; rw [if_neg h]; exact h3, h4⟩
theorem loop_find {β : Type} (L : Nat → Int32 → β) (c : Nat → Bool) (F : Int32 → β) (n : Nat)
    (hs : ∀ fuel i, i < n → L (fuel + 1) (nI i) = if c i = true then F (nI i) else L fuel (nI (i + 1))) (he : ∀ fuel, L (fuel + 1) (nI n) = F (-1)) :
    ∀ (k i fuel : Nat), i + k = n → k < fuel → L fuel (nI i) = F (findI c i k) := by
  intro k
  induction k with
  | zero =>
    intro i fuel hi hf
    obtain ⟨g, rfl⟩ : ∃ g, fuel = g + 1 := ⟨fuel - 1, by omega⟩
    obtain rfl : i = n := by omega
    exact he g
  | succ k ih =>
    intro i fuel hi hf
    obtain ⟨g, rfl⟩ : ∃ g, fuel = g + 1 := ⟨fuel - 1, by omega⟩
    rw [hs g i (by omega), ih (i + 1) g (by omega) (by omega)]
    show _ = F (if c i = true then nI i else findI c (i + 1) k)
    cases c i <;> simp
/-- lengths of all wires of a set -/
def lenS (q : Nat → Int32) (i : Nat) (s : Int32) : Int32 := if pop s < 2 then 0 else if pop s = 2 then rea q i s (pn q i (fst5 s)) + 2 * q 0 else rea q i s (spl q i s) + nI (pop s) * (q 0 + q 1)
theorem fst_ok {q : Nat → Int32} {i : Nat} {s : Int32} (hs : setOk q i s) (h1 : 1 ≤ pop s) : fst5 s < many q i := (M_firstOf hs h1).2.1
theorem row0 {m : Nat} {d : Dt} {q : Nat → Int32} (hM : MR m d q) : d.1 (m + 2) (0 : Int32).toNatClampNeg = q 0 := hM 0 (by omega)
theorem row1 {m : Nat} {d : Dt} {q : Nat → Int32} (hM : MR m d q) : d.1 (m + 2) (1 : Int32).toNatClampNeg = q 1 := hM 1 (by omega)
theorem row2 {m : Nat} {d : Dt} {q : Nat → Int32} (hM : MR m d q) : d.1 (m + 2) (2 : Int32).toNatClampNeg = q 2 := hM 2 (by omega)
theorem row3 {m : Nat} {d : Dt} {q : Nat → Int32} (hM : MR m d q) : d.1 (m + 2) (3 : Int32).toNatClampNeg = q 3 := hM 3 (by omega)
theorem row4 {m : Nat} {d : Dt} {q : Nat → Int32} (hM : MR m d q) : d.1 (m + 2) (4 : Int32).toNatClampNeg = q 4 := hM 4 (by omega)
theorem row5 {m : Nat} {d : Dt} {q : Nat → Int32} (hM : MR m d q) : d.1 (m + 2) (5 : Int32).toNatClampNeg = q 5 := hM 5 (by omega)
theorem row6 {m : Nat} {d : Dt} {q : Nat → Int32} (hM : MR m d q) : d.1 (m + 2) (6 : Int32).toNatClampNeg = q 6 := hM 6 (by omega)
theorem ib0 : inB (0 : Int32) 267 = true := by decide
theorem ib1 : inB (1 : Int32) 267 = true := by decide
theorem ib2 : inB (2 : Int32) 267 = true := by decide
theorem ib3 : inB (3 : Int32) 267 = true := by decide
theorem ib4 : inB (4 : Int32) 267 = true := by decide
theorem ib5 : inB (5 : Int32) 267 = true := by decide
theorem ib6 : inB (6 : Int32) 267 = true := by decide
theorem M_lengthOf {m : Nat} {d : Dt} {q : Nat → Int32} (hM : MR m d q) (h : WF q) {i : Nat} {s : Int32} (hi : i < nT q) (hs : setOk q i s) : mX12_lengthOf m (nI i) s d = some (lenS q i s) := by
  have hn := h.n
  have h5 := pop_5 s
  unfold mX12_lengthOf lenS
  rw [M_bitsOf hs, Option.bind_some, show (2 : Int32) = nI 2 from rfl]
  by_cases e : pop s < 2
  · rw [if_neg (nI_ge e (by omega)), if_pos e]
  · rw [if_pos (nI_le (by omega) (by omega)), if_neg e]
    by_cases e2 : pop s = 2
    · have hf := M_firstOf hs (by omega)
      rw [if_pos (by rw [e2]), if_pos e2, hf.1, Option.bind_some, M_pinNode hM h hi hf.2.1, Option.bind_some, M_reachOf hM h hi hs (h.pnd hi hf.2.1).2, Option.bind_some, if_pos ib0, row0 hM]
    · rw [if_neg (fun z => e2 (nI_inj (by omega) (by omega) z)), if_neg e2, M_spliceOf hM h hi hs, if_pos (by omega), Option.bind_some, M_reachOf hM h hi hs (spl_lt h hi s), Option.bind_some, if_pos ib0, if_pos ib1, row0 hM, row1 hM]
/-- from where the wires of a set of two at least run -/
def hubS (q : Nat → Int32) (i : Nat) (s : Int32) : Nat := if pop s = 2 then pn q i (fst5 s) else spl q i s
theorem hubS_lt {q : Nat → Int32} (h : WF q) {i : Nat} {s : Int32} (hi : i < nT q) (hs : setOk q i s) (h2 : 2 ≤ pop s) : hubS q i s < nN q := by
  unfold hubS
  split
  · exact (h.pnd hi (fst_ok hs (by omega))).2
  · exact spl_lt h hi s
/-- how many wires of a set run through a bundle -/
def cnt (q : Nat → Int32) (i : Nat) (s : Int32) (x : Nat) : Int32 := if pop s < 2 then 0 else fo (fun k t => if (bit s k && (anc q (hubS q i s) x != anc q (pn q i k) x)) = true then t + 1 else t) 0 5 0
theorem M_countOf {m : Nat} {d : Dt} {q : Nat → Int32} (hM : MR m d q) (h : WF q) {i x : Nat} {s : Int32} (hi : i < nT q) (hs : setOk q i s) (hx : x < nN q) : mX12_countOf m (nI i) s (nI x) d = some (cnt q i s x) := by
  have hn := h.n
  have h5 := pop_5 s
  unfold mX12_countOf cnt
  rw [M_bitsOf hs, Option.bind_some, show (2 : Int32) = nI 2 from rfl]
  by_cases e : pop s < 2
  · rw [if_neg (nI_ge e (by omega)), if_pos e]
  · rw [if_pos (nI_le (by omega) (by omega)), if_neg e]
    have hh := hubS_lt h hi hs (by omega)
    have lp : mX12_countOf_46 d m (nI i) s (nI x) (nI (hubS q i s)) FUEL 0 0 = some (fo (fun k t => if (bit s k && (anc q (hubS q i s) x != anc q (pn q i k) x)) = true then t + 1 else t) 0 5 0) :=
      loop_fo (fun n x' t => mX12_countOf_46 d m (nI i) s (nI x) (nI (hubS q i s)) n t x') _ some 5 (fun _ _ => True)
        (fun fuel k t hk _ => by
          show mX12_countOf_46 d m (nI i) s (nI x) (nI (hubS q i s)) (fuel + 1) t (nI k) = mX12_countOf_46 d m (nI i) s (nI x) (nI (hubS q i s)) fuel (if (bit s k && (anc q (hubS q i s) x != anc q (pn q i k) x)) = true then t + 1 else t) (nI (k + 1))
          rw [mX12_countOf_46, show (5 : Int32) = nI 5 from rfl, if_neg (nI_ge hk (by omega)), has12 (by omega), nI_1]
          by_cases e : bit s k = true
          · have hk2 := hs.2 k (by omega) e
            rw [if_pos e, M_pinNode hM h hi hk2, Option.bind_some, M_isBetween hM h hh (h.pnd hi hk2).2 hx, Option.bind_some, e, Bool.true_and]
            by_cases e3 : (anc q (hubS q i s) x != anc q (pn q i k) x) = true
            · rw [if_pos e3, if_pos e3]
            · rw [if_neg e3, if_neg e3, Int32.add_zero]
          · rw [if_neg e, if_neg (by simp [e]), Int32.add_zero])
        (fun _ _ _ _ => trivial)
        (fun fuel t _ => by
          show mX12_countOf_46 d m (nI i) s (nI x) (nI (hubS q i s)) (fuel + 1) t (nI 5) = _
          rw [mX12_countOf_46, if_pos (by decide)])
        5 0 0 FUEL rfl trivial (fuel_big (by omega))
    by_cases e2 : pop s = 2
    · have hf := M_firstOf hs (by omega)
      rw [if_pos (by rw [e2]), hf.1, Option.bind_some, M_pinNode hM h hi hf.2.1, Option.bind_some]
      rw [show nI (pn q i (fst5 s)) = nI (hubS q i s) by unfold hubS; rw [if_pos e2]]
      exact lp
    · rw [if_neg (fun z => e2 (nI_inj (by omega) (by omega) z)), M_spliceOf hM h hi hs, if_pos (by omega), Option.bind_some]
      rw [show nI (spl q i s) = nI (hubS q i s) by unfold hubS; rw [if_neg e2]]
      exact lp
def gau (q : Nat → Int32) (i : Nat) : Int32 := q (97 + 16 * i + 1)
def bod (q : Nat → Int32) (v : Int32) (x : Nat) : Int32 := fo (fun i t => t + cnt q i (pins q v i) x * gau q i * gau q i) 0 (nT q) 0
theorem M_bodyOf {m : Nat} {d : Dt} {q : Nat → Int32} (hM : MR m d q) (h : WF q) {x : Nat} (v : Int32) (hx : x < nN q) : mX12_bodyOf m v (nI x) d = some (bod q v x) := by
  have ht := h.t
  have hn := h.n
  unfold mX12_bodyOf bod
  exact loop_fo (fun n i t => mX12_bodyOf_5 d m v (nI x) n t i) _ some (nT q) (fun _ _ => True)
    (fun fuel i t hi _ => by
      show mX12_bodyOf_5 d m v (nI x) (fuel + 1) t (nI i) = _
      rw [mX12_bodyOf_5, if_pos ib5, row5 hM, ht.1, if_neg (nI_ge hi (by omega)), M_pinsOf hM h v hi, Option.bind_some, M_countOf hM h hi (pins_ok h v hi) hx, Option.bind_some, M_netOf hM (c := 1) (k := 1) rfl (by omega) (by omega), Option.bind_some, Option.bind_some, nI_1]
      rfl)
    (fun _ _ _ _ => trivial)
    (fun fuel t _ => by
      show mX12_bodyOf_5 d m v (nI x) (fuel + 1) t (nI (nT q)) = _
      rw [mX12_bodyOf_5, if_pos ib5, row5 hM, ht.1, if_pos (Int32.le_refl _)])
    (nT q) 0 0 FUEL (Nat.zero_add _) trivial (fuel_big (by omega))
theorem M_wiresOf {q : Nat → Int32} {i : Nat} {s : Int32} (hs : setOk q i s) : mX12_wiresOf s = some (if pop s < 2 then 0 else if pop s = 2 then 1 else nI (pop s)) := by
  have h5 := pop_5 s
  unfold mX12_wiresOf
  rw [M_bitsOf hs, Option.bind_some, show (2 : Int32) = nI 2 from rfl]
  by_cases e : pop s < 2
  · rw [if_neg (nI_ge e (by omega)), if_pos e]
  · rw [if_pos (nI_le (by omega) (by omega)), if_neg e]
    by_cases e2 : pop s = 2
    · rw [if_pos (by rw [e2]), if_pos e2]
    · rw [if_neg (fun z => e2 (nI_inj (by omega) (by omega) z)), if_neg e2]
-- flaws
def hpn (q : Nat → Int32) (v : Int32) (o : Nat) (a b : Int32) : Bool := anyB (fun k => bit (pins q v o) k && (decide (q (97 + 16 * o + (6 + 2 * k)) = a) && decide (q (97 + 16 * o + (6 + 2 * k) + 1) = b))) 0 5
theorem M_hasPin {m : Nat} {d : Dt} {q : Nat → Int32} (hM : MR m d q) (h : WF q) {o : Nat} (v a b : Int32) (ho : o < nT q) : mX12_hasPin m v (nI o) a b d = some (hpn q v o a b) := by
  have ht := h.t
  unfold mX12_hasPin hpn
  rw [M_pinsOf hM h v ho, Option.bind_some]
  have lp := loop_any (fun n x => mX12_hasPin_11 d m (nI o) a b (pins q v o) n x) (fun k => bit (pins q v o) k && (decide (q (97 + 16 * o + (6 + 2 * k)) = a) && decide (q (97 + 16 * o + (6 + 2 * k) + 1) = b))) (some true) (some false) 5
    (fun fuel k hk => by
      show mX12_hasPin_11 d m (nI o) a b (pins q v o) (fuel + 1) (nI k) = _
      rw [mX12_hasPin_11, show (5 : Int32) = nI 5 from rfl, if_neg (nI_ge hk (by omega)), has12 (by omega), M_pinPlug hM (by omega) hk, Option.bind_some, M_pinHole hM (by omega) hk, Option.bind_some, nI_1]
      by_cases e : bit (pins q v o) k = true
      · rw [if_pos e, e, Bool.true_and]
        by_cases e2 : q (97 + 16 * o + (6 + 2 * k)) = a
        · rw [if_pos e2]
          by_cases e3 : q (97 + 16 * o + (6 + 2 * k) + 1) = b
          · rw [if_pos e3, if_pos (by simp [e2, e3])]
          · rw [if_neg e3, if_neg (by simp [e3])]
        · rw [if_neg e2, if_neg (by simp [e2])]
      · rw [if_neg e, if_neg (by simp [e])])
    (fun fuel => by
      show mX12_hasPin_11 d m (nI o) a b (pins q v o) (fuel + 1) (nI 5) = _
      rw [mX12_hasPin_11, if_pos (by decide)]) 5 0 FUEL rfl (fuel_big (by omega))
  refine lp.trans ?_
  cases anyB _ 0 5 <;> rfl
def pinA (q : Nat → Int32) (i k : Nat) : Int32 := q (97 + 16 * i + (6 + 2 * k))
def pinB (q : Nat → Int32) (i k : Nat) : Int32 := q (97 + 16 * i + (6 + 2 * k) + 1)
def cla (q : Nat → Int32) (v : Int32) (i k : Nat) : Int32 := findI (fun o => hpn q v o (pinA q i k) (pinB q i k)) 0 i
theorem M_clashing {m : Nat} {d : Dt} {q : Nat → Int32} (hM : MR m d q) (h : WF q) {i k : Nat} (v : Int32) (hi : i < nT q) (hk : k < 5) : mX12_clashing m v (nI i) (nI k) d = some (cla q v i k) := by
  have ht := h.t
  unfold mX12_clashing cla
  exact loop_find (fun n x => mX12_clashing_3 d m v (nI i) (nI k) n x) _ some i
    (fun fuel o ho => by
      show mX12_clashing_3 d m v (nI i) (nI k) (fuel + 1) (nI o) = _
      rw [mX12_clashing_3, if_neg (nI_ge ho (by omega)), M_pinPlug hM (by omega) hk, Option.bind_some, M_pinHole hM (by omega) hk, Option.bind_some, M_hasPin hM h v _ _ (by omega), Option.bind_some, nI_1]
      rfl)
    (fun fuel => by
      show mX12_clashing_3 d m v (nI i) (nI k) (fuel + 1) (nI i) = _
      rw [mX12_clashing_3, if_pos (Int32.le_refl _)]) i 0 FUEL (Nat.zero_add _) (fuel_big (by omega))
def bes (q : Nat → Int32) (v : Int32) (i k : Nat) : Int32 := if q (97 + 16 * i) = 2 then -1 else findI (fun o => decide (q (97 + 16 * o) = 1 - q (97 + 16 * i)) && (hpn q v o (pinA q i k) (pinB q i k - 1) || hpn q v o (pinA q i k) (pinB q i k + 1))) 0 (nT q)
theorem M_beside {m : Nat} {d : Dt} {q : Nat → Int32} (hM : MR m d q) (h : WF q) {i k : Nat} (v : Int32) (hi : i < nT q) (hk : k < 5) : mX12_beside m v (nI i) (nI k) d = some (bes q v i k) := by
  have ht := h.t
  obtain ⟨t, ht3, et⟩ := (h.net hi).1
  unfold mX12_beside
  rw [M_netOf hM (c := 0) (k := 0) rfl (by omega) (by omega), Option.bind_some, Nat.add_zero]
  by_cases e : q (97 + 16 * i) = 2
  · rw [show bes q v i k = -1 from if_pos e, e]
    have hone : ∀ z, mX12_beside_11 d m v (nI i) (nI k) 2 FUEL z = mX12_beside_11 d m v (nI i) (nI k) 2 (999999 + 1) z := fun z => rfl
    rw [show (0 : Int32) = nI 0 from rfl, hone, mX12_beside_11, if_pos ib5, row5 hM, ht.1, if_pos (Int32.le_refl _)]
    split <;> rfl
  · have hlt : ¬ (2 : Int32) ≤ q (97 + 16 * i) := by
      rw [et] at e ⊢
      have : ∀ t, t < 3 → ¬ nI t = 2 → ¬ (2 : Int32) ≤ nI t := by decide +kernel
      exact this t ht3 e
    rw [show bes q v i k = _ from if_neg e]
    exact loop_find (fun n x => mX12_beside_11 d m v (nI i) (nI k) (q (97 + 16 * i)) n x) _ some (nT q)
      (fun fuel o ho => by
        show mX12_beside_11 d m v (nI i) (nI k) (q (97 + 16 * i)) (fuel + 1) (nI o) = _
        rw [mX12_beside_11, if_pos ib5, row5 hM, ht.1, if_neg (nI_ge ho (by omega)), if_neg hlt, M_pinPlug hM (by omega) hk, Option.bind_some, M_pinHole hM (by omega) hk, Option.bind_some, M_hasPin hM h v _ _ ho, Option.bind_some, Option.bind_some, Option.bind_some, M_hasPin hM h v _ _ ho, Option.bind_some]
        unfold mX12_beside_81
        rw [M_netOf hM (c := 0) (k := 0) rfl (by omega) (by omega), Option.bind_some, Nat.add_zero, nI_1]
        show _ = if (decide (q (97 + 16 * o) = 1 - q (97 + 16 * i)) && (hpn q v o (pinA q i k) (pinB q i k - 1) || hpn q v o (pinA q i k) (pinB q i k + 1))) = true then some (nI o) else _
        unfold pinA pinB
        by_cases e3 : q (97 + 16 * o) = 1 - q (97 + 16 * i)
        · cases hpn q v o (q (97 + 16 * i + (6 + 2 * k))) (q (97 + 16 * i + (6 + 2 * k) + 1) - 1) <;> cases hpn q v o (q (97 + 16 * i + (6 + 2 * k))) (q (97 + 16 * i + (6 + 2 * k) + 1) + 1) <;> simp [e3]
        · cases hpn q v o (q (97 + 16 * i + (6 + 2 * k))) (q (97 + 16 * i + (6 + 2 * k) + 1) - 1) <;> cases hpn q v o (q (97 + 16 * i + (6 + 2 * k))) (q (97 + 16 * i + (6 + 2 * k) + 1) + 1) <;> simp [e3])
      (fun fuel => by
        show mX12_beside_11 d m v (nI i) (nI k) (q (97 + 16 * i)) (fuel + 1) (nI (nT q)) = _
        rw [mX12_beside_11, if_pos ib5, row5 hM, ht.1, if_pos (Int32.le_refl _)]) (nT q) 0 FUEL (Nat.zero_add _) (fuel_big (by omega))
