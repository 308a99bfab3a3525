/-! bundles, totals, builds: bounds, and both sides over q -/
theorem cnt_nI (q : Nat → Int32) (i : Nat) (s : Int32) (x : Nat) : ∃ c, c ≤ 5 ∧ cnt q i s x = nI c := by
  unfold cnt
  by_cases e : pop s < 2
  · rw [if_pos e]; exact ⟨0, by omega, rfl⟩
  · rw [if_neg e]
    have := fo_ind (f := fun k (t : Int32) => if (bit s k && (anc q (hubS q i s) x != anc q (pn q i k) x)) = true then t + 1 else t) (fun j t => ∃ c, c ≤ j ∧ t = nI c) 5 0 0 ⟨0, by omega, rfl⟩ (fun j b _ _ hb => by
      obtain ⟨c, hc, rfl⟩ := hb
      by_cases e : (bit s j && (anc q (hubS q i s) x != anc q (pn q i j) x)) = true
      · exact ⟨c + 1, by omega, (if_pos e).trans (nI_1 c)⟩
      · exact ⟨c, by omega, if_neg e⟩)
    exact this
theorem bod_nI {q : Nat → Int32} (w : WF q) (v : Int32) (x : Nat) : ∃ b, b ≤ 4050 ∧ bod q v x = nI b := by
  have ht := w.t
  have := fo_ind (f := fun i (t : Int32) => t + cnt q i (pins q v i) x * gau q i * gau q i) (fun j t => j ≤ nT q → ∃ c, c ≤ 405 * j ∧ t = nI c) (nT q) 0 0 (fun _ => ⟨0, by omega, rfl⟩) (fun j b _ hj hb _ => by
    obtain ⟨c, hc, rfl⟩ := hb (by omega)
    obtain ⟨d, hd, e⟩ := cnt_nI q j (pins q v j) x
    obtain ⟨g, -, hg, eg⟩ := (w.net (show j < nT q by omega)).2.1
    refine ⟨c + d * g * g, ?_, ?_⟩
    · have h1 : d * g ≤ 5 * 9 := Nat.mul_le_mul hd hg
      have h2 : d * g * g ≤ 5 * 9 * 9 := Nat.mul_le_mul h1 hg
      omega
    · rw [e, show gau q j = nI g from eg, pk_mul, pk_mul, nI_add])
  rw [Nat.zero_add] at this
  obtain ⟨c, hc, e⟩ := this (Nat.le_refl _)
  exact ⟨c, by omega, e⟩
theorem X_countNets {h : Nat} {d : Dt} {q : Nat → Int32} (x : XR h d q) (w : WF q) : d.1 (h + 32) 0 = nI (nT q) := x.ne.1.trans w.t.1
def cou (q : Nat → Int32) (v : Int32) (x : Nat) : Int32 := fo (fun i t => t + cnt q i (pins q v i) x) 0 (nT q) 0
theorem X_countThrough {h : Nat} {d : Dt} {q : Nat → Int32} (x : XR h d q) (w : WF q) {n : Nat} (v : Int32) (hn : n < nN q) : mX10_countThrough h v (nI n) d = some (cou q v n) := by
  have ht := w.t
  unfold mX10_countThrough cou
  exact loop_fo (fun f i t => mX10_countThrough_5 d h v (nI n) f t i) _ some (nT q) (fun _ _ => True)
    (fun fuel i t hi _ => by
      show mX10_countThrough_5 d h v (nI n) (fuel + 1) t (nI i) = _
      rw [mX10_countThrough_5, X_countNets x w, if_neg (nI_ge hi (by omega)), X_runsThrough x w v hi hn, Option.bind_some, nI_1])
    (fun _ _ _ _ => trivial)
    (fun fuel t _ => by
      show mX10_countThrough_5 d h v (nI n) (fuel + 1) t (nI (nT q)) = _
      rw [mX10_countThrough_5, X_countNets x w, if_pos (Int32.le_refl _)])
    (nT q) 0 0 FUEL (Nat.zero_add _) trivial (fuel_big (by omega))
theorem X_bodyThrough {h : Nat} {d : Dt} {q : Nat → Int32} (x : XR h d q) (w : WF q) {n : Nat} (v : Int32) (hn : n < nN q) : mX10_bodyThrough h v (nI n) d = some (bod q v n) := by
  have ht := w.t
  unfold mX10_bodyThrough bod
  exact loop_fo (fun f i t => mX10_bodyThrough_5 d h v (nI n) f t i) _ some (nT q) (fun _ _ => True)
    (fun fuel i t hi _ => by
      have hg : d.1 (h + 34) i = gau q i := (x.ne.2 i hi).1 1 (by omega)
      show mX10_bodyThrough_5 d h v (nI n) (fuel + 1) t (nI i) = _
      rw [mX10_bodyThrough_5, X_countNets x w, if_neg (nI_ge hi (by omega)), if_pos (inB_nI (by omega) (by decide)), X_runsThrough x w v hi hn, Option.bind_some, nI_1, cl_nI (by omega), hg])
    (fun _ _ _ _ => trivial)
    (fun fuel t _ => by
      show mX10_bodyThrough_5 d h v (nI n) (fuel + 1) t (nI (nT q)) = _
      rw [mX10_bodyThrough_5, X_countNets x w, if_pos (Int32.le_refl _)])
    (nT q) 0 0 FUEL (Nat.zero_add _) trivial (fuel_big (by omega))
def thr (q : Nat → Int32) (v : Int32) (x : Nat) : Int32 := bset (fun i => decide (¬ cnt q i (pins q v i) x ≤ 0)) (nT q)
theorem X_netsThrough {h : Nat} {d : Dt} {q : Nat → Int32} (x : XR h d q) (w : WF q) {n : Nat} (v : Int32) (hn : n < nN q) : mX10_netsThrough h v (nI n) d = some (thr q v n) := by
  have ht := w.t
  unfold mX10_netsThrough thr bset
  exact loop_fo (fun f i t => mX10_netsThrough_5 d h v (nI n) f t i) _ some (nT q) (fun _ _ => True)
    (fun fuel i t hi _ => by
      show mX10_netsThrough_5 d h v (nI n) (fuel + 1) t (nI i) = mX10_netsThrough_5 d h v (nI n) fuel (if decide (¬ cnt q i (pins q v i) n ≤ 0) = true then _ else t) _
      rw [mX10_netsThrough_5, X_countNets x w, if_neg (nI_ge hi (by omega)), X_runsThrough x w v hi hn, Option.bind_some, nI_1]
      by_cases e : cnt q i (pins q v i) n ≤ 0
      · rw [if_pos e, if_neg (by simp [e])]
      · rw [if_neg e, if_pos (by simp [e])])
    (fun _ _ _ _ => trivial)
    (fun fuel t _ => by
      show mX10_netsThrough_5 d h v (nI n) (fuel + 1) t (nI (nT q)) = _
      rw [mX10_netsThrough_5, X_countNets x w, if_pos (Int32.le_refl _)])
    (nT q) 0 0 FUEL (Nat.zero_add _) trivial (fuel_big (by omega))
/-- the ROUND of a body -/
def rndF (b : Nat) : Nat → Nat → Nat
  | v, 0 => v
  | v, k + 1 => if 12 * b ≤ 10 * v * v then v else rndF b (v + 1) k
def rnd (b : Nat) : Nat := rndF b 0 71
theorem mul10 {v : Nat} (h : v ≤ 71) : 10 * v * v ≤ 50410 := by
  have : 10 * v * v ≤ 10 * 71 * 71 := Nat.mul_le_mul (Nat.mul_le_mul_left 10 h) h
  omega
theorem X_roundOf {b : Nat} (hb : b ≤ 4050) : mX10_roundOf (nI b) = some (nI (rnd b)) := by
  have key : ∀ k v fuel, v + k = 71 → k < fuel → v ≤ b + 1 → mX10_roundOf_2 (nI b) fuel (nI v) = some (nI (rndF b v k)) := by
    intro k
    induction k with
    | zero =>
      intro v fuel hv hf hvb
      obtain ⟨g, rfl⟩ : ∃ g, fuel = g + 1 := ⟨fuel - 1, by omega⟩
      obtain rfl : v = 71 := by omega
      show _ = some (nI 71)
      rw [mX10_roundOf_2]
      by_cases e : nI b < nI 71
      · rw [if_pos e]
      · rw [if_neg e, if_pos (show (12 : Int32) * nI b ≤ nI 71 * nI 71 * 10 by
          rw [show (12 : Int32) = nI 12 from rfl, pk_mul, show nI 71 * nI 71 * 10 = nI 50410 from rfl]
          exact nI_le (by omega) (by omega))]
    | succ k ih =>
      intro v fuel hv hf hvb
      obtain ⟨g, rfl⟩ : ∃ g, fuel = g + 1 := ⟨fuel - 1, by omega⟩
      have hv2 := mul10 (v := v) (by omega)
      have ev : nI v * nI v * 10 = nI (10 * v * v) := by
        rw [show (10 : Int32) = nI 10 from rfl, pk_mul, pk_mul]; congr 1
        rw [Nat.mul_comm (v * v) 10, Nat.mul_assoc]
      have e12 : (12 : Int32) * nI b = nI (12 * b) := by rw [show (12 : Int32) = nI 12 from rfl, pk_mul]
      show _ = some (nI (if 12 * b ≤ 10 * v * v then v else rndF b (v + 1) k))
      rw [mX10_roundOf_2, ev, e12]
      by_cases e : nI b < nI v
      · have : b < v := (nI_ltI (by omega) (by omega)).mp e
        obtain rfl : v = b + 1 := by omega
        rw [if_pos e, if_pos (by
          have h1 : 10 * (b + 1) * (b + 1) = 10 * (b * b) + 20 * b + 10 := by
            rw [Nat.mul_assoc, Nat.add_mul, Nat.mul_add, Nat.mul_add, Nat.mul_add]; omega
          omega)]
      · rw [if_neg e]
        by_cases e2 : 12 * b ≤ 10 * v * v
        · rw [if_pos e2, if_pos (nI_le e2 (by omega))]
        · rw [if_neg e2, if_neg (nI_ge (by omega) (by omega)), nI_1]
          have : ¬ b < v := fun z => e ((nI_ltI (by omega) (by omega)).mpr z)
          exact ih (v + 1) g (by omega) (by omega) (by omega)
  exact key 71 0 FUEL rfl (fuel_big (by omega)) (by omega)
theorem M_round {b : Nat} (hb : b ≤ 4050) (d : Dt) : mX12_bundle_101 (nI b) FUEL 0 d = some (nI (rnd b), d) := by
  have key : ∀ k v fuel, v + k = 71 → k < fuel → mX12_bundle_101 (nI b) fuel (nI v) d = some (nI (rndF b v k), d) := by
    intro k
    induction k with
    | zero =>
      intro v fuel hv hf
      obtain ⟨g, rfl⟩ : ∃ g, fuel = g + 1 := ⟨fuel - 1, by omega⟩
      obtain rfl : v = 71 := by omega
      show _ = some (nI 71, d)
      rw [mX12_bundle_101, if_pos (show (12 : Int32) * nI b ≤ 10 * nI 71 * nI 71 by
          rw [show (12 : Int32) = nI 12 from rfl, pk_mul, show 10 * nI 71 * nI 71 = nI 50410 from rfl]
          exact nI_le (by omega) (by omega))]
    | succ k ih =>
      intro v fuel hv hf
      obtain ⟨g, rfl⟩ : ∃ g, fuel = g + 1 := ⟨fuel - 1, by omega⟩
      have hv2 := mul10 (v := v) (by omega)
      have ev : 10 * nI v * nI v = nI (10 * v * v) := by
        rw [show (10 : Int32) = nI 10 from rfl, pk_mul, pk_mul]
      have e12 : (12 : Int32) * nI b = nI (12 * b) := by rw [show (12 : Int32) = nI 12 from rfl, pk_mul]
      show _ = some (nI (if 12 * b ≤ 10 * v * v then v else rndF b (v + 1) k), d)
      rw [mX12_bundle_101, ev, e12]
      by_cases e2 : 12 * b ≤ 10 * v * v
      · rw [if_pos e2, if_pos (nI_le e2 (by omega))]
      · rw [if_neg e2, if_neg (nI_ge (by omega) (by omega)), nI_1]
        exact ih (v + 1) g (by omega) (by omega)
  exact key 71 0 FUEL rfl (fuel_big (by omega))
/-- the THICKEST bundle -/
def thk (q : Nat → Int32) (v : Int32) : Nat → Nat
  | 0 => 1
  | k + 1 => if bod q v (k + 2) ≤ bod q v (thk q v k) then thk q v k else k + 2
theorem thk_lt (q : Nat → Int32) (v : Int32) : ∀ k, 1 ≤ thk q v k ∧ thk q v k ≤ k + 1 := by
  intro k
  induction k with
  | zero => exact ⟨Nat.le_refl _, Nat.le_refl _⟩
  | succ k ih =>
    unfold thk
    split <;> omega
def thR (q : Nat → Int32) (v : Int32) : Int32 := if nN q = 1 then -2 else nI (thk q v (nN q - 2))
theorem X_thickestOf {h : Nat} {d : Dt} {q : Nat → Int32} (x : XR h d q) (w : WF q) (v : Int32) : mX10_thickestOf h v d = some (thR q v) := by
  have hn := w.n
  have rd : d.1 (h + 3) 0 = nI (nN q) := x.tr.1.trans hn.1
  unfold mX10_thickestOf
  obtain ⟨a, g, hR, eq⟩ := loop_rel (fun f j (a : Int32 × Int32) => mX10_thickestOf_8 d h v f a.1 a.2 j) (fun j a => (j = 1 ∧ a = (-2, -1)) ∨ (2 ≤ j ∧ a = (nI (thk q v (j - 2)), bod q v (thk q v (j - 2))))) (nN q)
    (fun fuel j a hj hR => by
      obtain ⟨a1, a2⟩ := a
      show ∃ b, _ ∧ mX10_thickestOf_8 d h v (fuel + 1) a1 a2 (nI j) = _
      rw [mX10_thickestOf_8, rd, if_neg (nI_ge hj (by omega)), X_bodyThrough x w v hj, Option.bind_some, nI_1]
      rcases hR with ⟨rfl, ea⟩ | ⟨hj1, ea⟩
      · cases ea
        obtain ⟨b, hb, e⟩ := bod_nI w v 1
        rw [if_neg (by
          rw [e]
          intro z
          have h1 := Int32.le_iff_toInt_le.mp z
          have h2 : ¬ nI b < 0 := nI_pos (by omega)
          rw [Int32.lt_iff_toInt_lt] at h2
          have e3 : (-1 : Int32).toInt = -1 := rfl
          have e4 : (0 : Int32).toInt = 0 := rfl
          rw [e3] at h1; rw [e4] at h2; omega)]
        exact ⟨(nI 1, bod q v 1), Or.inr ⟨by omega, rfl⟩, rfl⟩
      · cases ea
        have st : thk q v (j + 1 - 2) = if bod q v j ≤ bod q v (thk q v (j - 2)) then thk q v (j - 2) else j := by
          obtain ⟨k, rfl⟩ : ∃ k, j = k + 2 := ⟨j - 2, by omega⟩
          rfl
        by_cases e : bod q v j ≤ bod q v (thk q v (j - 2))
        · rw [if_pos e]
          exact ⟨_, Or.inr ⟨by omega, by rw [st, if_pos e]⟩, rfl⟩
        · rw [if_neg e]
          exact ⟨(nI j, bod q v j), Or.inr ⟨by omega, by rw [st, if_neg e]⟩, rfl⟩)
    (nN q - 1) 1 (-2, -1) FUEL (by omega) (Or.inl ⟨rfl, rfl⟩) (fuel_big (by omega))
  refine Eq.trans eq ?_
  obtain ⟨a1, a2⟩ := a
  show mX10_thickestOf_8 d h v (g + 1) a1 a2 (nI (nN q)) = _
  rw [mX10_thickestOf_8, rd, if_pos (Int32.le_refl _)]
  unfold thR
  rcases hR with ⟨h0, ea⟩ | ⟨h0, ea⟩
  · cases ea; rw [if_pos h0]
  · cases ea; rw [if_neg (by omega)]
def tot (q : Nat → Int32) (v g : Int32) : Int32 := fo (fun i t => if g = 0 ∨ gau q i = g then t + lenS q i (pins q v i) else t) 0 (nT q) 0
theorem X_lengthOfGauge {h : Nat} {d : Dt} {q : Nat → Int32} (x : XR h d q) (w : WF q) (v g : Int32) : mX10_lengthOfGauge h v g d = some (tot q v g) := by
  have ht := w.t
  unfold mX10_lengthOfGauge tot
  exact loop_fo (fun f i t => mX10_lengthOfGauge_5 d h v g f t i) _ some (nT q) (fun _ _ => True)
    (fun fuel i t hi _ => by
      have hg : d.1 (h + 34) i = gau q i := (x.ne.2 i hi).1 1 (by omega)
      have tl : mX10_lengthOfGauge_35 (mX10_lengthOfGauge_5 d h v g fuel) d h v g t (nI i) = mX10_lengthOfGauge_5 d h v g fuel (t + lenS q i (pins q v i)) (nI (i + 1)) := by
        unfold mX10_lengthOfGauge_35
        rw [X_pinsThere x w v hi, Option.bind_some, X_lengthOf x w hi (pins_ok w v hi), Option.bind_some, nI_1]
      show mX10_lengthOfGauge_5 d h v g (fuel + 1) t (nI i) = mX10_lengthOfGauge_5 d h v g fuel (if g = 0 ∨ gau q i = g then _ else t) _
      rw [mX10_lengthOfGauge_5, X_countNets x w, if_neg (nI_ge hi (by omega)), tl, if_pos (inB_nI (by omega) (by decide)), cl_nI (by omega), hg, nI_1]
      by_cases e : g = 0
      · rw [if_pos e, if_pos (Or.inl e)]
      · rw [if_neg e]
        by_cases e2 : gau q i = g
        · rw [if_pos e2, if_pos (Or.inr e2)]
        · rw [if_neg e2, if_neg (fun z => z.elim e e2)])
    (fun _ _ _ _ => trivial)
    (fun fuel t _ => by
      show mX10_lengthOfGauge_5 d h v g (fuel + 1) t (nI (nT q)) = _
      rw [mX10_lengthOfGauge_5, X_countNets x w, if_pos (Int32.le_refl _)])
    (nT q) 0 0 FUEL (Nat.zero_add _) trivial (fuel_big (by omega))
