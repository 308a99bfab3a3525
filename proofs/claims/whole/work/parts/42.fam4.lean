/-! families: all rows of the reference -/
def trL (B k : Nat) : Nat → List Nat → Nat → List (List Nat × Nat)
  | 0, _, _ => []
  | f + 1, pre, come => if pre.length = B then [(tlf (lf pre), come)] else (List.range (min (come + 1) k)).flatMap fun g => trL B k f (pre ++ [g]) (if g = come then come + 1 else come)
def rstep (q : Nat → Int32) (s : Option (Int32 × List Nat × Nat)) (r : List Nat × Nat) : Option (Int32 × List Nat × Nat) :=
  match s with
  | none => some (wir q (lf r.1) r.2, r)
  | some (z, r0) => if z ≤ wir q (lf r.1) r.2 then some (z, r0) else some (wir q (lf r.1) r.2, r)
def Rst (m : Nat) (d : Dt) (q : Nat → Int32) (s : Option (Int32 × List Nat × Nat)) : Prop :=
  match s with
  | none => d.1 m 31 = 0
  | some (z, l, c) => d.1 m 30 = z ∧ d.1 m 31 = nI c ∧ (1 ≤ c ∧ c ≤ 5) ∧ ∀ b, b < nB q → d.1 (m + 12) b = nI (lf l b)
def MFm (m : Nat) (d0 d : Dt) : Prop := d.2 = d0.2 ∧ ∀ o k, (o ≠ m ∨ (k ≠ 30 ∧ k ≠ 31)) → o ≠ m + 11 → o ≠ m + 12 → d.1 o k = d0.1 o k
theorem MFm_rf (m : Nat) (d : Dt) : MFm m d d := ⟨rfl, fun _ _ _ _ _ => rfl⟩
theorem MFm_tr {m : Nat} {a b c : Dt} (h1 : MFm m a b) (h2 : MFm m b c) : MFm m a c := ⟨h2.1.trans h1.1, fun o k a b c => (h2.2 o k a b c).trans (h1.2 o k a b c)⟩
theorem MFm_MR {m : Nat} {d0 d : Dt} {q : Nat → Int32} (h : MR m d0 q) (f : MFm m d0 d) : MR m d q := fun k hk => by rw [f.2 _ _ (Or.inl (by omega)) (by omega) (by omega)]; exact h k hk
theorem wir_congr {q : Nat → Int32} {ρ ρ' : Nat → Nat} (h : ∀ b, b < nB q → ρ b = ρ' b) (c : Nat) : wir q ρ c = wir q ρ' c := by
  unfold wir
  refine fo_congr _ _ _ fun g _ _ t => ?_
  have : grp ρ (nB q) g = grp ρ' (nB q) g := fo_congr _ _ _ fun b _ hb t => by
    show (if decide (ρ b = g) = true then _ else _) = (if decide (ρ' b = g) = true then _ else _)
    rw [h b (by omega)]
  rw [this]
theorem M_wires {m : Nat} {d : Dt} {q : Nat → Int32} {ρ : Nat → Nat} {come : Nat} (hM : MR m d q) (w : WF q) (hr : ∀ b, b < nB q → d.1 (m + 11) b = nI (ρ b) ∧ ρ b ≤ 5) (hc : come ≤ 5) : mX12_wireOfGroups m (nI come) d = some (wir q ρ come) := by
  have hb := w.b
  unfold mX12_wireOfGroups wir
  exact loop_fo (fun n g t => mX12_wireOfGroups_4 d m (nI come) n t g) (fun g t => t + ned q (grp ρ (nB q) g)) some come (fun _ _ => True)
    (fun fuel g t hg _ => by
      show mX12_wireOfGroups_4 d m (nI come) (fuel + 1) t (nI g) = mX12_wireOfGroups_4 d m (nI come) fuel (t + ned q (grp ρ (nB q) g)) (nI (g + 1))
      rw [mX12_wireOfGroups_4, if_neg (nI_ge hg (by omega))]
      have e1 : ∀ b, b < 32 → bit (grp ρ (nB q) g) b = (decide (b < nB q) && decide (ρ b = g)) := fun b hb32 => bit_bset (by omega) hb32
      have lp := loop_fo (fun n i (a : Int32 × Int32) => mX12_wireOfGroups_18 (mX12_wireOfGroups_4 d m (nI come) fuel) d m (nI come) t (nI g) n a.1 a.2 i)
        (fun b (a : Int32 × Int32) => (if decide (ρ b = g) = true then a.1 ||| ((1 : Int32) <<< (nI b &&& 31)) else a.1, if bit (grp ρ (nB q) g) b = true then a.2 + hv q b else a.2))
        (fun a => mX12_wireOfGroups_4 d m (nI come) fuel (t + com q a.1 * a.2) (nI (g + 1))) (nB q) (fun _ _ => True)
        (fun f2 b a hbb _ => by
          obtain ⟨a1, a2⟩ := a
          have hr1 := hr b hbb
          show mX12_wireOfGroups_18 (mX12_wireOfGroups_4 d m (nI come) fuel) d m (nI come) t (nI g) (f2 + 1) a1 a2 (nI b) = mX12_wireOfGroups_18 (mX12_wireOfGroups_4 d m (nI come) fuel) d m (nI come) t (nI g) f2 (if decide (ρ b = g) = true then a1 ||| ((1 : Int32) <<< (nI b &&& 31)) else a1) (if bit (grp ρ (nB q) g) b = true then a2 + hv q b else a2) (nI (b + 1))
          have tl : ∀ z : Int32, mX12_wireOfGroups_51 (mX12_wireOfGroups_4 d m (nI come) fuel) (mX12_wireOfGroups_18 (mX12_wireOfGroups_4 d m (nI come) fuel) d m (nI come) t (nI g) f2) d m (nI come) t (nI g) a2 (nI b) z a1 = mX12_wireOfGroups_18 (mX12_wireOfGroups_4 d m (nI come) fuel) d m (nI come) t (nI g) f2 (a1 ||| z) (if ρ b = g then a2 + hv q b else a2) (nI (b + 1)) := by
            intro z
            unfold mX12_wireOfGroups_51
            rw [if_pos (inB_nI (by omega) (by decide)), cl_nI (by omega), hr1.1, M_manyOf hM (by omega), Option.bind_some, nI_1]
            by_cases e : ρ b = g
            · rw [if_pos (by rw [e]), if_pos e]
            · rw [if_neg (fun z => e (nI_inj (by omega) (by omega) z)), if_neg e, Int32.add_zero]
          rw [mX12_wireOfGroups_18, if_pos ib6, row6 hM, hb.1, if_neg (nI_ge hbb (by omega)), if_pos (inB_nI (by omega) (by decide)), cl_nI (by omega), hr1.1, tl, tl, e1 b (by omega)]
          by_cases e : ρ b = g
          · rw [if_pos (by rw [e]), if_pos e, if_pos (by simp [e]), if_pos (by simp [e, hbb])]
          · rw [if_neg (fun z => e (nI_inj (by omega) (by omega) z)), if_neg e, if_neg (by simp [e]), if_neg (by simp [e]), Int32.or_zero])
        (fun _ _ _ _ => trivial)
        (fun f2 a _ => by
          obtain ⟨a1, a2⟩ := a
          show mX12_wireOfGroups_18 (mX12_wireOfGroups_4 d m (nI come) fuel) d m (nI come) t (nI g) (f2 + 1) a1 a2 (nI (nB q)) = _
          rw [mX12_wireOfGroups_18, if_pos ib6, row6 hM, hb.1, if_pos (Int32.le_refl _), M_commonOf hM w, Option.bind_some, nI_1])
        (nB q) 0 (0, 0) FUEL (Nat.zero_add _) trivial (fuel_big (by omega))
      refine lp.trans ?_
      have pr : ∀ k i (a : Int32 × Int32), fo (fun b (a : Int32 × Int32) => (if decide (ρ b = g) = true then a.1 ||| ((1 : Int32) <<< (nI b &&& 31)) else a.1, if bit (grp ρ (nB q) g) b = true then a.2 + hv q b else a.2)) i k a = (fo (fun b a => if decide (ρ b = g) = true then a ||| ((1 : Int32) <<< (nI b &&& 31)) else a) i k a.1, fo (fun b a => if bit (grp ρ (nB q) g) b = true then a + hv q b else a) i k a.2) := by
        intro k
        induction k with
        | zero => intro i a; rfl
        | succ k ih => intro i a; exact ih (i + 1) _
      rw [pr]
      rfl)
    (fun _ _ _ _ => trivial)
    (fun fuel t _ => by
      show mX12_wireOfGroups_4 d m (nI come) (fuel + 1) t (nI come) = _
      rw [mX12_wireOfGroups_4, if_pos (Int32.le_refl _)])
    come 0 0 FUEL (Nat.zero_add _) trivial (fuel_big (by omega))
theorem M_keep {m : Nat} {d : Dt} {ρ : Nat → Nat} (rc : Int32 → Int32 → Int32 → Dt → Option Dt) : ∃ d1, mX12_tries_48 rc m FUEL 0 d = some d1 ∧ d1.2 = d.2 ∧ (∀ o k, o ≠ m + 12 → d1.1 o k = d.1 o k) ∧ ∀ j, j < 5 → d1.1 (m + 12) j = d.1 (m + 11) j := by
  obtain ⟨d1, g, ⟨r1, r2, r3⟩, e⟩ := loop_rel (fun n i d => mX12_tries_48 rc m n i d) (fun i d1 => d1.2 = d.2 ∧ (∀ o k, o ≠ m + 12 → d1.1 o k = d.1 o k) ∧ ∀ j, j < i → d1.1 (m + 12) j = d.1 (m + 11) j) 5
    (fun fuel i d1 hi hR => by
      obtain ⟨r1, r2, r3⟩ := hR
      show ∃ b, _ ∧ mX12_tries_48 rc m (fuel + 1) (nI i) d1 = _
      rw [mX12_tries_48, if_neg (show ¬ (5 : Int32) ≤ nI i from nI_ge hi (by decide)), if_pos (inB_nI (by omega) (by decide)), if_pos (inB_nI (by omega) (by decide)), cl_nI (by omega), r2 (m + 11) i (by omega), nI_1]
      refine ⟨uI d1 (m + 12) i (d.1 (m + 11) i), ⟨r1, fun o k ho => by rw [dI_ne (Or.inl ho)]; exact r2 o k ho, fun j hj => ?_⟩, rfl⟩
      by_cases e : j = i
      · subst e; rw [dI_at]
      · rw [dI_ne (Or.inr e)]; exact r3 j (by omega))
    5 0 d FUEL rfl ⟨rfl, fun _ _ _ => rfl, fun j hj => absurd hj (Nat.not_lt_zero _)⟩ (fuel_big (by omega))
  refine ⟨d1, ?_, r1, r2, r3⟩
  refine Eq.trans e ?_
  show mX12_tries_48 rc m (g + 1) (nI 5) d1 = _
  rw [mX12_tries_48, if_pos (show (5 : Int32) ≤ nI 5 by decide)]
theorem lf_app {l : List Nat} {g j : Nat} : lf (l ++ [g]) j = if j < l.length then lf l j else if j = l.length then g else 0 := by
  unfold lf
  by_cases e : j < l.length
  · rw [if_pos e]; simp [List.getD, List.getElem?_append_left e]
  · rw [if_neg e]
    by_cases e2 : j = l.length
    · subst e2; simp [List.getD]
    · rw [if_neg e2]
      simp only [List.getD]
      rw [List.getElem?_eq_none (by simp; omega)]; rfl
