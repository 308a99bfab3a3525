/-! who is used -/
def usd (q : Nat → Int32) (i : Nat) : Bool := anyB (fun b => decide (2 ≤ pop (pins q (vr q b) i))) 0 (nB q)
theorem full_bit : ∀ B, B ≤ 5 → ∀ b, b < 5 → b < B → bit (((1 : Int32) <<< (nI B &&& 31)) - 1) b = true := by decide +kernel
theorem anyB_true {c : Nat → Bool} : ∀ k i, anyB c i k = true ↔ ∃ j, i ≤ j ∧ j < i + k ∧ c j = true := by
  intro k
  induction k with
  | zero =>
    intro i
    constructor
    · intro h; exact absurd (show false = true from h) (by decide)
    · rintro ⟨j, h1, h2, -⟩; omega
  | succ k ih =>
    intro i
    show (c i || anyB c (i + 1) k) = true ↔ _
    rw [Bool.or_eq_true_iff, ih]
    constructor
    · rintro (h | ⟨j, h1, h2, h3⟩)
      · exact ⟨i, Nat.le_refl _, by omega, h⟩
      · exact ⟨j, by omega, by omega, h3⟩
    · rintro ⟨j, h1, h2, h3⟩
      by_cases e : j = i
      · subst e; exact Or.inl h3
      · exact Or.inr ⟨j, by omega, by omega, h3⟩
theorem cpn_full {q : Nat → Int32} (w : WF q) {i : Nat} (hi : i < nT q) : cpn q (((1 : Int32) <<< (nI (nB q) &&& 31)) - 1) i = 0 ↔ usd q i = false := by
  have hb := w.b
  constructor
  · intro h
    cases e : usd q i with
    | false => rfl
    | true =>
      obtain ⟨b, -, hbb, hp⟩ := (anyB_true _ _).mp e
      have hp : 2 ≤ pop (pins q (vr q b) i) := by simpa using hp
      have key := fo_ind (f := cpS q (((1 : Int32) <<< (nI (nB q) &&& 31)) - 1) i) (fun j t => j ≤ nB q → ∀ b, b < j → 2 ≤ pop (pins q (vr q b) i) → bit t (fst5 (pins q (vr q b) i)) = true) (nB q) 0 0 (fun _ b hb => absurd hb (Nat.not_lt_zero _)) (fun j t _ hj ht hle b hbj hp => by
        have ht := ht (by omega)
        show bit (cpS q _ i j t) _ = true
        unfold cpS
        by_cases ej : b = j
        · subst ej
          rw [if_pos (by rw [full_bit (nB q) hb.2 b (by omega) (by omega)]; simp; omega), bit_or, (M_firstOf (pins_ok w (vr q b) hi) (by omega)).2.2, Bool.or_true]
        · have := ht b (by omega) hp
          split
          · rw [bit_or, this, Bool.true_or]
          · exact this)
      rw [Nat.zero_add] at key
      have h2 := key (Nat.le_refl _) b (by omega) hp
      unfold cpn at h
      rw [h, bit_0] at h2
      cases h2
  · intro h
    unfold cpn
    refine fo_id _ _ _ fun j t _ hj => ?_
    unfold cpS
    rw [if_neg]
    intro z
    obtain ⟨-, z2⟩ := Bool.and_eq_true_iff.mp z
    have : usd q i = true := (anyB_true _ _).mpr ⟨j, Nat.zero_le _, hj, z2⟩
    rw [h] at this; cases this
theorem X_isUsed {h : Nat} {d : Dt} {q : Nat → Int32} (x : XR h d q) (w : WF q) {i : Nat} (hi : i < nT q) : mX2_isUsed h (nI i) d = some (usd q i) := by
  have hb := w.b
  have rd : d.1 (h + 72) 0 = nI (nB q) := x.bu.1.trans hb.1
  unfold mX2_isUsed
  rw [rd, X_pinsFor x w _ hi, Option.bind_some]
  have hc := cpn_full w hi
  by_cases e : cpn q (((1 : Int32) <<< (nI (nB q) &&& 31)) - 1) i = 0
  · rw [if_pos e, hc.mp e]
  · rw [if_neg e]
    cases eu : usd q i with
    | true => rfl
    | false => exact absurd (hc.mpr eu) e
theorem M_isUnused {m : Nat} {d : Dt} {q : Nat → Int32} (hM : MR m d q) (w : WF q) {i : Nat} (hi : i < nT q) : mX12_isUnused m (nI i) d = some (!usd q i) := by
  have hb := w.b
  unfold mX12_isUnused usd
  have lp := loop_any (fun n b => mX12_isUnused_2 d m (nI i) n b) (fun b => decide (2 ≤ pop (pins q (vr q b) i))) (some false) (some true) (nB q)
    (fun fuel b hbb => by
      have hs := pins_ok w (vr q b) hi
      have h5 := pop_5 (pins q (vr q b) i)
      show mX12_isUnused_2 d m (nI i) (fuel + 1) (nI b) = _
      rw [mX12_isUnused_2, if_pos ib6, row6 hM, hb.1, if_neg (nI_ge hbb (by omega)), M_variantOf hM (by omega), Option.bind_some, M_pinsOf hM w _ hi, Option.bind_some, M_wiresOf hs, Option.bind_some, nI_1]
      by_cases e : pop (pins q (vr q b) i) < 2
      · rw [if_pos e, if_pos (by decide), if_neg (by simp; omega)]
      · rw [if_neg e, if_neg (by
          by_cases e2 : pop (pins q (vr q b) i) = 2
          · rw [if_pos e2]; decide
          · rw [if_neg e2]; exact nI_ge (show 0 < pop (pins q (vr q b) i) by omega) (by omega)), if_pos (by simp; omega)])
    (fun fuel => by
      show mX12_isUnused_2 d m (nI i) (fuel + 1) (nI (nB q)) = _
      rw [mX12_isUnused_2, if_pos ib6, row6 hM, hb.1, if_pos (Int32.le_refl _)]) (nB q) 0 FUEL (Nat.zero_add _) (fuel_big (by omega))
  refine lp.trans ?_
  cases anyB _ 0 (nB q) <;> rfl
