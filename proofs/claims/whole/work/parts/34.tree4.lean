/-! places are small; what two bundles share -/
theorem mx_eq (a b : Int32) : mX12_most a b = mxI a b := by
  unfold mX12_most mxI
  by_cases e : a < b
  · rw [if_pos e, if_pos (Int32.le_of_lt e)]
  · rw [if_neg e]
    by_cases e2 : a ≤ b
    · rw [if_pos e2]
      have e3 : b ≤ a := Int32.not_lt.mp e
      exact Int32.le_antisymm e3 e2
    · rw [if_neg e2]
theorem mn_eq (a b : Int32) : mX12_least a b = mnI a b := by
  unfold mX12_least mnI
  by_cases e : b < a
  · rw [if_pos e, if_pos (Int32.le_of_lt e)]
  · rw [if_neg e]
    by_cases e2 : b ≤ a
    · rw [if_pos e2]
      have e3 : a ≤ b := Int32.not_lt.mp e
      exact Int32.le_antisymm e2 e3
    · rw [if_neg e2]
def sm (n : Nat) (x : Int32) : Prop := -(n : Int) ≤ x.toInt ∧ x.toInt ≤ n
theorem ti_add {n m : Nat} {a b : Int32} (ha : sm n a) (hb : sm m b) (h : n + m < 2 ^ 31) : (a + b).toInt = a.toInt + b.toInt := by
  unfold sm at ha hb
  rw [Int32.toInt_add, Int.bmod_eq_of_le] <;> omega
theorem ti_sub {n m : Nat} {a b : Int32} (ha : sm n a) (hb : sm m b) (h : n + m < 2 ^ 31) : (a - b).toInt = a.toInt - b.toInt := by
  unfold sm at ha hb
  rw [Int32.toInt_sub, Int.bmod_eq_of_le] <;> omega
theorem ti_nI {n : Nat} (h : n < 2 ^ 31) : (nI n).toInt = n := by
  have h1 := cl_nI h
  have h2 : ¬ nI n < 0 := nI_pos h
  rw [Int32.lt_iff_toInt_lt] at h2
  have h3 : (nI n).toNatClampNeg = (nI n).toInt.toNat := rfl
  have h4 : (0 : Int32).toInt = 0 := rfl
  rw [h4] at h2
  omega
theorem sm_add {n m : Nat} {a b : Int32} (ha : sm n a) (hb : sm m b) (h : n + m < 2 ^ 31) : sm (n + m) (a + b) := by
  have := ti_add ha hb h
  unfold sm at *
  omega
theorem sm_neg {n : Nat} {a : Int32} (ha : sm n a) (h : n < 2 ^ 31) : sm n (-a) := by
  have e : (-a).toInt = -a.toInt := by
    unfold sm at ha
    rw [Int32.toInt_neg, Int.bmod_eq_of_le] <;> omega
  unfold sm at *
  omega
theorem sm_nI {n m : Nat} (h : n < 2 ^ 31) (h2 : n ≤ m) : sm m (nI n) := by
  have := ti_nI h
  unfold sm
  omega
theorem stp_sm {q : Nat → Int32} (w : WF q) (l : List Int32) (hl : l = [0, 1, 0, -1] ∨ l = [1, 0, -1, 0]) {i : Nat} (h1 : 1 ≤ i) (hi : i < nN q) : sm 999 (stp l q i) := by
  obtain ⟨s, hs, es⟩ := w.side h1 hi
  obtain ⟨n, -, hn, en⟩ := w.len h1 hi
  have a0 : sm 999 ((0 : Int32) * nI n) := by rw [Int32.zero_mul]; exact ⟨by decide, by decide⟩
  have a1 : sm 999 ((1 : Int32) * nI n) := by rw [Int32.one_mul]; exact sm_nI (by omega) hn
  have a2 : sm 999 ((-1 : Int32) * nI n) := by rw [Int32.neg_mul, Int32.one_mul]; exact sm_neg (sm_nI (by omega) hn) (by omega)
  unfold stp
  rw [es, en]
  have s4 : s = 0 ∨ s = 1 ∨ s = 2 ∨ s = 3 := by omega
  rcases hl with rfl | rfl <;> rcases s4 with rfl | rfl | rfl | rfl
  · exact a0
  · exact a1
  · exact a0
  · exact a2
  · exact a1
  · exact a0
  · exact a2
  · exact a0
theorem pos_sm {q : Nat → Int32} (w : WF q) (l : List Int32) (hl : l = [0, 1, 0, -1] ∨ l = [1, 0, -1, 0]) : ∀ i, i < nN q → sm (999 * i) (pos l q i) := by
  have hn := w.n
  intro i
  induction i using Nat.strongRecOn with
  | ind i ih =>
    intro hi
    rcases Nat.eq_zero_or_pos i with rfl | h1
    · rw [pos_0]; exact ⟨by decide, by decide⟩
    · have hu := (w.up h1 hi).2
      rw [pos_s l w h1 hi]
      have := sm_add (ih _ hu (by omega)) (stp_sm w l hl h1 hi) (by omega)
      unfold sm at *
      omega
abbrev LX : List Int32 := [0, 1, 0, -1]
abbrev LY : List Int32 := [1, 0, -1, 0]
theorem pos_sm2 {q : Nat → Int32} (w : WF q) (l : List Int32) (hl : l = LX ∨ l = LY) {i : Nat} (hi : i < nN q) : sm 20000 (pos l q i) := by
  have := pos_sm w l hl i hi
  have hn := w.n
  unfold sm at *
  omega
theorem ti_mx (a b : Int32) : (mxI a b).toInt = if a.toInt < b.toInt then b.toInt else a.toInt := by
  unfold mxI
  by_cases e : a < b
  · rw [if_pos e, if_pos (Int32.lt_iff_toInt_lt.mp e)]
  · rw [if_neg e, if_neg (fun z => e (Int32.lt_iff_toInt_lt.mpr z))]
theorem ti_mn (a b : Int32) : (mnI a b).toInt = if b.toInt < a.toInt then b.toInt else a.toInt := by
  unfold mnI
  by_cases e : b < a
  · rw [if_pos e, if_pos (Int32.lt_iff_toInt_lt.mp e)]
  · rw [if_neg e, if_neg (fun z => e (Int32.lt_iff_toInt_lt.mpr z))]
theorem sm_mx {n : Nat} {a b : Int32} (ha : sm n a) (hb : sm n b) : sm n (mxI a b) := by unfold mxI; split <;> assumption
theorem sm_mn {n : Nat} {a b : Int32} (ha : sm n a) (hb : sm n b) : sm n (mnI a b) := by unfold mnI; split <;> assumption
/-- what is shared is what overlaps, if anything does -/
theorem over_sha {a b c d : Int32} (ha : sm 20000 a) (hb : sm 20000 b) (hc : sm 20000 c) (hd : sm 20000 d) : mX9_overlap a b c d = if mX12_shared a b c d ≤ 0 then 0 else mX12_shared a b c d := by
  unfold mX9_overlap mX12_shared
  rw [mx_eq, mx_eq, mn_eq, mn_eq, mn_eq, mx_eq]
  have hH := sm_mn (sm_mx ha hb) (sm_mx hc hd)
  have hL := sm_mx (sm_mn ha hb) (sm_mn hc hd)
  generalize mnI (mxI a b) (mxI c d) = H at hH
  generalize mxI (mnI a b) (mnI c d) = L at hL
  have e1 := ti_sub hH hL (by omega)
  have e2 : (H - L + 1).toInt = H.toInt - L.toInt + 1 := by
    rw [ti_add (n := 40000) (m := 1) (by unfold sm at *; omega) ⟨by decide, by decide⟩ (by omega), e1]; rfl
  have e0 : (0 : Int32).toInt = 0 := rfl
  by_cases e : L ≤ H
  · rw [if_pos e, if_neg]
    intro z
    have z1 := Int32.le_iff_toInt_le.mp z
    have z2 := Int32.le_iff_toInt_le.mp e
    rw [e2, e0] at z1; omega
  · rw [if_neg e, if_pos]
    have z2 : ¬ L.toInt ≤ H.toInt := fun z => e (Int32.le_iff_toInt_le.mpr z)
    rw [Int32.le_iff_toInt_le, e2, e0]; omega
/-- a point on a stretch -/
theorem over_pt (a b p : Int32) : (mX9_overlap a b p p ≤ 0) ↔ ¬ mX12_in p (mX12_least a b) (mX12_most a b) = true := by
  unfold mX9_overlap mX12_in
  rw [mx_eq, mn_eq]
  have epp : mnI p p = p := by unfold mnI; split <;> rfl
  have epx : mxI p p = p := by unfold mxI; split <;> rfl
  rw [epp, epx]
  generalize mnI a b = lo
  generalize mxI a b = hi
  by_cases e1 : p < lo
  · have h1 := Int32.lt_iff_toInt_lt.mp e1
    rw [if_pos e1, if_neg]
    · exact ⟨fun _ => by decide, fun _ => by decide⟩
    · rw [Int32.le_iff_toInt_le, ti_mx, ti_mn]
      rw [if_neg (by omega)]
      split <;> omega
  · rw [if_neg e1]
    have h1 : ¬ p.toInt < lo.toInt := fun z => e1 (Int32.lt_iff_toInt_lt.mpr z)
    by_cases e2 : hi < p
    · have h2 := Int32.lt_iff_toInt_lt.mp e2
      rw [if_pos e2, if_neg]
      · exact ⟨fun _ => by decide, fun _ => by decide⟩
      · rw [Int32.le_iff_toInt_le, ti_mx, ti_mn]
        rw [if_neg (show ¬ p.toInt < hi.toInt by omega)]
        split <;> omega
    · have h2 : ¬ hi.toInt < p.toInt := fun z => e2 (Int32.lt_iff_toInt_lt.mpr z)
      have m1 : mxI lo p = p := Int32.toInt_inj.mp (by rw [ti_mx]; split <;> omega)
      have m2 : mnI hi p = p := Int32.toInt_inj.mp (by rw [ti_mn]; split <;> omega)
      rw [if_neg e2, m1, m2, if_pos (Int32.le_refl _), Int32.sub_self]
      exact ⟨fun z => absurd z (by decide), fun z => absurd rfl z⟩
