/-! the law's loop -/
theorem lw_ad (a : Nat) (k : Nat) {x : Int32} (hx : nI k = x) : nI a + x = nI (a + k) := by
  subst hx
  exact (Int32.ofNat_add a k).symm
theorem vp_nI {j n : Nat} (h : j < n) (hn : n < 2 ^ 31) : vp_in (nI j) n := by
  rintro (z | z)
  · exact nI_lt0 (by omega) z
  · rw [cl_nI (by omega)] at z; omega
theorem IX_of {a L : Nat} (h : a + 5 < L) (hL : L ≤ 3072) : IX (nI a) L := by
  refine ⟨?_, ?_, ?_, ?_, ?_⟩
  · rw [lw_ad a 1 (by decide)]; exact vp_nI (by omega) (by omega)
  · rw [lw_ad a 2 (by decide)]; exact vp_nI (by omega) (by omega)
  · rw [lw_ad a 3 (by decide)]; exact vp_nI (by omega) (by omega)
  · rw [lw_ad a 4 (by decide)]; exact vp_nI (by omega) (by omega)
  · rw [lw_ad a 5 (by decide)]; exact vp_nI (by omega) (by omega)
theorem lw_end {a L : Nat} (ha : a ≤ 4096) (hL : L ≤ 3072) : nI L - 6 < nI a ↔ L < a + 6 := by
  rw [Int32.lt_iff_toInt_lt, Int32.toInt_sub, ti_nI (by omega), ti_nI (by omega), show (6 : Int32).toInt = 6 from rfl, Int.bmod_eq_of_le (by omega) (by omega)]
  omega
def lwT : Array Nat := #[240, 313, 338, 351, 364, 389, 446, 483, 520, 569, 594, 631, 668, 681, 718, 743, 756, 793, 830, 879, 904, 941, 978, 1015, 1064, 1113, 1150, 1199, 1224, 1261, 1286, 1335, 1348, 1361, 1398, 1423, 1460, 1485, 1510, 1535, 1572, 1609, 1646, 1659, 1715, 1740]
def lwO : Array Int := #[200, 273, 298, 311, 324, 349, 406, 443, 480, 529, 554, 591, 628, 641, 678, 703, 716, 753, 790, 839, 864, 901, 938, 975, 1024, 1073, 1110, 1159, 1184, 1221, 1246, 1295, 1308, 1321, 1358, 1383, 1420, 1445, 1470, 1495, 1532, 1569, 1606, 1619, 1675, 1700]
section LL
variable {nm : String} {b : Nat} {G : Gl} {bc bs : Nat} {Φ : List Value → Sg → Dt → Prop} {L : Nat} {xs : Nat → Int32}
theorem law_case {i : Int32} {σ : Sg} {d : Dt} {h p : Nat} {q : Nat → Int32} {bb : Bool} (tx : TX G) (hs : va_X b L xs G.2.1 G.2.1.heap) (X : IX i L) (I : LI σ d h p q bb) (K : LK nm b G i bc bs Φ) : ∀ (n t : Nat), lwT[n]? = some t → VL nm b G i (1 + bc) (7 + bs) Φ t [] σ d := by
  have w : ∀ {t : Nat}, VL nm b G i bc bs Φ t [] σ d → VL nm b G i (1 + bc) (7 + bs) Φ t [] σ d := fun z => V_room ⟨Nat.le_refl _, by omega, by omega⟩ z
  intro n t hn
  match n, hn with
  | 0, hn =>
    obtain rfl : 240 = t := Option.some.inj hn
    exact w (law_c0 hs X I K)
  | 1, hn =>
    obtain rfl : 313 = t := Option.some.inj hn
    exact law_c1 hs X I K
  | 2, hn =>
    obtain rfl : 338 = t := Option.some.inj hn
    exact w (law_c2 hs X I K)
  | 3, hn =>
    obtain rfl : 351 = t := Option.some.inj hn
    exact w (law_c3 hs X I K)
  | 4, hn =>
    obtain rfl : 364 = t := Option.some.inj hn
    exact w (law_c4 hs X I K)
  | 5, hn =>
    obtain rfl : 389 = t := Option.some.inj hn
    exact w (law_c5 hs X I K)
  | 6, hn =>
    obtain rfl : 446 = t := Option.some.inj hn
    exact w (law_c6 hs X I K)
  | 7, hn =>
    obtain rfl : 483 = t := Option.some.inj hn
    exact w (law_c7 hs X I K)
  | 8, hn =>
    obtain rfl : 520 = t := Option.some.inj hn
    exact w (law_c8 hs X I K)
  | 9, hn =>
    obtain rfl : 569 = t := Option.some.inj hn
    exact w (law_c9 hs X I K)
  | 10, hn =>
    obtain rfl : 594 = t := Option.some.inj hn
    exact w (law_c10 hs X I K)
  | 11, hn =>
    obtain rfl : 631 = t := Option.some.inj hn
    exact w (law_c11 hs X I K)
  | 12, hn =>
    obtain rfl : 668 = t := Option.some.inj hn
    exact w (law_c12 hs X I K)
  | 13, hn =>
    obtain rfl : 681 = t := Option.some.inj hn
    exact w (law_c13 hs X I K)
  | 14, hn =>
    obtain rfl : 718 = t := Option.some.inj hn
    exact w (law_c14 hs X I K)
  | 15, hn =>
    obtain rfl : 743 = t := Option.some.inj hn
    exact w (law_c15 hs X I K)
  | 16, hn =>
    obtain rfl : 756 = t := Option.some.inj hn
    exact w (law_c16 hs X I K)
  | 17, hn =>
    obtain rfl : 793 = t := Option.some.inj hn
    exact w (law_c17 hs X I K)
  | 18, hn =>
    obtain rfl : 830 = t := Option.some.inj hn
    exact w (law_c18 hs X I K)
  | 19, hn =>
    obtain rfl : 879 = t := Option.some.inj hn
    exact w (law_c19 hs X I K)
  | 20, hn =>
    obtain rfl : 904 = t := Option.some.inj hn
    exact w (law_c20 hs X I K)
  | 21, hn =>
    obtain rfl : 941 = t := Option.some.inj hn
    exact w (law_c21 hs X I K)
  | 22, hn =>
    obtain rfl : 978 = t := Option.some.inj hn
    exact w (law_c22 hs X I K)
  | 23, hn =>
    obtain rfl : 1015 = t := Option.some.inj hn
    exact w (law_c23 hs X I K)
  | 24, hn =>
    obtain rfl : 1064 = t := Option.some.inj hn
    exact w (law_c24 hs X I K)
  | 25, hn =>
    obtain rfl : 1113 = t := Option.some.inj hn
    exact w (law_c25 hs X I K)
  | 26, hn =>
    obtain rfl : 1150 = t := Option.some.inj hn
    exact w (law_c26 hs X I K)
  | 27, hn =>
    obtain rfl : 1199 = t := Option.some.inj hn
    exact w (law_c27 hs X I K)
  | 28, hn =>
    obtain rfl : 1224 = t := Option.some.inj hn
    exact w (law_c28 hs X I K)
  | 29, hn =>
    obtain rfl : 1261 = t := Option.some.inj hn
    exact w (law_c29 hs X I K)
  | 30, hn =>
    obtain rfl : 1286 = t := Option.some.inj hn
    exact w (law_c30 hs X I K)
  | 31, hn =>
    obtain rfl : 1335 = t := Option.some.inj hn
    exact w (law_c31 hs X I K)
  | 32, hn =>
    obtain rfl : 1348 = t := Option.some.inj hn
    exact w (law_c32 hs X I K)
  | 33, hn =>
    obtain rfl : 1361 = t := Option.some.inj hn
    exact w (law_c33 hs X I K)
  | 34, hn =>
    obtain rfl : 1398 = t := Option.some.inj hn
    exact w (law_c34 hs X I K)
  | 35, hn =>
    obtain rfl : 1423 = t := Option.some.inj hn
    exact w (law_c35 hs X I K)
  | 36, hn =>
    obtain rfl : 1460 = t := Option.some.inj hn
    exact w (law_c36 hs X I K)
  | 37, hn =>
    obtain rfl : 1485 = t := Option.some.inj hn
    exact w (law_c37 hs X I K)
  | 38, hn =>
    obtain rfl : 1510 = t := Option.some.inj hn
    exact w (law_c38 hs X I K)
  | 39, hn =>
    obtain rfl : 1535 = t := Option.some.inj hn
    exact w (law_c39 hs X I K)
  | 40, hn =>
    obtain rfl : 1572 = t := Option.some.inj hn
    exact w (law_c40 hs X I K)
  | 41, hn =>
    obtain rfl : 1609 = t := Option.some.inj hn
    exact w (law_c41 hs X I K)
  | 42, hn =>
    obtain rfl : 1646 = t := Option.some.inj hn
    exact w (law_c42 hs X I K)
  | 43, hn =>
    obtain rfl : 1659 = t := Option.some.inj hn
    exact V_room ⟨Nat.le_refl _, Nat.le_refl _, by omega⟩ (law_c43 tx hs X I K)
  | 44, hn =>
    obtain rfl : 1715 = t := Option.some.inj hn
    exact w (law_c44 hs X I K)
  | 45, hn =>
    obtain rfl : 1740 = t := Option.some.inj hn
    exact w (law_c45 hs X I K)
  | n + 46, hn =>
    have : lwT.size ≤ n + 46 := Nat.le_add_left 46 n
    rw [Array.getElem?_eq_none this] at hn
    cases hn
theorem law_off : ∀ n : Nat, n < 46 → ∃ (t : Nat) (off : Int), lwT[n]? = some t ∧ lwO[n]? = some off ∧ (40 : Int) + off = (t : Int) := by
  intro n hn
  have key : ∀ n : Nat, n < 46 → ((lwT[n]?).bind fun t => (lwO[n]?).bind fun off => some (decide ((40 : Int) + off = (t : Int)))) = some true := by decide +kernel
  obtain ⟨t, h1, h2⟩ := Option.bind_eq_some_iff.mp (key n hn)
  obtain ⟨off, h3, h4⟩ := Option.bind_eq_some_iff.mp h2
  exact ⟨t, off, h1, h3, of_decide_eq_true (Option.some.inj h4)⟩
theorem law_loop (tx : TX G) (hs : va_X b L xs G.2.1 G.2.1.heap) (hL : L ≤ 3072) (hΦ : ∀ σ d, Φ [.int 1] σ d) : ∀ n j, L < 6 * (j + n) + 6 → 6 * j ≤ L → ∀ σ d h p q bb, LI σ d h p q bb → VL nm b G (nI (6 * j)) n (7 * n) Φ 23 [] σ d := by
  intro n
  induction n with
  | zero =>
    intro j hn hj σ d h p q bb I
    refine V_iload (pc := 23) 0 dL_law_23 rfl ?_
    refine V_aload_n (pc := 25) 4 dL_law_25 rfl rfl ?_
    refine V_alenX (pc := 26) dL_law_26 hs ?_
    refine V_bipush (pc := 27) (x := 6) dL_law_27 (by decide) ?_
    refine V_isub (pc := 29) dL_law_29 ?_
    refine V_icmp_gt (pc := 30) (tgt := 1759) dL_law_30 (by decide) (fun _ => ?_) (fun z => absurd ((lw_end (by omega) hL).mpr (by omega)) z)
    refine V_iconst (pc := 1759) (x := 1) dL_law_1759 (by decide) ?_
    exact V_ret (pc := 1760) dL_law_1760 ⟨rfl, _, rfl, by decide⟩ (hΦ _ _)
  | succ n ih =>
    intro j hn hj σ d h p q bb I
    refine V_iload (pc := 23) 0 dL_law_23 rfl ?_
    refine V_aload_n (pc := 25) 4 dL_law_25 rfl rfl ?_
    refine V_alenX (pc := 26) dL_law_26 hs ?_
    refine V_bipush (pc := 27) (x := 6) dL_law_27 (by decide) ?_
    refine V_isub (pc := 29) dL_law_29 ?_
    refine V_icmp_gt (pc := 30) (tgt := 1759) dL_law_30 (by decide) (fun _ => ?_) (fun z => ?_)
    · refine V_iconst (pc := 1759) (x := 1) dL_law_1759 (by decide) ?_
      exact V_ret (pc := 1760) dL_law_1760 ⟨rfl, _, rfl, by decide⟩ (hΦ _ _)
    · have hj6 : 6 * j + 6 ≤ L := by
        refine Nat.le_of_not_lt fun w => z ((lw_end (by omega) hL).mpr w)
      have K : LK nm b G (nI (6 * j)) n (7 * n) Φ := by
        intro σ1 d1 h1 p1 q1 b1 I1
        refine V_iinc (pc := 1753) (z := nI (6 * (j + 1))) 0 dL_law_1753 rfl (lw_ad (6 * j) 6 (by decide)) (by decide) rfl ?_
        refine V_goto (pc := 1756) (tgt := 23) dL_law_1756 (by decide) ?_
        exact ih (j + 1) (by omega) (by omega) σ1 d1 h1 p1 q1 b1 I1
      have X : IX (nI (6 * j)) L := IX_of (by omega) hL
      refine V_aload_n (pc := 33) 4 dL_law_33 rfl rfl ?_
      refine V_iload (pc := 34) 0 dL_law_34 rfl ?_
      refine V_ialdX (pc := 36) dL_law_36 hs (vp_nI (by omega) (by omega)) ?_
      refine V_bipush (pc := 37) (x := 63) dL_law_37 (by decide) ?_
      refine V_iand (pc := 39) dL_law_39 ?_
      generalize xs (nI (6 * j)).toNatClampNeg &&& 63 = y
      refine V_room (bc1 := 1 + n) (bs1 := 7 + 7 * n) (dep1 := 24) ⟨Nat.le_refl _, by omega, by omega⟩ ?_
      by_cases g : y.toInt < 0 ∨ 45 < y.toInt
      · exact V_tout (pc := 40) (tgt := 1753) dL_law_40 g (by decide) (V_room ⟨Nat.le_refl _, by omega, by omega⟩ (K _ _ _ _ _ _ I))
      · obtain ⟨t, off, o1, o2, o3⟩ := law_off y.toInt.toNat (by omega)
        refine V_tin (pc := 40) (tgt := t) dL_law_40 (fun z => g (Or.inl z)) (fun z => g (Or.inr z)) (off := off) ?_ o3 (law_case tx hs X I K _ _ o1)
        rw [Int.sub_zero]
        exact o2
end LL
