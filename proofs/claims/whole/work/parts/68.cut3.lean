/-! the class's cut: digits, all -/
theorem dv_lt {B : Nat → Nat} (hB : ∀ j, B j ≤ 57 ∨ True) : ∀ m s, (∀ j, s ≤ j → j < s + m → isD (B j) = true) → dv B s (s + m) < 10 ^ m := by
  intro m
  induction m with
  | zero => intro s _; rw [Nat.add_zero, dv_0]; omega
  | succ m ih =>
    intro s h
    rw [← Nat.add_assoc, dv_s (by omega), Nat.pow_succ]
    have := ih s (fun j h1 h2 => h j h1 (by omega))
    have := isD_lt (h (s + m) (by omega) (by omega))
    omega
theorem L64_dig {v b : Nat} (hb : 48 ≤ b) : L64 v * (10 : Int64) + L64 b - (48 : Int64) = L64 (10 * v + (b - 48)) := by
  have e10 : (10 : Int64) = L64 10 := rfl
  have e48 : (48 : Int64) = L64 48 := rfl
  rw [e10, L64_mul, L64_add, e48]
  have : L64 (v * 10 + b) = L64 (10 * v + (b - 48)) + L64 48 := by rw [L64_add]; congr 1; omega
  rw [this, Int64.add_sub_cancel]
theorem X_digs {t r s n : Nat} {B : Nat → Nat} {d : Dt} (h : Txt r B n d) (h1 : d.1 t 1 = nI n) : ∀ f k v fuel, n - k = f → s ≤ k → k ≤ n → v = L64 (dv B s k) → f < fuel →
    mX8_cutDigits_5 t r (nI s) fuel v (nI k) d = mX8_cutDigits_46 t (nI s) (L64 (dv B s (run isD B n k))) (nI (run isD B n k)) d := by
  obtain ⟨hB, hn, hT⟩ := h
  intro f
  induction f with
  | zero =>
    intro k v fuel hf hs hk hv hfu
    obtain ⟨g, rfl⟩ : ∃ e, fuel = e + 1 := ⟨fuel - 1, by omega⟩
    obtain rfl : k = n := by omega
    rw [run_stop (Nat.le_refl _), mX8_cutDigits_5, h1, if_pos (Int32.le_refl _), hv]
  | succ f ih =>
    intro k v fuel hf hs hk hv hfu
    obtain ⟨g, rfl⟩ : ∃ e, fuel = e + 1 := ⟨fuel - 1, by omega⟩
    have hkn : k < n := by omega
    obtain ⟨-, b1, -⟩ := sx8_all (B k) (hB k)
    rw [mX8_cutDigits_5, h1, if_neg (nI_ge hkn (by omega)), if_pos (inB_nI (by omega) (by decide)), if_pos (inB_nI (by omega) (by decide)), cl_nI (by omega), hT k hkn, b1, nI_1]
    cases hp : isD (B k) with
    | false => rw [if_neg (by decide), run_no hkn hp, hv]
    | true =>
      have hb := isD_lt hp
      rw [if_pos rfl, run_step hkn hp, sx8_lo (B k) (by omega), L64_i32 (B k) (hB k)]
      exact ih (k + 1) _ g (by omega) (by omega) (by omega) (by rw [hv, L64_dig hb.1, dv_s hs]) (by omega)
theorem X_cutDigits {t r s n c : Nat} {B : Nat → Nat} {d : Dt} (h : Txt r B n d) (hk : Tks t B n c d) (hs : s < n) (hc : c ≤ s) (ht : T B n c = tok B n s) (hl : isL (B s) = false) (hd : isD (B s) = true) :
    ∃ d1, mX8_cutDigits t r (nI s) d = some (nI (T B n c).2.2.1, d1) ∧ Tks t B n (c + 1) d1 ∧ TFm t d d1 := by
  have hn := h.2.1
  have e1 := X_digs (s := s) h hk.2.1 (n - s) s 0 FUEL rfl (Nat.le_refl _) (by omega) (by rw [dv_0]; rfl) (Nat.lt_of_lt_of_le (show n - s < 1000000 by omega) (Nat.le_refl _))
  obtain ⟨g1, g2, -, -⟩ := run_ge (P := isD) (B := B) (n := n) (n - s) s rfl
  have g2 := g2 (by omega)
  have te := tok_D hs hl hd
  rw [← ht] at te
  unfold mX8_cutDigits
  rw [e1]
  unfold mX8_cutDigits_46
  rw [nI_sub g1, show (T B n c).2.2.1 = run isD B n s by rw [te]]
  have pl : (T B n c).1 = s := by rw [te]
  by_cases h7 : run isD B n s - s ≤ 3
  · have kd : (T B n c).2.1 = 3 := by rw [te]; show (if 3 < run isD B n s - s then 0 else 3) = 3; rw [if_neg (by omega)]
    obtain ⟨d1, a1, a2, a3⟩ := X_tadd (v := L64 (dv B s (run isD B n s))) hk (by omega) kd pl (fun _ => by rw [te]) (by omega)
    rw [if_pos (show nI (run isD B n s - s) ≤ 3 from nI_le (b := 3) h7 (by omega)), show (3 : Int32) = nI 3 from rfl, a1, Option.bind_some]
    exact ⟨d1, rfl, a2, a3⟩
  · have kd : (T B n c).2.1 = 0 := by rw [te]; show (if 3 < run isD B n s - s then 0 else 3) = 0; rw [if_pos (by omega)]
    obtain ⟨d1, a1, a2, a3⟩ := X_tadd (v := L64 (dv B s (run isD B n s))) hk (by omega) kd pl (fun z => by omega) (by omega)
    rw [if_neg (show ¬ nI (run isD B n s - s) ≤ 3 from nI_ge (show 3 < run isD B n s - s by omega) (by omega)), show (0 : Int32) = nI 0 from rfl, a1, Option.bind_some]
    exact ⟨d1, rfl, a2, a3⟩
/-- the next token, once one is there -/
theorem T_s (B : Nat → Nat) (n i : Nat) : T B n (i + 1) = tok B n (T B n i).2.2.1 := rfl
theorem X_cutAll {t r n : Nat} {B : Nat → Nat} (hr : r ≠ t ∧ r ≠ t + 1 ∧ r ≠ t + 2) : ∀ f a c u fuel d, n - a = f → a ≤ n → c ≤ a → u ≤ a → T B n c = tok B n a → Txt r B n d → Tks t B n c d → f < fuel →
    ∃ d1 c1, mX8_cut_20 t r fuel (nI a) (nI u) d = some d1 ∧ Tks t B n c1 d1 ∧ TFm t d d1 ∧ (T B n c1).2.1 = 6 ∧ c1 ≤ n := by
  intro f
  induction f using Nat.strongRecOn with
  | ind f ih =>
    intro a c u fuel d hf ha hc hu ht hx hk hfu
    obtain ⟨g, rfl⟩ : ∃ e, fuel = e + 1 := ⟨fuel - 1, by omega⟩
    have hn := hx.2.1
    have tx : ∀ d1, TFm t d d1 → Txt r B n d1 := fun d1 f1 => ⟨hx.1, hn, fun j hj => by rw [f1.1 _ _ hr.1 hr.2.1 hr.2.2]; exact hx.2.2 j hj⟩
    by_cases e : n ≤ a
    · have he : (T B n c).2.1 = 6 := by rw [ht, tok_end e]
      refine ⟨d, c, ?_, hk, ⟨fun _ _ _ _ _ => rfl, fun _ _ _ => rfl⟩, he, by omega⟩
      rw [mX8_cut_20, hk.2.1, if_pos (show nI n ≤ nI a from nI_le e (by omega)), ite_self]
    · have han : a < n := by omega
      obtain ⟨b1, b2, b3, b4, b5⟩ := sx8_all (B a) (hx.1 a)
      rw [mX8_cut_20, hk.2.1, if_neg (show ¬ (1000 : Int32) ≤ nI u from nI_ge (show u < 1000 by omega) (by decide)), if_neg (nI_ge han (by omega)), if_pos (inB_nI (by omega) (by decide)), cl_nI (by omega), hx.2.2 a han, b1, b2, nI_1, nI_1]
      have b3 := decide_eq_decide.mp b3
      have b4 := decide_eq_decide.mp b4
      have b5 := decide_eq_decide.mp b5
      by_cases hsp : B a = 32
      · rw [if_pos (b3.mpr hsp)]
        exact ih (n - (a + 1)) (by omega) (a + 1) c (u + 1) g d rfl (by omega) (by omega) (by omega) (ht.trans (tok_sp han hsp)) hx hk (by omega)
      · rw [if_neg (fun z => hsp (b3.mp z))]
        cases hl : isL (B a) with
        | true =>
          obtain ⟨d1, a1, a2, a3⟩ := X_cutLetters hx hk han hc ht hl
          rw [if_pos rfl, a1, Option.bind_some]
          have te := tok_L han hl
          rw [← ht] at te
          obtain ⟨g1, g2, -, -⟩ := run_ge (P := isL) (B := B) (n := n) (n - a) a rfl
          have g2 := g2 (by omega)
          have ne : (T B n c).2.2.1 = run isL B n a := by rw [te]
          have ge1 : a + 1 ≤ run isL B n a := by
            rw [run_step han hl]
            exact (run_ge (P := isL) (B := B) (n := n) (n - (a + 1)) (a + 1) rfl).1
          obtain ⟨d2, c2, e1, e2, e3, e4, e5⟩ := ih (n - run isL B n a) (by omega) (run isL B n a) (c + 1) (u + 1) g d1 rfl g2 (by omega) (by omega) (by rw [T_s, ne]) (tx d1 a3) a2 (by omega)
          rw [ne]
          exact ⟨d2, c2, e1, e2, TFm_tr a3 e3, e4, e5⟩
        | false =>
          rw [if_neg (by decide)]
          cases hd : isD (B a) with
          | true =>
            obtain ⟨d1, a1, a2, a3⟩ := X_cutDigits hx hk han hc ht hl hd
            rw [if_pos rfl, a1, Option.bind_some]
            have te := tok_D han hl hd
            rw [← ht] at te
            obtain ⟨g1, g2, -, -⟩ := run_ge (P := isD) (B := B) (n := n) (n - a) a rfl
            have g2 := g2 (by omega)
            have ne : (T B n c).2.2.1 = run isD B n a := by rw [te]
            have ge1 : a + 1 ≤ run isD B n a := by
              rw [run_step han hd]
              exact (run_ge (P := isD) (B := B) (n := n) (n - (a + 1)) (a + 1) rfl).1
            obtain ⟨d2, c2, e1, e2, e3, e4, e5⟩ := ih (n - run isD B n a) (by omega) (run isD B n a) (c + 1) (u + 1) g d1 rfl g2 (by omega) (by omega) (by rw [T_s, ne]) (tx d1 a3) a2 (by omega)
            rw [ne]
            exact ⟨d2, c2, e1, e2, TFm_tr a3 e3, e4, e5⟩
          | false =>
            rw [if_neg (by decide)]
            have te := tok_O han hsp hl hd
            rw [← ht] at te
            have ne : (T B n c).2.2.1 = a + 1 := by rw [te]
            have pl : (T B n c).1 = a := by rw [te]
            have kd : (T B n c).2.1 = if B a = 44 then 4 else if B a = 59 then 5 else 0 := by rw [te]
            have go : ∀ kk, (T B n c).2.1 = kk → kk ≠ 6 → ¬ (kk = 1 ∨ kk = 2 ∨ kk = 3) → ∃ d1 c1, ((mX8_add t (nI kk) (nI a) 0 d).bind fun y => mX8_cut_20 t r g (nI (a + 1)) (nI (u + 1)) y) = some d1 ∧ Tks t B n c1 d1 ∧ TFm t d d1 ∧ (T B n c1).2.1 = 6 ∧ c1 ≤ n := by
              intro kk k1 k2 k3
              obtain ⟨d1, a1, a2, a3⟩ := X_tadd (v := 0) hk (by omega) k1 pl (fun z => absurd z k3) k2
              rw [a1, Option.bind_some]
              obtain ⟨d2, c2, e1, e2, e3, e4, e5⟩ := ih (n - (a + 1)) (by omega) (a + 1) (c + 1) (u + 1) g d1 rfl (by omega) (by omega) (by omega) (by rw [T_s, ne]) (tx d1 a3) a2 (by omega)
              exact ⟨d2, c2, e1, e2, TFm_tr a3 e3, e4, e5⟩
            by_cases h4 : B a = 44
            · rw [if_pos (b4.mpr h4)]
              exact go 4 (by rw [kd, if_pos h4]) (by omega) (by omega)
            · rw [if_neg (fun z => h4 (b4.mp z))]
              by_cases h5 : B a = 59
              · rw [if_pos (b5.mpr h5)]
                exact go 5 (by rw [kd, if_neg h4, if_pos h5]) (by omega) (by omega)
              · rw [if_neg (fun z => h5 (b5.mp z))]
                exact go 0 (by rw [kd, if_neg h4, if_neg h5]) (by omega) (by omega)
theorem X_cut {t r n : Nat} {B : Nat → Nat} {d : Dt} (hr : r ≠ t ∧ r ≠ t + 1 ∧ r ≠ t + 2) (hx : Txt r B n d) : ∃ d1 c1, mX8_cut t r (nI n) d = some d1 ∧ Tks t B n c1 d1 ∧ TFm t d d1 ∧ (T B n c1).2.1 = 6 ∧ c1 ≤ n := by
  have hn := hx.2.1
  have em : mnI (nI n) 1000 = nI n := by
    rw [show (1000 : Int32) = nI 1000 from rfl, mnI_nI (by omega) (by omega), Nat.min_eq_left hn]
  have fr : TFm t d (uI (uI d t 0 0) t 1 (nI n)) := ⟨fun o k a _ _ => by rw [dI_ne (Or.inl a), dI_ne (Or.inl a)], fun _ _ _ => rfl⟩
  obtain ⟨d1, c1, a1, a2, a3, a4, a5⟩ := X_cutAll (t := t) (r := r) (n := n) (B := B) hr n 0 0 0 FUEL (uI (uI d t 0 0) t 1 (nI n)) (Nat.sub_zero n) (Nat.zero_le _) (Nat.le_refl _) (Nat.le_refl _) rfl ⟨hx.1, hn, fun j hj => by rw [fr.1 _ _ hr.1 hr.2.1 hr.2.2]; exact hx.2.2 j hj⟩
    ⟨by rw [dI_ne (by omega), dI_at]; rfl, by rw [dI_at], fun i hi => absurd hi (Nat.not_lt_zero _)⟩ (Nat.lt_of_le_of_lt hn (by decide))
  refine ⟨d1, c1, ?_, a2, TFm_tr fr a3, a4, a5⟩
  unfold mX8_cut
  rw [em]; exact a1
