/-! the class's cut -/
def Txt (r : Nat) (B : Nat → Nat) (n : Nat) (d : Dt) : Prop := (∀ j, B j < 256) ∧ n ≤ 1000 ∧ ∀ j, j < n → d.1 r j = sx8 (B j)
theorem X_lets {t r s n : Nat} {B : Nat → Nat} {d : Dt} (h : Txt r B n d) (h1 : d.1 t 1 = nI n) : ∀ f k v fuel, n - k = f → s ≤ k → k ≤ n → (∀ j, s ≤ j → j < k → isL (B j) = true) → (k - s ≤ 7 → v = L64 (wv B s k)) → f < fuel →
    ∃ v', mX8_cutLetters_5 t r (nI s) fuel v (nI k) d = mX8_cutLetters_41 t (nI s) v' (nI (run isL B n k)) d ∧ (run isL B n k - s ≤ 7 → v' = L64 (wv B s (run isL B n k))) := by
  obtain ⟨hB, hn, hT⟩ := h
  intro f
  induction f with
  | zero =>
    intro k v fuel hf hs hk hl hv hfu
    obtain ⟨g, rfl⟩ : ∃ e, fuel = e + 1 := ⟨fuel - 1, by omega⟩
    obtain rfl : k = n := by omega
    rw [run_stop (Nat.le_refl _), mX8_cutLetters_5, h1, if_pos (Int32.le_refl _)]
    exact ⟨v, rfl, hv⟩
  | succ f ih =>
    intro k v fuel hf hs hk hl hv hfu
    obtain ⟨g, rfl⟩ : ∃ e, fuel = e + 1 := ⟨fuel - 1, by omega⟩
    have hkn : k < n := by omega
    obtain ⟨b1, -⟩ := sx8_all (B k) (hB k)
    rw [mX8_cutLetters_5, h1, if_neg (nI_ge hkn (by omega)), if_pos (inB_nI (by omega) (by decide)), if_pos (inB_nI (by omega) (by decide)), cl_nI (by omega), hT k hkn, b1, nI_1]
    cases hp : isL (B k) with
    | false =>
      rw [if_neg (by decide), run_no hkn hp]
      exact ⟨v, rfl, hv⟩
    | true =>
      have hb := isL_lt hp
      rw [if_pos rfl, run_step hkn hp, sx8_lo (B k) (by omega), L64_i32 (B k) (hB k)]
      refine ih (k + 1) _ g (by omega) (by omega) (by omega) (fun j j1 j2 => ?_) (fun h7 => ?_) (by omega)
      · by_cases e : j = k
        · subst e; exact hp
        · exact hl j j1 (by omega)
      · have hv := hv (by omega)
        have hw := wv_lt hB (k - s) s
        rw [show s + (k - s) = k by omega] at hw
        have h48 : 256 ^ (k - s) ≤ 256 ^ 6 := Nat.pow_le_pow_right (by omega) (by omega)
        rw [hv, L64_shl (by omega) (hB k), wv_s hs]
theorem wv_56 {B : Nat → Nat} (hB : ∀ j, B j < 256) {s e : Nat} (h : s ≤ e) (h7 : e - s ≤ 7) : wv B s e < 2 ^ 56 := by
  have hw := wv_lt hB (e - s) s
  rw [show s + (e - s) = e by omega] at hw
  have : 256 ^ (e - s) ≤ 256 ^ 7 := Nat.pow_le_pow_right (by omega) h7
  omega
theorem X_cutLetters {t r s n c : Nat} {B : Nat → Nat} {d : Dt} (h : Txt r B n d) (hk : Tks t B n c d) (hs : s < n) (hc : c ≤ s) (ht : T B n c = tok B n s) (hl : isL (B s) = true) :
    ∃ d1, mX8_cutLetters t r (nI s) d = some (nI (T B n c).2.2.1, d1) ∧ Tks t B n (c + 1) d1 ∧ TFm t d d1 := by
  have hn := h.2.1
  have hB := h.1
  obtain ⟨v', e1, e2⟩ := X_lets (s := s) h hk.2.1 (n - s) s 0 FUEL rfl (Nat.le_refl _) (by omega) (fun j h1 h2 => by omega) (fun _ => by rw [wv_0]; rfl) (Nat.lt_of_lt_of_le (show n - s < 1000000 by omega) (Nat.le_refl _))
  obtain ⟨g1, g2, -, -⟩ := run_ge (P := isL) (B := B) (n := n) (n - s) s rfl
  have g2 := g2 (by omega)
  have te := tok_L hs hl
  rw [← ht] at te
  unfold mX8_cutLetters
  rw [e1]
  unfold mX8_cutLetters_41
  rw [nI_sub g1, show (T B n c).2.2.1 = run isL B n s by rw [te]]
  have pl : (T B n c).1 = s := by rw [te]
  by_cases h7 : run isL B n s - s ≤ 7
  · have hv := e2 h7
    have h56 := wv_56 hB g1 h7
    rw [if_pos (show nI (run isL B n s - s) ≤ 7 from nI_le (b := 7) h7 (by omega)), hv, X_isReserved (by omega), Option.bind_some]
    by_cases hr : isRes (wv B s (run isL B n s)) = true
    · have kd : (T B n c).2.1 = 2 := by rw [te]; show (if 7 < run isL B n s - s then 0 else if _ then 2 else 1) = 2; rw [if_neg (by omega), if_pos hr]
      obtain ⟨d1, a1, a2, a3⟩ := X_tadd (v := L64 (wv B s (run isL B n s))) hk (by omega) kd pl (fun _ => by rw [te]) (by omega)
      rw [if_pos hr, show (2 : Int32) = nI 2 from rfl, a1, Option.bind_some]
      exact ⟨d1, rfl, a2, a3⟩
    · have kd : (T B n c).2.1 = 1 := by rw [te]; show (if 7 < run isL B n s - s then 0 else if _ then 2 else 1) = 1; rw [if_neg (by omega), if_neg hr]
      obtain ⟨d1, a1, a2, a3⟩ := X_tadd (v := L64 (wv B s (run isL B n s))) hk (by omega) kd pl (fun _ => by rw [te]) (by omega)
      rw [if_neg hr, show (1 : Int32) = nI 1 from rfl, a1, Option.bind_some]
      exact ⟨d1, rfl, a2, a3⟩
  · have kd : (T B n c).2.1 = 0 := by rw [te]; show (if 7 < run isL B n s - s then 0 else _) = 0; rw [if_pos (by omega)]
    obtain ⟨d1, a1, a2, a3⟩ := X_tadd (v := v') hk (by omega) kd pl (fun z => by omega) (by omega)
    rw [if_neg (show ¬ nI (run isL B n s - s) ≤ 7 from nI_ge (show 7 < run isL B n s - s by omega) (by omega)), show (0 : Int32) = nI 0 from rfl, a1, Option.bind_some]
    exact ⟨d1, rfl, a2, a3⟩
