/-! the reference's next token -/
def KM (m : Nat) (d d1 : Dt) : Prop := (∀ o k, ¬ (o = m ∧ 16 ≤ k ∧ k ≤ 19) → d1.1 o k = d.1 o k) ∧ d1.2 = d.2
theorem KM_tr {m : Nat} {a b c : Dt} (h1 : KM m a b) (h2 : KM m b c) : KM m a c := ⟨fun o k z => (h2.1 o k z).trans (h1.1 o k z), h2.2.trans h1.2⟩
theorem KM_u {m : Nat} (d : Dt) {k : Nat} (h : 16 ≤ k ∧ k ≤ 19) (v : Int32) : KM m d (uI d m k v) := ⟨fun o j z => dI_ne (by omega), rfl⟩
def mkd (k : Nat) : Int32 := if k = 6 then 0 else if k = 1 ∨ k = 2 then 2 else if k = 3 then 3 else if k = 4 then 44 else if k = 5 then 59 else 1
def MT (m : Nat) (tk : Tk) (d : Dt) : Prop := d.1 m 16 = nI tk.1 ∧ d.1 m 17 = nI tk.2.2.1 ∧ d.1 m 18 = mkd tk.2.1 ∧ (tk.2.1 = 3 → d.1 m 19 = nI tk.2.2.2)
def MTx (m n : Nat) (B : Nat → Nat) (d : Dt) : Prop := (∀ j, B j < 256) ∧ n ≤ 1000 ∧ d.1 m 15 = nI n ∧ ∀ j, j < n → d.1 (m + 1) j = nI (B j)
theorem MTx_K {m n : Nat} {B : Nat → Nat} {d d1 : Dt} (h : MTx m n B d) (k : KM m d d1) : MTx m n B d1 := ⟨h.1, h.2.1, by rw [k.1 _ _ (by omega)]; exact h.2.2.1, fun j hj => by rw [k.1 _ _ (by omega)]; exact h.2.2.2 j hj⟩
theorem M_see {m n k : Nat} {B : Nat → Nat} {d : Dt} (h : MTx m n B d) (hk : k ≤ n) : mX12_see m (nI k) d = some (if k < n then nI (B k) else -1) := by
  obtain ⟨hB, hn, h15, hT⟩ := h
  unfold mX12_see
  rw [h15]
  by_cases e : k < n
  · rw [if_neg (nI_ge e (by omega)), if_pos (inB_nI (by omega) (by decide)), cl_nI (by omega), hT k e, if_pos e]
  · rw [if_pos (nI_le (by omega) (by omega)), if_neg e]
theorem M_go65 {m n s : Nat} {B : Nat → Nat} : ∀ f k fuel d, n - k = f → k ≤ n → s ≤ k → MTx m n B d → d.1 m 17 = nI k → d.1 m 16 = nI s → f < fuel →
    ∃ d1, mX12_goesOn_65 m fuel d = some d1 ∧ d1.1 m 16 = nI s ∧ d1.1 m 17 = nI (run isL B n k) ∧ d1.1 m 18 = (if run isL B n k - s ≤ 7 then 2 else 1) ∧ KM m d d1 := by
  intro f
  induction f with
  | zero =>
    intro k fuel d hf hk hs hx h17 h16 hfu
    have hn := hx.2.1
    obtain ⟨g, rfl⟩ : ∃ e, fuel = e + 1 := ⟨fuel - 1, by omega⟩
    obtain rfl : k = n := by omega
    rw [run_stop (Nat.le_refl _), mX12_goesOn_65, h17, M_see hx (Nat.le_refl _), Option.bind_some, if_neg (Nat.lt_irrefl _), if_neg (by decide), h16, nI_sub hs]
    by_cases e : k - s ≤ 7
    · rw [if_pos (show nI (k - s) ≤ 7 from nI_le (b := 7) e (by omega)), if_pos e]
      exact ⟨_, rfl, by rw [dI_ne (by omega)]; exact h16, by rw [dI_ne (by omega)]; exact h17, dI_at _ _ _ _, KM_u _ (by omega) _⟩
    · rw [if_neg (show ¬ nI (k - s) ≤ 7 from nI_ge (a := 7) (by omega) (by omega)), if_neg e]
      exact ⟨_, rfl, by rw [dI_ne (by omega)]; exact h16, by rw [dI_ne (by omega)]; exact h17, dI_at _ _ _ _, KM_u _ (by omega) _⟩
  | succ f ih =>
    intro k fuel d hf hk hs hx h17 h16 hfu
    have hn := hx.2.1
    obtain ⟨g, rfl⟩ : ∃ e, fuel = e + 1 := ⟨fuel - 1, by omega⟩
    have hkn : k < n := by omega
    obtain ⟨b1, -⟩ := M_all (B k) (hx.1 k)
    rw [mX12_goesOn_65, h17, M_see hx hk, Option.bind_some, if_pos hkn, b1]
    cases hp : isL (B k) with
    | false =>
      rw [if_neg (by decide), run_no hkn hp, h16, nI_sub hs]
      by_cases e : k - s ≤ 7
      · rw [if_pos (show nI (k - s) ≤ 7 from nI_le (b := 7) e (by omega)), if_pos e]
        exact ⟨_, rfl, by rw [dI_ne (by omega)]; exact h16, by rw [dI_ne (by omega)]; exact h17, dI_at _ _ _ _, KM_u _ (by omega) _⟩
      · rw [if_neg (show ¬ nI (k - s) ≤ 7 from nI_ge (a := 7) (by omega) (by omega)), if_neg e]
        exact ⟨_, rfl, by rw [dI_ne (by omega)]; exact h16, by rw [dI_ne (by omega)]; exact h17, dI_at _ _ _ _, KM_u _ (by omega) _⟩
    | true =>
      rw [if_pos rfl, run_step hkn hp, nI_1]
      have kk := KM_u (m := m) d (k := 17) (by omega) (nI (k + 1))
      obtain ⟨d1, a1, a2, a3, a4, a5⟩ := ih (k + 1) g (uI d m 17 (nI (k + 1))) (by omega) (by omega) (by omega) (MTx_K hx kk) (dI_at _ _ _ _) (by rw [dI_ne (by omega)]; exact h16) (by omega)
      exact ⟨d1, a1, a2, a3, a4, KM_tr kk a5⟩
theorem M_go136 {m n s : Nat} {B : Nat → Nat} : ∀ f k fuel d, n - k = f → k ≤ n → s ≤ k → MTx m n B d → d.1 m 17 = nI k → d.1 m 16 = nI s → (k - s ≤ 3 → d.1 m 19 = nI (dv B s k)) → f < fuel →
    ∃ d1, mX12_goesOn_136 m fuel d = some d1 ∧ d1.1 m 16 = nI s ∧ d1.1 m 17 = nI (run isD B n k) ∧ d1.1 m 18 = (if run isD B n k - s ≤ 3 then 3 else 1) ∧ (run isD B n k - s ≤ 3 → d1.1 m 19 = nI (dv B s (run isD B n k))) ∧ KM m d d1 := by
  have fin : ∀ k d, k ≤ n → n ≤ 1000 → s ≤ k → d.1 m 17 = nI k → d.1 m 16 = nI s → (k - s ≤ 3 → d.1 m 19 = nI (dv B s k)) → ∃ d1, (if ((d.1 m 17) - (d.1 m 16)) ≤ (3 : Int32) then some (uI d m 18 (3 : Int32)) else some (uI d m 18 (1 : Int32))) = some d1 ∧ d1.1 m 16 = nI s ∧ d1.1 m 17 = nI k ∧ d1.1 m 18 = (if k - s ≤ 3 then 3 else 1) ∧ (k - s ≤ 3 → d1.1 m 19 = nI (dv B s k)) ∧ KM m d d1 := by
    intro k d hk hn hs h17 h16 h19
    rw [h17, h16, nI_sub hs]
    by_cases e : k - s ≤ 3
    · rw [if_pos (show nI (k - s) ≤ 3 from nI_le (b := 3) e (by omega)), if_pos e]
      exact ⟨_, rfl, by rw [dI_ne (by omega)]; exact h16, by rw [dI_ne (by omega)]; exact h17, dI_at _ _ _ _, fun z => by rw [dI_ne (by omega)]; exact h19 z, KM_u _ (by omega) _⟩
    · rw [if_neg (show ¬ nI (k - s) ≤ 3 from nI_ge (a := 3) (by omega) (by omega)), if_neg e]
      exact ⟨_, rfl, by rw [dI_ne (by omega)]; exact h16, by rw [dI_ne (by omega)]; exact h17, dI_at _ _ _ _, fun z => absurd z e, KM_u _ (by omega) _⟩
  intro f
  induction f with
  | zero =>
    intro k fuel d hf hk hs hx h17 h16 h19 hfu
    have hn := hx.2.1
    obtain ⟨g, rfl⟩ : ∃ e, fuel = e + 1 := ⟨fuel - 1, by omega⟩
    obtain rfl : k = n := by omega
    rw [run_stop (Nat.le_refl _), mX12_goesOn_136]
    rw [show mX12_see m (d.1 m 17) d = some (-1) by rw [h17, M_see hx (Nat.le_refl _), if_neg (Nat.lt_irrefl _)], Option.bind_some, if_neg (by decide)]
    exact fin k d hk hn hs h17 h16 h19
  | succ f ih =>
    intro k fuel d hf hk hs hx h17 h16 h19 hfu
    have hn := hx.2.1
    obtain ⟨g, rfl⟩ : ∃ e, fuel = e + 1 := ⟨fuel - 1, by omega⟩
    have hkn : k < n := by omega
    obtain ⟨-, b1, -⟩ := M_all (B k) (hx.1 k)
    rw [mX12_goesOn_136, show mX12_see m (d.1 m 17) d = some (nI (B k)) by rw [h17, M_see hx hk, if_pos hkn], Option.bind_some, b1]
    cases hp : isD (B k) with
    | false =>
      rw [if_neg (by decide), run_no hkn hp]
      exact fin k d hk hn hs h17 h16 h19
    | true =>
      have hb := isD_lt hp
      rw [if_pos rfl, run_step hkn hp]
      by_cases e : 3 ≤ k - s
      · rw [if_pos (show (3 : Int32) ≤ d.1 m 17 - d.1 m 16 by rw [h17, h16, nI_sub hs]; exact nI_le (a := 3) e (by omega)), show (uI d m 19 (d.1 m 19)).1 m 17 = nI k by rw [dI_ne (by omega)]; exact h17, nI_1]
        have kk := KM_tr (KM_u (m := m) d (k := 19) (by omega) (d.1 m 19)) (KM_u (m := m) (uI d m 19 (d.1 m 19)) (k := 17) (by omega) (nI (k + 1)))
        obtain ⟨d1, a1, a2, a3, a4, a5, a6⟩ := ih (k + 1) g (uI (uI d m 19 (d.1 m 19)) m 17 (nI (k + 1))) (by omega) (by omega) (by omega) (MTx_K hx kk) (dI_at _ _ _ _) (by rw [dI_ne (by omega), dI_ne (by omega)]; exact h16) (fun z => by omega) (by omega)
        exact ⟨d1, a1, a2, a3, a4, a5, KM_tr kk a6⟩
      · have ev : (10 : Int32) * d.1 m 19 + nI (B k) - 48 = nI (dv B s (k + 1)) := by
          rw [h19 (by omega), show (10 : Int32) = nI 10 from rfl, pk_mul, nI_add, show (48 : Int32) = nI 48 from rfl, nI_sub (by omega), dv_s hs]
          congr 1; omega
        rw [if_neg (show ¬ (3 : Int32) ≤ d.1 m 17 - d.1 m 16 by rw [h17, h16, nI_sub hs]; exact nI_ge (b := 3) (by omega) (by decide)), Option.bind_some, ev, show (uI d m 19 (nI (dv B s (k + 1)))).1 m 17 = nI k by rw [dI_ne (by omega)]; exact h17, nI_1]
        have kk := KM_tr (KM_u (m := m) d (k := 19) (by omega) (nI (dv B s (k + 1)))) (KM_u (m := m) (uI d m 19 (nI (dv B s (k + 1)))) (k := 17) (by omega) (nI (k + 1)))
        obtain ⟨d1, a1, a2, a3, a4, a5, a6⟩ := ih (k + 1) g (uI (uI d m 19 (nI (dv B s (k + 1)))) m 17 (nI (k + 1))) (by omega) (by omega) (by omega) (MTx_K hx kk) (dI_at _ _ _ _) (by rw [dI_ne (by omega), dI_ne (by omega)]; exact h16) (fun _ => by rw [dI_ne (by omega), dI_at]) (by omega)
        exact ⟨d1, a1, a2, a3, a4, a5, KM_tr kk a6⟩
theorem M_go0 {m n : Nat} {B : Nat → Nat} : ∀ f s fuel d, n - s = f → s ≤ n → MTx m n B d → d.1 m 17 = nI s → f < fuel →
    ∃ d1, mX12_goesOn_0 m fuel d = some d1 ∧ MT m (tok B n s) d1 ∧ KM m d d1 := by
  intro f
  induction f with
  | zero =>
    intro s fuel d hf hs hx h17 hfu
    obtain ⟨g, rfl⟩ : ∃ e, fuel = e + 1 := ⟨fuel - 1, by omega⟩
    obtain rfl : s = n := by omega
    have hx2 := MTx_K hx (KM_u (m := m) d (k := 16) (by omega) (nI s))
    rw [mX12_goesOn_0, h17, M_see hx (Nat.le_refl _), Option.bind_some, if_neg (Nat.lt_irrefl _), if_neg (by decide), show (uI d m 16 (nI s)).1 m 17 = nI s by rw [dI_ne (by omega)]; exact h17, M_see hx2 (Nat.le_refl _), Option.bind_some, if_neg (Nat.lt_irrefl _), if_pos rfl, tok_end (Nat.le_refl _)]
    refine ⟨_, rfl, ⟨?_, ?_, ?_, fun z => absurd (show (6 : Nat) = 3 from z) (by decide)⟩, KM_tr (KM_u _ (by omega) _) (KM_u _ (by omega) _)⟩
    · rw [dI_ne (by omega), dI_at]
    · rw [dI_ne (by omega), dI_ne (by omega)]; exact h17
    · rw [dI_at]; rfl
  | succ f ih =>
    intro s fuel d hf hs hx h17 hfu
    have hn := hx.2.1
    obtain ⟨g, rfl⟩ : ∃ e, fuel = e + 1 := ⟨fuel - 1, by omega⟩
    have hsn : s < n := by omega
    obtain ⟨b1, b2, b3, b4, b5, b6⟩ := M_all (B s) (hx.1 s)
    have b3 := decide_eq_decide.mp b3
    have b4 := decide_eq_decide.mp b4
    have b5 := decide_eq_decide.mp b5
    rw [mX12_goesOn_0, h17, M_see hx hs, Option.bind_some, if_pos hsn]
    by_cases e : B s = 32
    · rw [if_pos (b3.mpr e), nI_1, tok_sp hsn e]
      have kk := KM_u (m := m) d (k := 17) (by omega) (nI (s + 1))
      obtain ⟨d1, a1, a2, a3⟩ := ih (s + 1) g (uI d m 17 (nI (s + 1))) (by omega) (by omega) (MTx_K hx kk) (dI_at _ _ _ _) (by omega)
      exact ⟨d1, a1, a2, KM_tr kk a3⟩
    · have k16 := KM_u (m := m) d (k := 16) (by omega) (nI s)
      have hx2 := MTx_K hx k16
      have e17 : (uI d m 16 (nI s)).1 m 17 = nI s := by rw [dI_ne (by omega)]; exact h17
      have e16 : (uI d m 16 (nI s)).1 m 16 = nI s := dI_at _ _ _ _
      rw [if_neg (fun z => e (b3.mp z)), e17, M_see hx2 hs, Option.bind_some, if_pos hsn, if_neg b6, b1, b2]
      cases hl : isL (B s) with
      | true =>
        rw [if_pos rfl, tok_L hsn hl]
        obtain ⟨d1, a1, a2, a3, a4, a5⟩ := M_go65 (s := s) (n - s) s FUEL (uI d m 16 (nI s)) rfl hs (Nat.le_refl _) hx2 e17 e16 (Nat.lt_of_le_of_lt (show n - s ≤ 1000 by omega) (by decide))
        refine ⟨d1, a1, ⟨a2, a3, ?_, fun z => ?_⟩, KM_tr k16 a5⟩
        · rw [a4]
          show _ = mkd (if 7 < run isL B n s - s then 0 else if isRes (wv B s (run isL B n s)) = true then 2 else 1)
          by_cases h7 : run isL B n s - s ≤ 7
          · rw [if_pos h7, if_neg (show ¬ 7 < run isL B n s - s by omega)]
            cases isRes (wv B s (run isL B n s)) <;> rfl
          · rw [if_neg h7, if_pos (show 7 < run isL B n s - s by omega)]; rfl
        · have z : (if 7 < run isL B n s - s then 0 else if isRes (wv B s (run isL B n s)) = true then 2 else 1) = 3 := z
          split at z
          · omega
          · split at z <;> omega
      | false =>
        rw [if_neg (by decide)]
        cases hd : isD (B s) with
        | true =>
          rw [if_pos rfl, tok_D hsn hl hd]
          have k19 := KM_u (m := m) (uI d m 16 (nI s)) (k := 19) (by omega) 0
          obtain ⟨d1, a1, a2, a3, a4, a5, a6⟩ := M_go136 (s := s) (n - s) s FUEL (uI (uI d m 16 (nI s)) m 19 0) rfl hs (Nat.le_refl _) (MTx_K hx2 k19) (by rw [dI_ne (by omega)]; exact e17) (by rw [dI_ne (by omega)]; exact e16) (fun _ => by rw [dI_at, dv_0]; rfl) (Nat.lt_of_le_of_lt (show n - s ≤ 1000 by omega) (by decide))
          refine ⟨d1, a1, ⟨a2, a3, ?_, fun z => ?_⟩, KM_tr (KM_tr k16 k19) a6⟩
          · rw [a4]
            show _ = mkd (if 3 < run isD B n s - s then 0 else 3)
            by_cases h3 : run isD B n s - s ≤ 3
            · rw [if_pos h3, if_neg (show ¬ 3 < run isD B n s - s by omega)]; rfl
            · rw [if_neg h3, if_pos (show 3 < run isD B n s - s by omega)]; rfl
          · have z : (if 3 < run isD B n s - s then 0 else 3) = 3 := z
            by_cases h3 : run isD B n s - s ≤ 3
            · exact a5 h3
            · rw [if_pos (show 3 < run isD B n s - s by omega)] at z; omega
        | false =>
          rw [if_neg (by decide), nI_1, tok_O hsn e hl hd]
          have go : ∀ (v : Int32) (c : Nat), (if B s = 44 then 4 else if B s = 59 then 5 else 0) = c → c ≠ 3 → v = mkd c → ∃ d1, some (uI (uI (uI d m 16 (nI s)) m 17 (nI (s + 1))) m 18 v) = some d1 ∧ MT m (s, (if B s = 44 then 4 else if B s = 59 then 5 else 0), s + 1, 0) d1 ∧ KM m d d1 := fun v c hc h3 hv => by
            refine ⟨_, rfl, ⟨?_, ?_, ?_, fun z => absurd ((show (if B s = 44 then 4 else if B s = 59 then 5 else 0) = 3 from z)) (by rw [hc]; exact h3)⟩, KM_tr (KM_tr k16 (KM_u _ (by omega) _)) (KM_u _ (by omega) _)⟩
            · rw [dI_ne (by omega), dI_ne (by omega)]; exact e16
            · rw [dI_ne (by omega), dI_at]
            · rw [dI_at, hv, ← hc]
          by_cases h5 : B s = 59
          · rw [if_pos (b5.mpr h5)]
            refine go _ 5 (by rw [if_neg (by omega), if_pos h5]) (by decide) ?_
            rw [h5]; rfl
          · rw [if_neg (fun z => h5 (b5.mp z))]
            by_cases h4 : B s = 44
            · rw [if_pos (b4.mpr h4)]
              refine go _ 4 (if_pos h4) (by decide) ?_
              rw [h4]; rfl
            · rw [if_neg (fun z => h4 (b4.mp z))]
              exact go _ 0 (by rw [if_neg h4, if_neg h5]) (by decide) rfl
theorem M_goesOn {m n s : Nat} {B : Nat → Nat} {d : Dt} (hs : s ≤ n) (hx : MTx m n B d) (h17 : d.1 m 17 = nI s) : ∃ d1, mX12_goesOn m d = some d1 ∧ MT m (tok B n s) d1 ∧ KM m d d1 :=
  M_go0 (n - s) s FUEL d rfl hs hx h17 (Nat.lt_of_le_of_lt (show n - s ≤ 1000 from Nat.le_trans (Nat.sub_le _ _) hx.2.1) (by decide))
