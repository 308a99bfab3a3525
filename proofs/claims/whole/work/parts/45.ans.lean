/-! calls: what both hold, what a call may change, answers and refusals -/
def Ids (x h p m : Nat) : Prop := x = 0 ∧ m = 167 ∧ ((h = 2 ∧ p = 77) ∨ (h = 77 ∧ p = 2))
def Ch (x m : Nat) (d d1 : Dt) : Prop := d1.2 = d.2 ∧ ∀ o k, ¬ (o = x ∧ k = 9) → ¬ (x + 160 ≤ o ∧ o ≤ x + 166) → ¬ (o = m ∧ (k = 0 ∨ k = 1 ∨ k = 3 ∨ k = 27 ∨ k = 30 ∨ k = 31)) → ¬ (m + 8 ≤ o ∧ o ≤ m + 12) → d1.1 o k = d.1 o k
theorem Ch_rf (x m : Nat) (d : Dt) : Ch x m d d := ⟨rfl, fun _ _ _ _ _ _ => rfl⟩
theorem Ch_tr {x m : Nat} {a b c : Dt} (h1 : Ch x m a b) (h2 : Ch x m b c) : Ch x m a c := ⟨h2.1.trans h1.1, fun o k a b c d => (h2.2 o k a b c d).trans (h1.2 o k a b c d)⟩
theorem Ch_x9 (x m : Nat) (d : Dt) (t : Int32) : Ch x m d (uI d x 9 t) := ⟨rfl, fun o k h _ _ _ => dI_ne (by omega)⟩
def rf (m : Nat) (t : Int32) (d : Dt) : Dt := uI (uI (uI d m 0 0) m 3 (-1)) m 1 t
theorem Ch_rf2 (x m : Nat) (d : Dt) (t : Int32) : Ch x m d (rf m t d) := ⟨rfl, fun o k _ _ h _ => by unfold rf; rw [dI_ne (by omega), dI_ne (by omega), dI_ne (by omega)]⟩
theorem iR0 (m : Nat) (d : Dt) : mX12_isRefused m 0 d = (false, rf m 0 d) := if_pos rfl
theorem iR {m : Nat} {t : Int32} (d : Dt) (h : t ≠ 0) : mX12_isRefused m t d = (true, rf m t d) := if_neg h
theorem rf_m1 (m : Nat) (t : Int32) (d : Dt) : (rf m t d).1 m 1 = t := dI_at _ _ _ _
theorem rf_o {m o k : Nat} {t : Int32} {d : Dt} (h : o ≠ m) : (rf m t d).1 o k = d.1 o k := by unfold rf; rw [dI_ne (Or.inl h), dI_ne (Or.inl h), dI_ne (Or.inl h)]
theorem rf_k {m k : Nat} {t : Int32} {d : Dt} (h : k ≠ 0 ∧ k ≠ 1 ∧ k ≠ 3) : (rf m t d).1 m k = d.1 m k := by unfold rf; rw [dI_ne (by omega), dI_ne (by omega), dI_ne (by omega)]
def Dn (x m : Nat) (d d2 : Dt) : Prop := Ch x m d d2 ∧ d2.1 x 9 = d2.1 m 1 ∧ d2.1 x 9 ≠ 4
def Ans (x m : Nat) (d : Dt) (fx fm : Dt → Option (Int32 × Dt)) : Prop := ∃ r d1 d2, fx d = some (r, d1) ∧ Ch x m d d1 ∧ fm d1 = some (r, d2) ∧ Dn x m d d2
theorem Ans_ref {x h p m : Nat} {d : Dt} {fx fm : Dt → Option (Int32 × Dt)} (id : Ids x h p m) (r t : Int32) (ht : t ≠ 4) (h1 : fx d = some (r, uI d x 9 t)) (h2 : fm (uI d x 9 t) = some (r, rf m t (uI d x 9 t))) : Ans x m d fx fm := by
  obtain ⟨i1, i2, -⟩ := id
  refine ⟨r, _, _, h1, Ch_x9 x m d t, h2, Ch_tr (Ch_x9 x m d t) (Ch_rf2 x m _ t), ?_, ?_⟩
  · rw [rf_m1, rf_o (by omega), dI_at]
  · rw [rf_o (by omega), dI_at]; exact ht
theorem Ans_ok {x h p m : Nat} {d d0 d2 : Dt} {fx fm : Dt → Option (Int32 × Dt)} (id : Ids x h p m) (r : Int32) (h0 : Ch x m d d0) (h1 : fx d = some (r, uI d0 x 9 0)) (h2 : fm (uI d0 x 9 0) = some (r, d2)) (h3 : Ch x m (rf m 0 (uI d0 x 9 0)) d2) (h4 : d2.1 x 9 = 0) (h5 : d2.1 m 1 = 0) : Ans x m d fx fm :=
  ⟨r, _, _, h1, Ch_tr h0 (Ch_x9 x m d0 0), h2, Ch_tr h0 (Ch_tr (Ch_x9 x m d0 0) (Ch_tr (Ch_rf2 x m _ 0) h3)), h4.trans h5.symm, by rw [h4]; decide⟩
/-- an answer that changes nothing but trouble -/
theorem Ans_val {x h p m : Nat} {d : Dt} {fx fm : Dt → Option (Int32 × Dt)} (id : Ids x h p m) (r : Int32) (h1 : fx d = some (r, uI d x 9 0)) (h2 : fm (uI d x 9 0) = some (r, rf m 0 (uI d x 9 0))) : Ans x m d fx fm := Ans_ref id r 0 (by decide) h1 h2
def Cnt0 (x h : Nat) (d : Dt) : Prop := d.1 h 2 = 0 ∧ d.1 h 3 = 0 ∧ d.1 (h + 3) 0 = 0 ∧ d.1 (h + 25) 0 = 0 ∧ d.1 (h + 32) 0 = 0 ∧ d.1 (h + 72) 0 = 0
def St (x h m : Nat) (d : Dt) (q : Nat → Int32) (b : Bool) : Prop := d.1 x 4 = b2i b ∧ d.1 m 14 = b2i b ∧ (b = false → Cnt0 x h d) ∧ (b = true → WF q ∧ XR h d q ∧ MR m d q)
theorem Ch_MR {x h p m : Nat} {d d1 : Dt} {q : Nat → Int32} (id : Ids x h p m) (c : Ch x m d d1) (hM : MR m d q) : MR m d1 q := fun k hk => by
  obtain ⟨i1, i2, -⟩ := id
  rw [c.2 _ _ (by omega) (by omega) (by omega) (by omega)]; exact hM k hk
theorem Ch_XR {x h p m : Nat} {d d1 : Dt} {q : Nat → Int32} (id : Ids x h p m) (c : Ch x m d d1) (hX : XR h d q) (w : WF q) : XR h d1 q := XR_congr hX (fun o k h1 h2 => by
  obtain ⟨i1, i2, i3⟩ := id
  exact c.2 _ _ (by omega) (by omega) (by omega) (by omega)) w
theorem Ch_St {x h p m : Nat} {d d1 : Dt} {q : Nat → Int32} {b : Bool} (id : Ids x h p m) (c : Ch x m d d1) (s : St x h m d q b) : St x h m d1 q b := by
  have id2 := id
  obtain ⟨i1, i2, i3⟩ := id
  obtain ⟨s1, s2, s3, s4⟩ := s
  refine ⟨by rw [c.2 _ _ (by omega) (by omega) (by omega) (by omega)]; exact s1, by rw [c.2 _ _ (by omega) (by omega) (by omega) (by omega)]; exact s2, fun hb => ?_, fun hb => ⟨(s4 hb).1, Ch_XR id2 c (s4 hb).2.1 (s4 hb).1, Ch_MR id2 c (s4 hb).2.2⟩⟩
  obtain ⟨a1, a2, a3, a4, a5, a6⟩ := s3 hb
  exact ⟨by rw [c.2 _ _ (by omega) (by omega) (by omega) (by omega)]; exact a1, by rw [c.2 _ _ (by omega) (by omega) (by omega) (by omega)]; exact a2, by rw [c.2 _ _ (by omega) (by omega) (by omega) (by omega)]; exact a3, by rw [c.2 _ _ (by omega) (by omega) (by omega) (by omega)]; exact a4, by rw [c.2 _ _ (by omega) (by omega) (by omega) (by omega)]; exact a5, by rw [c.2 _ _ (by omega) (by omega) (by omega) (by omega)]; exact a6⟩
-- ranges
theorem in_X {v : Int32} {n : Nat} (hn : n < 2 ^ 31) : (if v < 0 then false else if nI n ≤ v then false else true) = inB v n := by
  unfold inB
  by_cases e : v < 0
  · rw [if_pos e]; simp [e]
  · rw [if_neg e]
    have h0 : ¬ v.toInt < 0 := fun z => e (Int32.lt_iff_toInt_lt.mpr z)
    have hc : v.toNatClampNeg = v.toInt.toNat := rfl
    by_cases e2 : nI n ≤ v
    · have := Int32.le_iff_toInt_le.mp e2
      rw [ti_nI hn] at this
      rw [if_pos e2]; simp [e]; omega
    · have : ¬ (nI n).toInt ≤ v.toInt := fun z => e2 (Int32.le_iff_toInt_le.mpr z)
      rw [ti_nI hn] at this
      rw [if_neg e2]; simp [e]; omega
theorem in_M {v : Int32} {n : Nat} (hn : n < 2 ^ 30) : mX12_in v 0 (nI n - 1) = inB v n := by
  rw [← in_X (by omega)]
  unfold mX12_in
  by_cases e : v < 0
  · rw [if_pos e, if_pos e]
  · rw [if_neg e, if_neg e]
    have h0 : ¬ v.toInt < 0 := fun z => e (Int32.lt_iff_toInt_lt.mpr z)
    have h1 : (nI n - 1).toInt = n - 1 := by
      rw [ti_sub (n := n) (m := 1) (by have := ti_nI (show n < 2 ^ 31 by omega); unfold sm; omega) ⟨by decide, by decide⟩ (by omega), ti_nI (show n < 2 ^ 31 by omega)]; rfl
    by_cases e2 : nI n ≤ v
    · have := Int32.le_iff_toInt_le.mp e2
      rw [ti_nI (show n < 2 ^ 31 by omega)] at this
      rw [if_pos e2, if_pos (Int32.lt_iff_toInt_lt.mpr (by rw [h1]; omega))]
    · have : ¬ (nI n).toInt ≤ v.toInt := fun z => e2 (Int32.le_iff_toInt_le.mpr z)
      rw [ti_nI (show n < 2 ^ 31 by omega)] at this
      rw [if_neg e2, if_neg (fun z => by have := Int32.lt_iff_toInt_lt.mp z; rw [h1] at this; omega)]
theorem in_M2 {v : Int32} {n : Nat} (hn : n < 2 ^ 31) : mX12_in v 0 (nI n) = inB v (n + 1) := by
  unfold mX12_in inB
  have hc : v.toNatClampNeg = v.toInt.toNat := rfl
  by_cases e : v < 0
  · rw [if_pos e]; simp [e]
  · rw [if_neg e]
    have h0 : ¬ v.toInt < 0 := fun z => e (Int32.lt_iff_toInt_lt.mpr z)
    by_cases e2 : nI n < v
    · have := Int32.lt_iff_toInt_lt.mp e2
      rw [ti_nI hn] at this
      rw [if_pos e2]; simp [e]; omega
    · have : ¬ (nI n).toInt < v.toInt := fun z => e2 (Int32.lt_iff_toInt_lt.mpr z)
      rw [ti_nI hn] at this
      rw [if_neg e2]; simp [e]; omega
theorem in_nI {v : Int32} {n : Nat} (h : inB v n = true) : ∃ j, j < n ∧ v = nI j := by
  simp only [inB, Bool.and_eq_true, Bool.not_eq_true', decide_eq_false_iff_not, decide_eq_true_eq] at h
  refine ⟨v.toNatClampNeg, h.2, ?_⟩
  have h0 : ¬ v.toInt < 0 := fun z => h.1 (Int32.lt_iff_toInt_lt.mpr z)
  have hc : v.toNatClampNeg = v.toInt.toNat := rfl
  have hl := Int32.toInt_lt v
  refine Int32.toInt_inj.mp ?_
  rw [ti_nI (by omega)]; omega
theorem inB_0 (v : Int32) : inB v 0 = false := by unfold inB; simp
theorem b2i_0 : b2i false = 0 := rfl
theorem b2i_1 : b2i true = 1 := rfl
/-- counts, told or not -/
def kN (q : Nat → Int32) (b : Bool) : Nat := if b = true then nN q else 0
def kP (q : Nat → Int32) (b : Bool) : Nat := if b = true then nP q else 0
def kT (q : Nat → Int32) (b : Bool) : Nat := if b = true then nT q else 0
def kB (q : Nat → Int32) (b : Bool) : Nat := if b = true then nB q else 0
theorem X_isNode {x h p m : Nat} {d : Dt} {q : Nat → Int32} {b : Bool} (s : St x h m d q b) (v : Int32) : mX11_isNode x h p v d = inB v (kN q b) := by
  unfold mX11_isNode kN
  cases b
  · rw [(s.2.2.1 rfl).2.2.1]; exact in_X (n := 0) (by omega)
  · obtain ⟨w, hx, -⟩ := s.2.2.2 rfl
    rw [hx.tr.1, w.n.1, if_pos rfl]; exact in_X (by have := w.n; omega)
theorem X_isPlug {x h p m : Nat} {d : Dt} {q : Nat → Int32} {b : Bool} (s : St x h m d q b) (v : Int32) : mX11_isPlug x h p v d = inB v (kP q b) := by
  unfold mX11_isPlug kP
  cases b
  · rw [(s.2.2.1 rfl).2.2.2.1]; exact in_X (n := 0) (by omega)
  · obtain ⟨w, hx, -⟩ := s.2.2.2 rfl
    rw [hx.pl.1, w.p.1, if_pos rfl]; exact in_X (by have := w.p; omega)
theorem X_isNet {x h p m : Nat} {d : Dt} {q : Nat → Int32} {b : Bool} (s : St x h m d q b) (v : Int32) : mX11_isNet x h p v d = inB v (kT q b) := by
  unfold mX11_isNet kT
  cases b
  · rw [(s.2.2.1 rfl).2.2.2.2.1]; exact in_X (n := 0) (by omega)
  · obtain ⟨w, hx, -⟩ := s.2.2.2 rfl
    rw [hx.ne.1, w.t.1, if_pos rfl]; exact in_X (by have := w.t; omega)
theorem X_isBuild {x h p m : Nat} {d : Dt} {q : Nat → Int32} {b : Bool} (s : St x h m d q b) (v : Int32) : mX11_isBuild x h p v d = inB v (kB q b) := by
  unfold mX11_isBuild kB
  cases b
  · rw [(s.2.2.1 rfl).2.2.2.2.2]; exact in_X (n := 0) (by omega)
  · obtain ⟨w, hx, -⟩ := s.2.2.2 rfl
    rw [hx.bu.1, w.b.1, if_pos rfl]; exact in_X (by have := w.b; omega)
theorem ite_b (b : Bool) : (if b = true then some true else some false) = some b := by cases b <;> rfl
theorem M_isNode {x h m : Nat} {d : Dt} {q : Nat → Int32} {b : Bool} (s : St x h m d q b) (v : Int32) : mX12_isNode m v d = some (inB v (kN q b)) := by
  unfold mX12_isNode kN
  rw [s.2.1]
  cases b
  · rw [if_pos b2i_0, if_neg (by decide), inB_0]
  · obtain ⟨w, -, hM⟩ := s.2.2.2 rfl
    rw [if_neg (by decide), if_pos ib2, row2 hM, w.n.1, in_M (by have := w.n; omega), if_pos rfl, ite_b]
theorem M_isPlug {x h m : Nat} {d : Dt} {q : Nat → Int32} {b : Bool} (s : St x h m d q b) (v : Int32) : mX12_isPlug m v d = some (inB v (kP q b)) := by
  unfold mX12_isPlug kP
  rw [s.2.1]
  cases b
  · rw [if_pos b2i_0, if_neg (by decide), inB_0]
  · obtain ⟨w, -, hM⟩ := s.2.2.2 rfl
    rw [if_neg (by decide), if_pos ib4, row4 hM, w.p.1, in_M (by have := w.p; omega), if_pos rfl, ite_b]
theorem M_isNet {x h m : Nat} {d : Dt} {q : Nat → Int32} {b : Bool} (s : St x h m d q b) (v : Int32) : mX12_isNet m v d = some (inB v (kT q b)) := by
  unfold mX12_isNet kT
  rw [s.2.1]
  cases b
  · rw [if_pos b2i_0, if_neg (by decide), inB_0]
  · obtain ⟨w, -, hM⟩ := s.2.2.2 rfl
    rw [if_neg (by decide), if_pos ib5, row5 hM, w.t.1, in_M (by have := w.t; omega), if_pos rfl, ite_b]
theorem M_isBuild {x h m : Nat} {d : Dt} {q : Nat → Int32} {b : Bool} (s : St x h m d q b) (v : Int32) : mX12_isBuild m v d = some (inB v (kB q b)) := by
  unfold mX12_isBuild kB
  rw [s.2.1]
  cases b
  · rw [if_pos b2i_0, if_neg (by decide), inB_0]
  · obtain ⟨w, -, hM⟩ := s.2.2.2 rfl
    rw [if_neg (by decide), if_pos ib6, row6 hM, w.b.1, in_M (by have := w.b; omega), if_pos rfl, ite_b]
