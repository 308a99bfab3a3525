/-! the class cuts its text into those tokens -/
theorem packed_all : ∀ k, k < 24 → mX8_packed k = some (L64 (litV k)) ∧ litV k < 2 ^ 56 := by decide +kernel
theorem X_isReserved {u : Nat} (hu : u < 2 ^ 63) : mX8_isReserved (L64 u) = some (isRes u) := by
  have e : isRes u = (decide (u = litV 0) || (decide (u = litV 1) || (decide (u = litV 2) || (decide (u = litV 3) || (decide (u = litV 4) || (decide (u = litV 5) || (decide (u = litV 6) || (decide (u = litV 7) || (decide (u = litV 8) || (decide (u = litV 9) || false)))))))))) := rfl
  have st : ∀ k, k < 10 → (L64 u = L64 (litV k)) = (u = litV k) := fun k hk => propext ⟨fun h => L64_inj hu (by have := (packed_all k (by omega)).2; omega) h, fun h => by rw [h]⟩
  rw [e]
  unfold mX8_isReserved
  rw [(packed_all 0 (by omega)).1, (packed_all 1 (by omega)).1, (packed_all 2 (by omega)).1, (packed_all 3 (by omega)).1, (packed_all 4 (by omega)).1, (packed_all 5 (by omega)).1, (packed_all 6 (by omega)).1, (packed_all 7 (by omega)).1, (packed_all 8 (by omega)).1, (packed_all 9 (by omega)).1]
  simp only [Option.bind_some, st 0 (by omega), st 1 (by omega), st 2 (by omega), st 3 (by omega), st 4 (by omega), st 5 (by omega), st 6 (by omega), st 7 (by omega), st 8 (by omega), st 9 (by omega)]
  by_cases h0 : u = litV 0
  · rw [if_pos h0]; simp [h0]
  · rw [if_neg h0]
    by_cases h1 : u = litV 1
    · rw [if_pos h1]; simp [h1]
    · rw [if_neg h1]
      by_cases h2 : u = litV 2
      · rw [if_pos h2]; simp [h2]
      · rw [if_neg h2]
        by_cases h3 : u = litV 3
        · rw [if_pos h3]; simp [h3]
        · rw [if_neg h3]
          by_cases h4 : u = litV 4
          · rw [if_pos h4]; simp [h4]
          · rw [if_neg h4]
            by_cases h5 : u = litV 5
            · rw [if_pos h5]; simp [h5]
            · rw [if_neg h5]
              by_cases h6 : u = litV 6
              · rw [if_pos h6]; simp [h6]
              · rw [if_neg h6]
                by_cases h7 : u = litV 7
                · rw [if_pos h7]; simp [h7]
                · rw [if_neg h7]
                  by_cases h8 : u = litV 8
                  · rw [if_pos h8]; simp [h8]
                  · rw [if_neg h8]
                    by_cases h9 : u = litV 9
                    · rw [if_pos h9]; simp [h9]
                    · rw [if_neg h9]; simp [h0, h1, h2, h3, h4, h5, h6, h7, h8, h9]
/-- the class's rows hold the first c tokens -/
def Tks (t : Nat) (B : Nat → Nat) (n c : Nat) (d : Dt) : Prop := d.1 t 0 = nI c ∧ d.1 t 1 = nI n ∧ ∀ i, i < c → d.1 (t + 1) i = nI (T B n i).2.1 ∧ d.1 (t + 2) i = nI (T B n i).1 ∧ ((T B n i).2.1 = 1 ∨ (T B n i).2.1 = 2 ∨ (T B n i).2.1 = 3 → d.2 (t + 3) i = L64 (T B n i).2.2.2) ∧ (T B n i).2.1 ≠ 6
def TFm (t : Nat) (d0 d : Dt) : Prop := (∀ o k, o ≠ t → o ≠ t + 1 → o ≠ t + 2 → d.1 o k = d0.1 o k) ∧ ∀ o k, o ≠ t + 3 → d.2 o k = d0.2 o k
theorem TFm_tr {t : Nat} {a b c : Dt} (h1 : TFm t a b) (h2 : TFm t b c) : TFm t a c := ⟨fun o k a b c => (h2.1 o k a b c).trans (h1.1 o k a b c), fun o k a => (h2.2 o k a).trans (h1.2 o k a)⟩
theorem dL_at (d : Dt) (o k : Nat) (v : Int64) : (uL d o k v).2 o k = v := by simp [uL]
theorem dL_ne {d : Dt} {o k : Nat} {v : Int64} {o' k' : Nat} (h : o' ≠ o ∨ k' ≠ k) : (uL d o k v).2 o' k' = d.2 o' k' := by
  have : ¬ (o' = o ∧ k' = k) := fun z => h.elim (fun h => h z.1) (fun h => h z.2)
  simp [uL, this]
theorem X_tadd {t : Nat} {B : Nat → Nat} {n c : Nat} {d : Dt} (h : Tks t B n c d) (hc : c < 1000) {kd pl : Nat} {v : Int64} (e1 : (T B n c).2.1 = kd) (e2 : (T B n c).1 = pl) (e3 : kd = 1 ∨ kd = 2 ∨ kd = 3 → v = L64 (T B n c).2.2.2) (e4 : kd ≠ 6) :
    ∃ d1, mX8_add t (nI kd) (nI pl) v d = some d1 ∧ Tks t B n (c + 1) d1 ∧ TFm t d d1 := by
  obtain ⟨h0, h1, h2⟩ := h
  refine ⟨uI (uL (uI (uI d (t + 1) c (nI kd)) (t + 2) c (nI pl)) (t + 3) c v) t 0 (nI (c + 1)), ?_, ⟨dI_at _ _ _ _, ?_, fun i hi => ?_⟩, ⟨fun o k a b c' => ?_, fun o k a => ?_⟩⟩
  · unfold mX8_add
    rw [show (uL (uI (uI d (t + 1) (d.1 t 0).toNatClampNeg (nI kd)) (t + 2) ((uI d (t + 1) (d.1 t 0).toNatClampNeg (nI kd)).1 t 0).toNatClampNeg (nI pl)) (t + 3) ((uI (uI d (t + 1) (d.1 t 0).toNatClampNeg (nI kd)) (t + 2) ((uI d (t + 1) (d.1 t 0).toNatClampNeg (nI kd)).1 t 0).toNatClampNeg (nI pl)).1 t 0).toNatClampNeg v).1 t 0 = d.1 t 0 from (dI_ne (Or.inl (show t ≠ t + 2 by omega))).trans (dI_ne (Or.inl (show t ≠ t + 1 by omega)))]
    rw [dI_ne (Or.inl (show t ≠ t + 2 by omega)), dI_ne (Or.inl (show t ≠ t + 1 by omega)), h0, if_neg (show ¬ (1000 : Int32) ≤ nI c from nI_ge hc (by decide)), if_pos (inB_nI (by omega) (by decide)), if_pos (inB_nI (by omega) (by decide)), if_pos (inB_nI (by omega) (by decide)), cl_nI (by omega), nI_1]
  · rw [dI_ne (by omega)]
    show (uI (uI d (t + 1) c (nI kd)) (t + 2) c (nI pl)).1 t 1 = nI n
    rw [dI_ne (by omega), dI_ne (by omega)]; exact h1
  · by_cases e : i = c
    · subst e
      rw [e1, e2]
      refine ⟨?_, ?_, fun z => ?_, e4⟩
      · rw [dI_ne (by omega)]
        show (uI (uI d (t + 1) i (nI kd)) (t + 2) i (nI pl)).1 (t + 1) i = _
        rw [dI_ne (by omega), dI_at]
      · rw [dI_ne (by omega)]
        show (uI (uI d (t + 1) i (nI kd)) (t + 2) i (nI pl)).1 (t + 2) i = _
        rw [dI_at]
      · show (uL (uI (uI d (t + 1) i (nI kd)) (t + 2) i (nI pl)) (t + 3) i v).2 (t + 3) i = _
        rw [dL_at]; exact e3 z
    · obtain ⟨q1, q2, q3, q4⟩ := h2 i (by omega)
      refine ⟨?_, ?_, fun z => ?_, q4⟩
      · rw [dI_ne (by omega)]
        show (uI (uI d (t + 1) c (nI kd)) (t + 2) c (nI pl)).1 (t + 1) i = _
        rw [dI_ne (by omega), dI_ne (by omega)]; exact q1
      · rw [dI_ne (by omega)]
        show (uI (uI d (t + 1) c (nI kd)) (t + 2) c (nI pl)).1 (t + 2) i = _
        rw [dI_ne (by omega), dI_ne (by omega)]; exact q2
      · show (uL (uI (uI d (t + 1) c (nI kd)) (t + 2) c (nI pl)) (t + 3) c v).2 (t + 3) i = _
        rw [dL_ne (by omega)]; exact q3 z
  · rw [dI_ne (by omega)]
    show (uI (uI d (t + 1) c (nI kd)) (t + 2) c (nI pl)).1 o k = _
    rw [dI_ne (by omega), dI_ne (by omega)]
  · show (uL (uI (uI d (t + 1) c (nI kd)) (t + 2) c (nI pl)) (t + 3) c v).2 o k = _
    rw [dL_ne (Or.inl a)]; rfl
theorem wv_s {B : Nat → Nat} {s k : Nat} (h : s ≤ k) : wv B s (k + 1) = 256 * wv B s k + B k := by
  unfold wv
  rw [show k + 1 - s = (k - s) + 1 by omega, fo_last, show s + (k - s) = k by omega]
theorem wv_0 (B : Nat → Nat) (s : Nat) : wv B s s = 0 := by unfold wv; rw [Nat.sub_self]; rfl
theorem wv_lt {B : Nat → Nat} (hB : ∀ j, B j < 256) : ∀ m s, wv B s (s + m) < 256 ^ m := by
  intro m
  induction m with
  | zero => intro s; rw [Nat.add_zero, wv_0]; omega
  | succ m ih =>
    intro s
    rw [← Nat.add_assoc, wv_s (by omega), Nat.pow_succ]
    have := ih s
    have := hB (s + m)
    omega
theorem dv_s {B : Nat → Nat} {s k : Nat} (h : s ≤ k) : dv B s (k + 1) = 10 * dv B s k + (B k - 48) := by
  unfold dv
  rw [show k + 1 - s = (k - s) + 1 by omega, fo_last, show s + (k - s) = k by omega]
theorem dv_0 (B : Nat → Nat) (s : Nat) : dv B s s = 0 := by unfold dv; rw [Nat.sub_self]; rfl
