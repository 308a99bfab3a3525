/-! what the class adds, what the reference tells -/
theorem ad9 {t c : Nat} {d : Dt} (h : d.1 t 0 = nI c) (hc : c < 14) (a b l : Int32) : mX9_add t a b l d = some (uI (uI (uI (uI d (t + 1) c a) (t + 3) c b) (t + 2) c l) t 0 (nI (c + 1))) := by
  have u1 : ∀ (e : Dt) (i : Nat) (v : Int32), (uI e (t + 1) i v).1 t 0 = e.1 t 0 := fun e i v => dI_ne (Or.inl (by omega))
  have u2 : ∀ (e : Dt) (i : Nat) (v : Int32), (uI e (t + 2) i v).1 t 0 = e.1 t 0 := fun e i v => dI_ne (Or.inl (by omega))
  have u3 : ∀ (e : Dt) (i : Nat) (v : Int32), (uI e (t + 3) i v).1 t 0 = e.1 t 0 := fun e i v => dI_ne (Or.inl (by omega))
  unfold mX9_add
  simp only [u1, u2, u3, h]
  rw [if_neg (show ¬ (14 : Int32) ≤ nI c from nI_ge (b := 14) hc (by omega)), if_pos (inB_nI hc (by omega)), if_pos (inB_nI hc (by omega)), if_pos (inB_nI hc (by omega)), cl_nI (by omega), nI_1]
theorem ad6 {t c : Nat} {d : Dt} (h : d.1 t 0 = nI c) (hc : c < 8) (a1 a2 a3 a4 a5 a6 : Int32) : mX6_add t a1 a2 a3 a4 a5 a6 d = some (uI (uI (uI (uI (uI (uI (uI d (t + 1) c a1) (t + 2) c a2) (t + 3) c a3) (t + 4) c a4) (t + 5) c a5) (t + 6) c a6) t 0 (nI (c + 1))) := by
  have u1 : ∀ (e : Dt) (i : Nat) (v : Int32), (uI e (t + 1) i v).1 t 0 = e.1 t 0 := fun e i v => dI_ne (Or.inl (by omega))
  have u2 : ∀ (e : Dt) (i : Nat) (v : Int32), (uI e (t + 2) i v).1 t 0 = e.1 t 0 := fun e i v => dI_ne (Or.inl (by omega))
  have u3 : ∀ (e : Dt) (i : Nat) (v : Int32), (uI e (t + 3) i v).1 t 0 = e.1 t 0 := fun e i v => dI_ne (Or.inl (by omega))
  have u4 : ∀ (e : Dt) (i : Nat) (v : Int32), (uI e (t + 4) i v).1 t 0 = e.1 t 0 := fun e i v => dI_ne (Or.inl (by omega))
  have u5 : ∀ (e : Dt) (i : Nat) (v : Int32), (uI e (t + 5) i v).1 t 0 = e.1 t 0 := fun e i v => dI_ne (Or.inl (by omega))
  have u6 : ∀ (e : Dt) (i : Nat) (v : Int32), (uI e (t + 6) i v).1 t 0 = e.1 t 0 := fun e i v => dI_ne (Or.inl (by omega))
  have ib : inB (nI c) 8 = true := inB_nI hc (by omega)
  unfold mX6_add
  simp only [u1, u2, u3, u4, u5, u6, h]
  rw [if_neg (show ¬ (8 : Int32) ≤ nI c from nI_ge (b := 8) hc (by omega)), if_pos ib, if_pos ib, if_pos ib, if_pos ib, if_pos ib, if_pos ib, cl_nI (by omega), nI_1]
theorem ad5 {t c : Nat} {d : Dt} (h : d.1 t 0 = nI c) (hc : c < 10) (a1 a2 a3 a4 : Int32) : mX5_add t a1 a2 a3 a4 d = some (uI (uI (uI (uI (uI (uI (uI d (t + 1) c a1) (t + 2) c a2) (t + 3) c 0) (t + 4) c a3) (t + 5) c a4) (t + 6) c (-2)) t 0 (nI (c + 1))) := by
  have u1 : ∀ (e : Dt) (i : Nat) (v : Int32), (uI e (t + 1) i v).1 t 0 = e.1 t 0 := fun e i v => dI_ne (Or.inl (by omega))
  have u2 : ∀ (e : Dt) (i : Nat) (v : Int32), (uI e (t + 2) i v).1 t 0 = e.1 t 0 := fun e i v => dI_ne (Or.inl (by omega))
  have u3 : ∀ (e : Dt) (i : Nat) (v : Int32), (uI e (t + 3) i v).1 t 0 = e.1 t 0 := fun e i v => dI_ne (Or.inl (by omega))
  have u4 : ∀ (e : Dt) (i : Nat) (v : Int32), (uI e (t + 4) i v).1 t 0 = e.1 t 0 := fun e i v => dI_ne (Or.inl (by omega))
  have u5 : ∀ (e : Dt) (i : Nat) (v : Int32), (uI e (t + 5) i v).1 t 0 = e.1 t 0 := fun e i v => dI_ne (Or.inl (by omega))
  have u6 : ∀ (e : Dt) (i : Nat) (v : Int32), (uI e (t + 6) i v).1 t 0 = e.1 t 0 := fun e i v => dI_ne (Or.inl (by omega))
  have ib : inB (nI c) 10 = true := inB_nI hc (by omega)
  unfold mX5_add
  simp only [u1, u2, u3, u4, u5, u6, h]
  rw [if_neg (show ¬ (10 : Int32) ≤ nI c from nI_ge (b := 10) hc (by omega)), if_pos ib, if_pos ib, if_pos ib, if_pos ib, if_pos ib, if_pos ib, cl_nI (by omega), nI_1]
theorem ad1 {t c : Nat} {d : Dt} (h : d.1 t 0 = nI c) (hc : c < 5) (a1 a2 : Int32) : mX1_add t a1 a2 d = some (uI (uI (uI d (t + 1) c a1) (t + 2) c a2) t 0 (nI (c + 1))) := by
  have u1 : ∀ (e : Dt) (i : Nat) (v : Int32), (uI e (t + 1) i v).1 t 0 = e.1 t 0 := fun e i v => dI_ne (Or.inl (by omega))
  have u2 : ∀ (e : Dt) (i : Nat) (v : Int32), (uI e (t + 2) i v).1 t 0 = e.1 t 0 := fun e i v => dI_ne (Or.inl (by omega))
  have ib : inB (nI c) 5 = true := inB_nI hc (by omega)
  unfold mX1_add
  simp only [u1, u2, h]
  rw [if_neg (show ¬ (5 : Int32) ≤ nI c from nI_ge (b := 5) hc (by omega)), if_pos ib, if_pos ib, cl_nI (by omega), nI_1]
theorem adN {p k : Nat} {d : Dt} (h : d.1 p 3 = nI k) (hk : k < 36) (v : Int64) (x : Int32) : mX4_addName p v x d = some (uI (uI (uL d (p + 1) k v) (p + 2) k x) p 3 (nI (k + 1))) := by
  have u0 : ∀ (e : Dt) (o i : Nat) (v : Int64), (uL e o i v).1 = e.1 := fun e o i v => rfl
  have u2 : ∀ (e : Dt) (i : Nat) (v : Int32), (uI e (p + 2) i v).1 p 3 = e.1 p 3 := fun e i v => dI_ne (Or.inl (by omega))
  have ib : inB (nI k) 36 = true := inB_nI hk (by omega)
  unfold mX4_addName
  simp only [u0, u2, h]
  rw [if_neg (show ¬ (36 : Int32) ≤ nI k from nI_ge (b := 36) hk (by omega)), if_pos ib, if_pos ib, cl_nI (by omega), nI_1]
theorem mtl {k : Nat} {d : Dt} (h : d.1 167 13 = nI k) (hk : k < 36) (v : Int64) (x : Int32) : mX12_tells 167 v x d = some (uI (uI (uL d (167 + 6) k v) (167 + 7) k x) 167 13 (nI (k + 1))) := by
  have u0 : ∀ (e : Dt) (o i : Nat) (v : Int64), (uL e o i v).1 = e.1 := fun e o i v => rfl
  have u2 : ∀ (e : Dt) (i : Nat) (v : Int32), (uI e (167 + 7) i v).1 167 13 = e.1 167 13 := fun e i v => dI_ne (Or.inl (by omega))
  have ib : inB (nI k) 36 = true := inB_nI hk (by omega)
  unfold mX12_tells
  simp only [u0, u2, h]
  rw [if_pos ib, if_pos ib, cl_nI (by omega), nI_1]
/-! rows that grow -/
theorem WP_ext {q0 q1 : Nat → Int32} {bt : Bool} (w : WP q0 bt) (cs : (q1 2 = nI (nN q1) ∧ nN q1 ≤ 14) ∧ (q1 3 = nI (nO q1) ∧ nO q1 ≤ 4) ∧ (q1 4 = nI (nP q1) ∧ nP q1 ≤ 8) ∧ (q1 5 = nI (nT q1) ∧ nT q1 ≤ 10) ∧ (q1 6 = nI (nB q1) ∧ nB q1 ≤ 5))
    (m1 : nN q0 ≤ nN q1) (m2 : nO q0 ≤ nO q1) (m3 : nP q0 ≤ nP q1)
    (aN : ∀ i, i < nN q0 → q1 (7 + i) = q0 (7 + i) ∧ q1 (21 + i) = q0 (21 + i) ∧ q1 (35 + i) = q0 (35 + i))
    (aP : ∀ i, i < nP q0 → ∀ k, k < 6 → q1 (49 + 6 * i + k) = q0 (49 + 6 * i + k))
    (aT : ∀ i, i < nT q0 → ∀ k, k < 16 → q1 (97 + 16 * i + k) = q0 (97 + 16 * i + k))
    (aB : ∀ i, i < nB q0 → q1 (257 + 2 * i) = q0 (257 + 2 * i) ∧ q1 (257 + 2 * i + 1) = q0 (257 + 2 * i + 1))
    (bN : ∀ i, nN q0 ≤ i → i < nN q1 → (i = 0 → q1 7 = -2 ∧ q1 21 = 0) ∧ (1 ≤ i → (q1 (7 + i) = nI (uq q1 i) ∧ uq q1 i < i) ∧ (∃ l, 1 ≤ l ∧ l ≤ 999 ∧ q1 (21 + i) = nI l) ∧ ∃ s, s < 4 ∧ q1 (35 + i) = nI s))
    (bP : ∀ i, nP q0 ≤ i → i < nP q1 → (∃ a, a < nN q1 ∧ q1 (49 + 6 * i) = nI a) ∧ (∃ a, 1 ≤ a ∧ a ≤ 12 ∧ q1 (49 + 6 * i + 1) = nI a) ∧ (∃ a, a ≤ 9 ∧ q1 (49 + 6 * i + 2) = nI a) ∧ (∃ a, a ≤ 9 ∧ q1 (49 + 6 * i + 3) = nI a) ∧ whenOk (nO q1) (q1 (49 + 6 * i + 4)) (q1 (49 + 6 * i + 5)))
    (bT : ∀ i, nT q0 ≤ i → i < nT q1 → (∃ a, a < 3 ∧ q1 (97 + 16 * i) = nI a) ∧ (∃ a, 1 ≤ a ∧ a ≤ 9 ∧ q1 (97 + 16 * i + 1) = nI a) ∧ (q1 (97 + 16 * i + 2) = nI (many q1 i) ∧ 2 ≤ many q1 i ∧ many q1 i ≤ 5) ∧ whenOk (nO q1) (q1 (97 + 16 * i + 3)) (q1 (97 + 16 * i + 4)) ∧
      (q1 (97 + 16 * i + 5) = -2 ∨ ∃ a, a < nN q1 ∧ q1 (97 + 16 * i + 5) = nI a) ∧ ∀ k, k < many q1 i → (q1 (97 + 16 * i + (6 + 2 * k)) = nI (pp q1 i k) ∧ pp q1 i k < nP q1) ∧ ∃ a, a < 12 ∧ q1 (97 + 16 * i + (6 + 2 * k) + 1) = nI a)
    (bB : ∀ i, nB q0 ≤ i → i < nB q1 → (∃ v, v < 2 ^ nO q1 ∧ q1 (257 + 2 * i) = nI v) ∧ ∃ a, 1 ≤ a ∧ a ≤ 99 ∧ q1 (257 + 2 * i + 1) = nI a)
    (b0 : (∃ a, a ≤ 99 ∧ q1 0 = nI a) ∧ ∃ a, a ≤ 99 ∧ q1 1 = nI a) : WP q1 true := by
  obtain ⟨w1, w2, w3, w4, w5, w6, w7, w8, w9, w10, -, -⟩ := w
  have wk : ∀ a b, whenOk (nO q0) a b → whenOk (nO q1) a b := fun a b h => by
    rcases h with h | ⟨j, h1, h2, h3⟩
    · exact Or.inl h
    · exact Or.inr ⟨j, by omega, h2, h3⟩
  refine ⟨cs.1, cs.2.1, cs.2.2.1, cs.2.2.2.1, cs.2.2.2.2, fun h => ?_, fun i h1 h2 => ?_, fun i hi => ?_, fun i hi => ?_, fun i hi => ?_, fun _ => b0, fun z => absurd z (by decide)⟩
  · by_cases e : 1 ≤ nN q0
    · obtain ⟨e1, e2, -⟩ := aN 0 (by omega)
      exact ⟨e1.trans (w6 e).1, e2.trans (w6 e).2⟩
    · exact (bN 0 (by omega) (by omega)).1 rfl
  · by_cases e : i < nN q0
    · obtain ⟨e1, e2, e3⟩ := aN i e
      rw [e1, e2, e3, uq_congr e1]
      exact w7 i h1 e
    · exact (bN i (by omega) h2).2 h1
  · by_cases e : i < nP q0
    · have a := aP i e
      obtain ⟨⟨y, y1, y2⟩, k2, k3, k4, k5⟩ := w8 i e
      rw [show q1 (49 + 6 * i) = q0 (49 + 6 * i) from a 0 (by omega), a 1 (by omega), a 2 (by omega), a 3 (by omega), a 4 (by omega), a 5 (by omega)]
      exact ⟨⟨y, by omega, y2⟩, k2, k3, k4, wk _ _ k5⟩
    · exact bP i (by omega) hi
  · by_cases e : i < nT q0
    · have a := aT i e
      obtain ⟨k1, k2, k3, k4, k5, k6⟩ := w9 i e
      have hm : many q1 i = many q0 i := by unfold many; rw [a 2 (by omega)]
      rw [show q1 (97 + 16 * i) = q0 (97 + 16 * i) from a 0 (by omega), a 1 (by omega), a 2 (by omega), a 3 (by omega), a 4 (by omega), a 5 (by omega), hm]
      refine ⟨k1, k2, k3, wk _ _ k4, ?_, fun k hk => ?_⟩
      · rcases k5 with k5 | ⟨y, y1, y2⟩
        · exact Or.inl k5
        · exact Or.inr ⟨y, by omega, y2⟩
      · obtain ⟨⟨z1, z2⟩, z3⟩ := k6 k hk
        have ea : q1 (97 + 16 * i + (6 + 2 * k)) = q0 (97 + 16 * i + (6 + 2 * k)) := a _ (by omega)
        have eb : q1 (97 + 16 * i + (6 + 2 * k) + 1) = q0 (97 + 16 * i + (6 + 2 * k) + 1) := a (6 + 2 * k + 1) (by omega)
        have ep : pp q1 i k = pp q0 i k := by unfold pp; rw [ea]
        rw [ea, eb, ep]
        exact ⟨⟨z1, by omega⟩, z3⟩
    · exact bT i (by omega) hi
  · by_cases e : i < nB q0
    · obtain ⟨e1, e2⟩ := aB i e
      obtain ⟨⟨v, v1, v2⟩, y⟩ := w10 i e
      rw [e1, e2]
      exact ⟨⟨v, Nat.lt_of_lt_of_le v1 (Nat.pow_le_pow_right (by decide) m2), v2⟩, y⟩
    · exact bB i (by omega) hi
theorem XTr_c {t : Nat} {d d1 : Dt} {q0 q1 : Nat → Int32} (x : XTr t d q0) (e : q1 2 = q0 2) (ag : ∀ k, 7 ≤ k → k < 49 → q1 k = q0 k) (hn : nN q0 ≤ 14) (f : ∀ o k, t ≤ o → o < t + 4 → d1.1 o k = d.1 o k) : XTr t d1 q1 := by
  obtain ⟨x1, x2⟩ := x
  have en : nN q1 = nN q0 := by unfold nN; rw [e]
  refine ⟨by rw [f _ _ (by omega) (by omega), e]; exact x1, fun i hi => ?_⟩
  rw [f _ _ (by omega) (by omega), f _ _ (by omega) (by omega), f _ _ (by omega) (by omega), ag _ (by omega) (by omega), ag _ (by omega) (by omega), ag _ (by omega) (by omega)]
  exact x2 i (by omega)
theorem XPl_c {t : Nat} {d d1 : Dt} {q0 q1 : Nat → Int32} (x : XPl t d q0) (e : q1 4 = q0 4) (ag : ∀ k, 49 ≤ k → k < 97 → q1 k = q0 k) (hn : nP q0 ≤ 8) (f : ∀ o k, t ≤ o → o < t + 7 → d1.1 o k = d.1 o k) : XPl t d1 q1 := by
  obtain ⟨x1, x2⟩ := x
  have en : nP q1 = nP q0 := by unfold nP; rw [e]
  refine ⟨by rw [f _ _ (by omega) (by omega), e]; exact x1, fun i hi k hk => ?_⟩
  rw [f _ _ (by omega) (by omega), ag _ (by omega) (by omega)]
  exact x2 i (by omega) k hk
theorem XBu_c {t : Nat} {d d1 : Dt} {q0 q1 : Nat → Int32} (x : XBu t d q0) (e : q1 6 = q0 6) (ag : ∀ k, 257 ≤ k → k < 267 → q1 k = q0 k) (hn : nB q0 ≤ 5) (f : ∀ o k, t ≤ o → o < t + 3 → d1.1 o k = d.1 o k) : XBu t d1 q1 := by
  obtain ⟨x1, x2⟩ := x
  have en : nB q1 = nB q0 := by unfold nB; rw [e]
  refine ⟨by rw [f _ _ (by omega) (by omega), e]; exact x1, fun i hi => ?_⟩
  rw [f _ _ (by omega) (by omega), f _ _ (by omega) (by omega), ag _ (by omega) (by omega), ag _ (by omega) (by omega)]
  exact x2 i (by omega)
theorem XNe_c {t : Nat} {d d1 : Dt} {q0 q1 : Nat → Int32} {bt : Bool} (x : XNe t d q0) (w : WP q0 bt) (e : q1 5 = q0 5) (ag : ∀ k, 97 ≤ k → k < 257 → q1 k = q0 k) (ap : ∀ j, j < nP q0 → q1 (49 + 6 * j) = q0 (49 + 6 * j)) (f : ∀ o k, t ≤ o → o < t + 40 → d1.1 o k = d.1 o k) : XNe t d1 q1 := by
  obtain ⟨x1, x2⟩ := x
  have hn := w.cs.2.2.2.1.2
  have en : nT q1 = nT q0 := by unfold nT; rw [e]
  refine ⟨by rw [f _ _ (by omega) (by omega), e]; exact x1, fun i hi => ⟨fun k hk => ?_, fun k hk => ?_⟩⟩
  · rw [f _ _ (by omega) (by omega), ag _ (by omega) (by omega)]
    exact (x2 i (by omega)).1 k hk
  · have hm : many q1 i = many q0 i := by unfold many; rw [ag _ (by omega) (by omega)]
    rw [hm] at hk
    obtain ⟨-, -, ⟨-, -, m5⟩, -, -, k6⟩ := w.2.2.2.2.2.2.2.2.1 i (by omega)
    have ep : pp q1 i k = pp q0 i k := by unfold pp; rw [ag _ (by omega) (by omega)]
    have en : pn q1 i k = pn q0 i k := by unfold pn; rw [ep, ap _ (k6 k hk).1.2]
    have ea : pinA q1 i k = pinA q0 i k := by unfold pinA; exact ag _ (by omega) (by omega)
    have eb : pinB q1 i k = pinB q0 i k := by unfold pinB; exact ag _ (by omega) (by omega)
    rw [f _ _ (by omega) (by omega), f _ _ (by omega) (by omega), f _ _ (by omega) (by omega), ea, eb, en]
    exact (x2 i (by omega)).2 k hk
theorem NmR_add {p : Nat} {q0 q1 : Nat → Int32} {dX dM dX1 dM1 : Dt} {k u : Nat} {v : Int64} (h : NmR p q0 dX dM) (hk : k = nN q0 + nO q0 + nP q0 + nT q0) (hs : k + 1 = nN q1 + nO q1 + nP q1 + nT q1) (m1 : nN q0 ≤ nN q1) (m2 : nO q0 ≤ nO q1) (m3 : nP q0 ≤ nP q1) (m4 : nT q0 ≤ nT q1) (hu : MOk q1 u)
    (f1 : dX1.1 p 3 = nI (k + 1)) (f2 : dX1.1 (p + 2) k = nI u ∧ ∀ j, j < k → dX1.1 (p + 2) j = dX.1 (p + 2) j) (f3 : dX1.2 (p + 1) k = v ∧ ∀ j, j < k → dX1.2 (p + 1) j = dX.2 (p + 1) j)
    (g1 : dM1.1 167 13 = nI (k + 1)) (g2 : dM1.1 (167 + 7) k = nI u ∧ ∀ j, j < k → dM1.1 (167 + 7) j = dM.1 (167 + 7) j) (g3 : dM1.2 (167 + 6) k = v ∧ ∀ j, j < k → dM1.2 (167 + 6) j = dM.2 (167 + 6) j) : NmR p q1 dX1 dM1 := by
  obtain ⟨k0, k1, k2, k3, k4⟩ := h
  obtain rfl : k0 = k := by omega
  refine ⟨k0 + 1, hs, f1, g1, fun j hj => ?_⟩
  by_cases e : j = k0
  · subst e
    exact ⟨by rw [f3.1, g3.1], u, f2.1, g2.1, hu⟩
  · obtain ⟨y1, y, y2, y3, y4⟩ := k4 j (by omega)
    refine ⟨by rw [f3.2 j (by omega), g3.2 j (by omega)]; exact y1, y, by rw [f2.2 j (by omega)]; exact y2, by rw [g2.2 j (by omega)]; exact y3, ?_⟩
    unfold MOk at y4 ⊢
    omega
/-- a line's end: the class sees it, the reference's line is over -/
def PLn (rd p n c1 : Nat) (B : Nat → Nat) (X0 M0 : Dt) (i0 : Nat) (dX dM : Dt) : Prop := ∃ i w q, i0 < i ∧ PSt rd p n c1 B X0 M0 i true w q q dX dM ∧ ((T B n i).2.1 = 5 ∨ (T B n i).2.1 = 6)
theorem x_ends {rd p n c1 : Nat} {B : Nat → Nat} {X0 M0 : Dt} {i : Nat} {bt : Bool} {w : Int32 × Int32} {q0 q : Nat → Int32} {dX dM : Dt} (hb : Base rd p n c1 B X0 M0) (h : PSt rd p n c1 B X0 M0 i bt w q0 q dX dM) : mX7_lineEnds rd 152 p dX = some (if (T B n i).2.1 = 5 ∨ (T B n i).2.1 = 6 then (true, dX) else (false, uI dX rd 6 1)) := by
  unfold mX7_lineEnds
  rw [show mX7_sees rd 152 p 5 dX = _ from x_sees hb h (v := 5) (by omega), Option.bind_some]
  by_cases e5 : (T B n i).2.1 = 5
  · rw [decide_eq_true e5, if_pos rfl, if_pos (Or.inl e5)]
  · rw [decide_eq_false e5, if_neg Bool.false_ne_true, show mX7_sees rd 152 p 6 dX = _ from x_sees hb h (v := 6) (by omega), Option.bind_some]
    by_cases e6 : (T B n i).2.1 = 6
    · rw [decide_eq_true e6, if_pos rfl, if_pos (Or.inr e6)]
    · rw [decide_eq_false e6, if_neg Bool.false_ne_true, if_neg (show ¬ (mX7_fail rd 152 p 1 dX).1 = true from Bool.false_ne_true), if_neg (show ¬ ((T B n i).2.1 = 5 ∨ (T B n i).2.1 = 6) by omega)]; rfl
theorem two_ends {rd p n c1 : Nat} {B : Nat → Nat} {X0 M0 : Dt} {i i0 : Nat} {w : Int32 × Int32} {q : Nat → Int32} {dX dM : Dt} {F : Bool × Dt → Option (Bool × Dt)} (hb : Base rd p n c1 B X0 M0) (h : PSt rd p n c1 B X0 M0 i true w q q dX dM) (hi : i0 < i) (hF : ∀ b d, F (b, d) = some (b, d)) : PTwo rd p n c1 B X0 M0 ((mX7_lineEnds rd 152 p dX).bind F) (some (true, dM)) (PLn rd p n c1 B X0 M0 i0) := by
  rw [x_ends hb h, Option.bind_some]
  by_cases e : (T B n i).2.1 = 5 ∨ (T B n i).2.1 = 6
  · rw [if_pos e, hF]
    exact ⟨_, _, _, _, rfl, rfl, Or.inl ⟨rfl, rfl, i, w, q, hi, h, e⟩⟩
  · obtain ⟨k1, k2, k3⟩ := mkd_all _ (kind6 hb h).1
    rw [if_neg e, hF]
    refine ⟨_, _, _, _, rfl, rfl, Or.inr (Or.inr ⟨rfl, rfl, ?_, ?_, p_err h 1⟩)⟩
    · rw [m_18 h]; exact fun z => e (Or.inl (k2.mp z))
    · rw [m_18 h]; exact fun z => e (Or.inr (k1.mp z))
