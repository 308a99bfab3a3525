/-! the parser in lockstep: class (reader rd, tokens 152, harness p), reference (167) -/
def FX (rd p : Nat) (X0 d : Dt) : Prop := (∀ o k, o ≠ rd → ¬ (p ≤ o ∧ o < p + 75) → d.1 o k = X0.1 o k) ∧ ∀ o k, o ≠ p + 1 → d.2 o k = X0.2 o k
def FM (M0 d : Dt) : Prop := (∀ o k, o ≠ 167 + 3 → o ≠ 167 + 7 → ¬ (o = 167 ∧ (k = 13 ∨ (16 ≤ k ∧ k ≤ 22))) → d.1 o k = M0.1 o k) ∧ ∀ o k, o ≠ 167 + 6 → ¬ (o = 167 ∧ k = 23) → d.2 o k = M0.2 o k
def Base (rd p n c1 : Nat) (B : Nat → Nat) (X0 M0 : Dt) : Prop := ((p = 2 ∨ p = 77) ∧ 183 ≤ rd) ∧ Tks 152 B n c1 X0 ∧ (T B n c1).2.1 = 6 ∧ c1 ≤ n ∧ MTx 167 n B M0
def MOk (q : Nat → Int32) (v : Nat) : Prop := v < nN q ∨ (100 ≤ v ∧ v < 100 + nO q) ∨ (200 ≤ v ∧ v < 200 + nP q) ∨ (300 ≤ v ∧ v < 300 + nT q)
def NmR (p : Nat) (q : Nat → Int32) (dX dM : Dt) : Prop := ∃ k, k = nN q + nO q + nP q + nT q ∧ dX.1 p 3 = nI k ∧ dM.1 167 13 = nI k ∧ ∀ j, j < k → dX.2 (p + 1) j = dM.2 (167 + 6) j ∧ ∃ v, dX.1 (p + 2) j = nI v ∧ dM.1 (167 + 7) j = nI v ∧ MOk q v
def WP (q : Nat → Int32) (bt : Bool) : Prop :=
  (q 2 = nI (nN q) ∧ nN q ≤ 14) ∧ (q 3 = nI (nO q) ∧ nO q ≤ 4) ∧ (q 4 = nI (nP q) ∧ nP q ≤ 8) ∧ (q 5 = nI (nT q) ∧ nT q ≤ 10) ∧ (q 6 = nI (nB q) ∧ nB q ≤ 5) ∧
  (1 ≤ nN q → q 7 = -2 ∧ q 21 = 0) ∧ (∀ i, 1 ≤ i → i < nN q → (q (7 + i) = nI (uq q i) ∧ uq q i < i) ∧ (∃ l, 1 ≤ l ∧ l ≤ 999 ∧ q (21 + i) = nI l) ∧ ∃ s, s < 4 ∧ q (35 + i) = nI s) ∧
  (∀ i, i < nP q → (∃ a, a < nN q ∧ q (49 + 6 * i) = nI a) ∧ (∃ a, 1 ≤ a ∧ a ≤ 12 ∧ q (49 + 6 * i + 1) = nI a) ∧ (∃ a, a ≤ 9 ∧ q (49 + 6 * i + 2) = nI a) ∧ (∃ a, a ≤ 9 ∧ q (49 + 6 * i + 3) = nI a) ∧ whenOk (nO q) (q (49 + 6 * i + 4)) (q (49 + 6 * i + 5))) ∧
  (∀ i, i < nT q → (∃ a, a < 3 ∧ q (97 + 16 * i) = nI a) ∧ (∃ a, 1 ≤ a ∧ a ≤ 9 ∧ q (97 + 16 * i + 1) = nI a) ∧ (q (97 + 16 * i + 2) = nI (many q i) ∧ 2 ≤ many q i ∧ many q i ≤ 5) ∧ whenOk (nO q) (q (97 + 16 * i + 3)) (q (97 + 16 * i + 4)) ∧
    (q (97 + 16 * i + 5) = -2 ∨ ∃ a, a < nN q ∧ q (97 + 16 * i + 5) = nI a) ∧ ∀ k, k < many q i → (q (97 + 16 * i + (6 + 2 * k)) = nI (pp q i k) ∧ pp q i k < nP q) ∧ ∃ a, a < 12 ∧ q (97 + 16 * i + (6 + 2 * k) + 1) = nI a) ∧
  (∀ i, i < nB q → (∃ v, v < 2 ^ nO q ∧ q (257 + 2 * i) = nI v) ∧ ∃ a, 1 ≤ a ∧ a ≤ 99 ∧ q (257 + 2 * i + 1) = nI a) ∧
  (bt = true → (∃ a, a ≤ 99 ∧ q 0 = nI a) ∧ ∃ a, a ≤ 99 ∧ q 1 = nI a) ∧
  (bt = false → nN q = 0 ∧ nO q = 0 ∧ nP q = 0 ∧ nT q = 0 ∧ nB q = 0)
theorem WP.cs {q : Nat → Int32} {bt : Bool} (h : WP q bt) : (q 2 = nI (nN q) ∧ nN q ≤ 14) ∧ (q 3 = nI (nO q) ∧ nO q ≤ 4) ∧ (q 4 = nI (nP q) ∧ nP q ≤ 8) ∧ (q 5 = nI (nT q) ∧ nT q ≤ 10) ∧ (q 6 = nI (nB q) ∧ nB q ≤ 5) := ⟨h.1, h.2.1, h.2.2.1, h.2.2.2.1, h.2.2.2.2.1⟩
def XP (p : Nat) (bt : Bool) (d : Dt) (q : Nat → Int32) : Prop := (bt = true → d.1 p 0 = q 0 ∧ d.1 p 1 = q 1) ∧ d.1 p 2 = q 3 ∧ XTr (p + 3) d q ∧ XPl (p + 25) d q ∧ XNe (p + 32) d q ∧ XBu (p + 72) d q
def PSt (rd p n c1 : Nat) (B : Nat → Nat) (X0 M0 : Dt) (i : Nat) (bt : Bool) (w : Int32 × Int32) (q0 q : Nat → Int32) (dX dM : Dt) : Prop :=
  i ≤ c1 ∧ dX.1 rd 2 = nI i ∧ MT 167 (T B n i) dM ∧ FX rd p X0 dX ∧ FM M0 dM ∧ (dX.1 rd 3 = w.1 ∧ dX.1 rd 4 = w.2) ∧ (dX.1 rd 5 = b2i bt ∧ dM.1 167 22 = b2i bt) ∧ (∀ k, k < 267 → dM.1 (167 + 3) k = q k) ∧ XP p bt dX q0 ∧ NmR p q0 dX dM ∧ WP q0 bt
def PFl (rd p n c1 : Nat) (B : Nat → Nat) (X0 M0 : Dt) (dX dM : Dt) : Prop := ∃ j f, j ≤ c1 ∧ dX.1 rd 2 = nI j ∧ dX.1 rd 6 = nI f ∧ dM.1 167 20 = nI f ∧ dM.1 167 21 = nI (T B n j).1 ∧ FX rd p X0 dX ∧ FM M0 dM
def PTwo (rd p n c1 : Nat) (B : Nat → Nat) (X0 M0 : Dt) (X M : Option (Bool × Dt)) (P : Dt → Dt → Prop) : Prop := ∃ b dX c dM, X = some (b, dX) ∧ M = some (c, dM) ∧ ((b = true ∧ c = true ∧ P dX dM) ∨ (b = false ∧ c = false ∧ PFl rd p n c1 B X0 M0 dX dM) ∨ (b = false ∧ c = true ∧ dM.1 167 18 ≠ 59 ∧ dM.1 167 18 ≠ 0 ∧ PFl rd p n c1 B X0 M0 dX (mX12_errs 167 1 dM).2))
def PVal (rd p n c1 : Nat) (B : Nat → Nat) (X0 M0 : Dt) (X M : Option (Int32 × Dt)) (Q : Nat → Dt → Dt → Prop) : Prop := (∃ a dX dM, a < 1000 ∧ X = some (nI a, dX) ∧ M = some (nI a, dM) ∧ Q a dX dM) ∨ ∃ dX dM, X = some (-1, dX) ∧ M = some (-1, dM) ∧ PFl rd p n c1 B X0 M0 dX dM
theorem XP_congr {rd p : Nat} {bt : Bool} {d d1 : Dt} {q : Nat → Int32} (hp : (p = 2 ∨ p = 77) ∧ 183 ≤ rd) (h : XP p bt d q) (w : WP q bt) (f : ∀ o k, p ≤ o → o < p + 75 → d1.1 o k = d.1 o k) : XP p bt d1 q := by
  obtain ⟨h1, h2, ⟨t1, t2⟩, ⟨p1, p2⟩, ⟨n1, n2⟩, b1, b2⟩ := h
  obtain ⟨⟨-, a1⟩, ⟨-, a2⟩, ⟨-, a3⟩, ⟨-, a4⟩, -, a5⟩ := w.cs
  refine ⟨fun hb => ⟨by rw [f _ _ (by omega) (by omega)]; exact (h1 hb).1, by rw [f _ _ (by omega) (by omega)]; exact (h1 hb).2⟩, by rw [f _ _ (by omega) (by omega)]; exact h2, ⟨by rw [f _ _ (by omega) (by omega)]; exact t1, fun i hi => ?_⟩, ⟨by rw [f _ _ (by omega) (by omega)]; exact p1, fun i hi k hk => ?_⟩, ⟨by rw [f _ _ (by omega) (by omega)]; exact n1, fun i hi => ⟨fun k hk => ?_, fun k hk => ?_⟩⟩, by rw [f _ _ (by omega) (by omega)]; exact b1, fun i hi => ?_⟩
  · rw [f _ _ (by omega) (by omega), f _ _ (by omega) (by omega), f _ _ (by omega) (by omega)]; exact t2 i hi
  · rw [f _ _ (by omega) (by omega)]; exact p2 i hi k hk
  · rw [f _ _ (by omega) (by omega)]; exact (n2 i hi).1 k hk
  · rw [f _ _ (by omega) (by omega), f _ _ (by omega) (by omega), f _ _ (by omega) (by omega)]; exact (n2 i hi).2 k hk
  · rw [f _ _ (by omega) (by omega), f _ _ (by omega) (by omega)]; exact b2 i hi
theorem NmR_congr {p : Nat} {q : Nat → Int32} {dX dM dX1 dM1 : Dt} (h : NmR p q dX dM) (f1 : dX1.1 p 3 = dX.1 p 3) (f2 : ∀ j, dX1.1 (p + 2) j = dX.1 (p + 2) j) (f3 : ∀ j, dX1.2 (p + 1) j = dX.2 (p + 1) j) (g1 : dM1.1 167 13 = dM.1 167 13) (g2 : ∀ j, dM1.1 (167 + 7) j = dM.1 (167 + 7) j) (g3 : ∀ j, dM1.2 (167 + 6) j = dM.2 (167 + 6) j) : NmR p q dX1 dM1 := by
  obtain ⟨k, k1, k2, k3, k4⟩ := h
  refine ⟨k, k1, f1.trans k2, g1.trans k3, fun j hj => ⟨by rw [f3, g3]; exact (k4 j hj).1, ?_⟩⟩
  rw [f2, g2]; exact (k4 j hj).2
/-- the class changed in its cursor alone -/
theorem PSt_x {rd p n c1 : Nat} {B : Nat → Nat} {X0 M0 : Dt} {i : Nat} {bt : Bool} {w : Int32 × Int32} {q0 q : Nat → Int32} {dX dM : Dt} {w2 : Int32 × Int32} {j : Nat} {d1 : Dt} (hb : Base rd p n c1 B X0 M0) (h : PSt rd p n c1 B X0 M0 i bt w q0 q dX dM) (hj : j ≤ c1) (h2 : d1.1 rd 2 = nI j) (h3 : d1.1 rd 3 = w2.1 ∧ d1.1 rd 4 = w2.2) (h5 : d1.1 rd 5 = dX.1 rd 5) (f : ∀ o k, o ≠ rd → d1.1 o k = dX.1 o k) (g : d1.2 = dX.2) (ht : MT 167 (T B n j) dM) : PSt rd p n c1 B X0 M0 j bt w2 q0 q d1 dM := by
  obtain ⟨a1, a2, a3, a4, a5, a6, a7, a8, a9, a10, a11⟩ := h
  have hp := hb.1
  refine ⟨hj, h2, ht, ⟨fun o k z1 z2 => (f o k z1).trans (a4.1 o k z1 z2), fun o k z => by rw [g]; exact a4.2 o k z⟩, a5, h3, ⟨h5.trans a7.1, a7.2⟩, a8, XP_congr hp a9 a11 (fun o k z1 z2 => f o k (by omega)), NmR_congr a10 (f _ _ (by omega)) (fun j => f _ _ (by omega)) (fun j => by rw [g]) rfl (fun _ => rfl) (fun _ => rfl), a11⟩
/-- the reference changed in its slots alone -/
theorem PSt_m {rd p n c1 : Nat} {B : Nat → Nat} {X0 M0 : Dt} {i : Nat} {bt : Bool} {w : Int32 × Int32} {q0 q : Nat → Int32} {dX dM : Dt} {j : Nat} {d1 : Dt} (h : PSt rd p n c1 B X0 M0 i bt w q0 q dX dM) (ht : MT 167 (T B n j) d1) (hj : j ≤ c1) (h2 : dX.1 rd 2 = nI j) (f : ∀ o k, ¬ (o = 167 ∧ 16 ≤ k ∧ k ≤ 21) → d1.1 o k = dM.1 o k) (g : ∀ o k, ¬ (o = 167 ∧ k = 23) → d1.2 o k = dM.2 o k) : PSt rd p n c1 B X0 M0 j bt w q0 q dX d1 := by
  obtain ⟨a1, a2, a3, a4, a5, a6, a7, a8, a9, a10, a11⟩ := h
  refine ⟨hj, h2, ht, a4, ⟨fun o k z1 z2 z3 => ?_, fun o k z1 z2 => (g o k z2).trans (a5.2 o k z1 z2)⟩, a6, ⟨a7.1, by rw [f _ _ (by omega)]; exact a7.2⟩, fun k hk => by rw [f _ _ (by omega)]; exact a8 k hk, a9, NmR_congr a10 rfl (fun _ => rfl) (fun _ => rfl) (f _ _ (by omega)) (fun j => f _ _ (by omega)) (fun j => g _ _ (by omega)), a11⟩
  rw [f _ _ (by omega)]; exact a5.1 o k z1 z2 z3
theorem PSt_row {rd p n c1 : Nat} {B : Nat → Nat} {X0 M0 : Dt} {i : Nat} {bt : Bool} {w : Int32 × Int32} {q0 q : Nat → Int32} {dX dM : Dt} {A : Nat} {v : Int32} (h : PSt rd p n c1 B X0 M0 i bt w q0 q dX dM) : PSt rd p n c1 B X0 M0 i bt w q0 (upq q A v) dX (uI dM (167 + 3) A v) := by
  obtain ⟨a1, a2, ⟨m1, m2, m3, m4⟩, a4, a5, a6, a7, a8, a9, a10, a11⟩ := h
  refine ⟨a1, a2, ⟨by rw [dI_ne (by omega)]; exact m1, by rw [dI_ne (by omega)]; exact m2, by rw [dI_ne (by omega)]; exact m3, fun z => by rw [dI_ne (by omega)]; exact m4 z⟩, a4, ⟨fun o k z1 z2 z3 => ?_, a5.2⟩, a6, ⟨a7.1, by rw [dI_ne (by omega)]; exact a7.2⟩, fun k hk => ?_, a9, NmR_congr a10 rfl (fun _ => rfl) (fun _ => rfl) (dI_ne (by omega)) (fun j => dI_ne (by omega)) (fun _ => rfl), a11⟩
  · rw [dI_ne (by omega)]; exact a5.1 o k z1 z2 z3
  · by_cases e : k = A
    · subst e; rw [dI_at, up_at]
    · rw [dI_ne (by omega), up_ne e]; exact a8 k hk
theorem PFl_row {rd p n c1 : Nat} {B : Nat → Nat} {X0 M0 : Dt} {dX dM : Dt} {A : Nat} {v : Int32} (h : PFl rd p n c1 B X0 M0 dX dM) : PFl rd p n c1 B X0 M0 dX (uI dM (167 + 3) A v) := by
  obtain ⟨j, f, a1, a2, a3, a4, a5, a6, a7⟩ := h
  refine ⟨j, f, a1, a2, a3, by rw [dI_ne (by omega)]; exact a4, by rw [dI_ne (by omega)]; exact a5, a6, ⟨fun o k z1 z2 z3 => ?_, a7.2⟩⟩
  rw [dI_ne (by omega)]; exact a7.1 o k z1 z2 z3
theorem PSt_mx {rd p n c1 : Nat} {B : Nat → Nat} {X0 M0 : Dt} {i : Nat} {bt : Bool} {w : Int32 × Int32} {q0 q : Nat → Int32} {dX dM : Dt} (hb : Base rd p n c1 B X0 M0) (h : PSt rd p n c1 B X0 M0 i bt w q0 q dX dM) : MTx 167 n B dM := by
  obtain ⟨-, -, -, -, b1, b2, b3, b4⟩ := hb
  obtain ⟨-, -, -, -, a5, -⟩ := h
  exact ⟨b1, b2, by rw [a5.1 _ _ (by omega) (by omega) (by omega)]; exact b3, fun j hj => by rw [a5.1 _ _ (by omega) (by omega) (by omega)]; exact b4 j hj⟩
theorem PSt_tk {rd p n c1 : Nat} {B : Nat → Nat} {X0 M0 : Dt} {i : Nat} {bt : Bool} {w : Int32 × Int32} {q0 q : Nat → Int32} {dX dM : Dt} (hb : Base rd p n c1 B X0 M0) (h : PSt rd p n c1 B X0 M0 i bt w q0 q dX dM) : Tks 152 B n c1 dX := by
  obtain ⟨hp, ⟨b1, b2, b3⟩, -⟩ := hb
  obtain ⟨-, -, -, a4, -⟩ := h
  refine ⟨by rw [a4.1 _ _ (by omega) (by omega)]; exact b1, by rw [a4.1 _ _ (by omega) (by omega)]; exact b2, fun j hj => ?_⟩
  rw [a4.1 _ _ (by omega) (by omega), a4.1 _ _ (by omega) (by omega), a4.2 _ _ (by omega)]
  exact b3 j hj
theorem x_kind {rd p n c1 : Nat} {B : Nat → Nat} {X0 M0 : Dt} {i : Nat} {bt : Bool} {w : Int32 × Int32} {q0 q : Nat → Int32} {dX dM : Dt} (hb : Base rd p n c1 B X0 M0) (h : PSt rd p n c1 B X0 M0 i bt w q0 q dX dM) : mX8_kindOf 152 (dX.1 rd 2) dX = some (nI (T B n i).2.1) := by
  obtain ⟨t1, t2, t3⟩ := PSt_tk hb h
  have hn := hb.2.2.2.2.2.1
  have hc := hb.2.2.2.1
  have hi := h.1
  unfold mX8_kindOf
  rw [h.2.1, if_neg (nI_pos (by omega)), t1]
  by_cases e : i < c1
  · rw [if_neg (nI_ge e (by omega)), if_pos (inB_nI (by omega) (by decide)), cl_nI (by omega), (t3 i e).1]
  · obtain rfl : i = c1 := by omega
    rw [if_pos (Int32.le_refl _), hb.2.2.1]; rfl
theorem kind6 {rd p n c1 : Nat} {B : Nat → Nat} {X0 M0 : Dt} {i : Nat} {bt : Bool} {w : Int32 × Int32} {q0 q : Nat → Int32} {dX dM : Dt} (hb : Base rd p n c1 B X0 M0) (h : PSt rd p n c1 B X0 M0 i bt w q0 q dX dM) : (T B n i).2.1 ≤ 6 ∧ ((T B n i).2.1 ≠ 6 → i < c1) := by
  obtain ⟨s, s1, s2⟩ := T_tok B n i
  refine ⟨by rw [s2]; exact (tok_p s1).2.2.1, fun z => ?_⟩
  have hi := h.1
  by_cases e : i = c1
  · exact absurd hb.2.2.1 (by rw [← e]; exact z)
  · omega
theorem x_val {rd p n c1 : Nat} {B : Nat → Nat} {X0 M0 : Dt} {i : Nat} {bt : Bool} {w : Int32 × Int32} {q0 q : Nat → Int32} {dX dM : Dt} (hb : Base rd p n c1 B X0 M0) (h : PSt rd p n c1 B X0 M0 i bt w q0 q dX dM) (hk : (T B n i).2.1 = 1 ∨ (T B n i).2.1 = 2 ∨ (T B n i).2.1 = 3) : mX8_valueOf 152 (dX.1 rd 2) dX = some (L64 (T B n i).2.2.2) := by
  obtain ⟨t1, t2, t3⟩ := PSt_tk hb h
  have hn := hb.2.2.2.2.2.1
  have hc := hb.2.2.2.1
  have e := (kind6 hb h).2 (by omega)
  unfold mX8_valueOf
  rw [h.2.1, if_neg (nI_pos (by omega)), t1, if_neg (nI_ge e (by omega)), if_pos (inB_nI (by omega) (by decide)), cl_nI (by omega), (t3 i e).2.2.1 hk]
theorem x_sees {rd p n c1 : Nat} {B : Nat → Nat} {X0 M0 : Dt} {i : Nat} {bt : Bool} {w : Int32 × Int32} {q0 q : Nat → Int32} {dX dM : Dt} (hb : Base rd p n c1 B X0 M0) (h : PSt rd p n c1 B X0 M0 i bt w q0 q dX dM) {v : Nat} (hv : v ≤ 6) : mX7_sees rd 152 p (nI v) dX = some (decide ((T B n i).2.1 = v)) := by
  have k6 := (kind6 hb h).1
  unfold mX7_sees
  rw [x_kind hb h, Option.bind_some]
  by_cases e : (T B n i).2.1 = v
  · rw [if_pos (by rw [e]), decide_eq_true e]
  · rw [if_neg (fun z => e (nI_inj (by omega) (by omega) z)), decide_eq_false e]
theorem T_val {B : Nat → Nat} {n i : Nat} (hB : ∀ j, B j < 256) (hk : (T B n i).2.1 = 1 ∨ (T B n i).2.1 = 2) : 1 ≤ (T B n i).2.2.2 ∧ (T B n i).2.2.2 < 2 ^ 56 := by
  obtain ⟨s, s1, s2⟩ := T_tok B n i
  rw [s2] at hk ⊢
  obtain ⟨q1, q2, q3, q4, -⟩ := (tok_p (B := B) s1).2.2.2.2.2 hk
  rw [q4]
  refine ⟨?_, wv_56 hB (by omega) q2⟩
  have e := wv_s (B := B) (s := (tok B n s).1) (k := (tok B n s).2.2.1 - 1) (by omega)
  rw [show (tok B n s).2.2.1 - 1 + 1 = (tok B n s).2.2.1 by omega] at e
  have := isL_lt (q3 ((tok B n s).2.2.1 - 1) (by omega) (by omega))
  omega
theorem x_reads {rd p n c1 : Nat} {B : Nat → Nat} {X0 M0 : Dt} {i : Nat} {bt : Bool} {w : Int32 × Int32} {q0 q : Nat → Int32} {dX dM : Dt} (hb : Base rd p n c1 B X0 M0) (h : PSt rd p n c1 B X0 M0 i bt w q0 q dX dM) {k : Nat} (hk : k < 24) : mX7_reads rd 152 p k dX = some (wd (T B n i) k) := by
  have k6 := (kind6 hb h).1
  have hB := hb.2.2.2.2.1
  unfold mX7_reads wd
  rw [x_kind hb h, Option.bind_some]
  have go : (T B n i).2.1 = 1 ∨ (T B n i).2.1 = 2 → mX7_reads_22 dX rd 152 p k = some (decide (((T B n i).2.1 = 1 ∨ (T B n i).2.1 = 2) ∧ (T B n i).2.2.2 = litV k)) := fun h1 => by
    have hv := (T_val hB h1).2
    obtain ⟨g1, g2⟩ := packed_all k hk
    unfold mX7_reads_22
    rw [x_val hb h (by omega), Option.bind_some, g1, Option.bind_some]
    by_cases e : (T B n i).2.2.2 = litV k
    · rw [if_pos (by rw [e]), decide_eq_true ⟨h1, e⟩]
    · rw [if_neg (fun z => e (L64_inj (by omega) (by omega) z)), decide_eq_false (fun z => e z.2)]
  by_cases e1 : (T B n i).2.1 = 1
  · rw [if_pos (show nI (T B n i).2.1 = 1 by rw [e1]; rfl)]
    exact go (Or.inl e1)
  · rw [if_neg (show ¬ nI (T B n i).2.1 = 1 from fun z => e1 (nI_inj (b := 1) (by omega) (by omega) z))]
    by_cases e2 : (T B n i).2.1 = 2
    · rw [if_pos (show nI (T B n i).2.1 = 2 by rw [e2]; rfl)]
      exact go (Or.inr e2)
    · rw [if_neg (show ¬ nI (T B n i).2.1 = 2 from fun z => e2 (nI_inj (b := 2) (by omega) (by omega) z)), decide_eq_false (by omega)]
theorem m_word {rd p n c1 : Nat} {B : Nat → Nat} {X0 M0 : Dt} {i : Nat} {bt : Bool} {w : Int32 × Int32} {q0 q : Nat → Int32} {dX dM : Dt} (hb : Base rd p n c1 B X0 M0) (h : PSt rd p n c1 B X0 M0 i bt w q0 q dX dM) {k : Nat} (hk : k < 24) : mX12_isWord 167 k dM = some (wd (T B n i) k) := by
  obtain ⟨s, s1, s2⟩ := T_tok B n i
  have ht := h.2.2.1
  rw [s2] at ht ⊢
  exact M_isWord (PSt_mx hb h) s1 ht hk
theorem m_18 {rd p n c1 : Nat} {B : Nat → Nat} {X0 M0 : Dt} {i : Nat} {bt : Bool} {w : Int32 × Int32} {q0 q : Nat → Int32} {dX dM : Dt} (h : PSt rd p n c1 B X0 M0 i bt w q0 q dX dM) : dM.1 167 18 = mkd (T B n i).2.1 := h.2.2.1.2.2.1
theorem p_go {rd p n c1 : Nat} {B : Nat → Nat} {X0 M0 : Dt} {i : Nat} {bt : Bool} {w : Int32 × Int32} {q0 q : Nat → Int32} {dX dM : Dt} (hb : Base rd p n c1 B X0 M0) (h : PSt rd p n c1 B X0 M0 i bt w q0 q dX dM) (hk : (T B n i).2.1 ≠ 6) : ∃ d1, mX12_goesOn 167 dM = some d1 ∧ PSt rd p n c1 B X0 M0 (i + 1) bt w q0 q (uI dX rd 2 (nI (i + 1))) d1 ∧ d1.2 = dM.2 := by
  obtain ⟨s, s1, s2⟩ := T_tok B n i
  obtain ⟨d1, a1, a2, a3⟩ := M_goesOn (s := (T B n i).2.2.1) (by rw [s2]; exact (tok_p s1).2.1) (PSt_mx hb h) h.2.2.1.2.1
  have ic := (kind6 hb h).2 hk
  have w3 := h.2.2.2.2.2.1
  refine ⟨d1, a1, ?_, a3.2⟩
  obtain ⟨b1, b2, b3, b4, b5, b6, b7, b8, b9, b10, b11⟩ := h
  have hp := hb.1
  have f := a3.1
  refine ⟨ic, dI_at _ _ _ _, a2, ⟨fun o k z1 z2 => by rw [dI_ne (by omega)]; exact b4.1 o k z1 z2, b4.2⟩, ⟨fun o k z1 z2 z3 => by rw [f _ _ (by omega)]; exact b5.1 o k z1 z2 z3, by rw [a3.2]; exact b5.2⟩, ⟨by rw [dI_ne (by omega)]; exact b6.1, by rw [dI_ne (by omega)]; exact b6.2⟩, ⟨by rw [dI_ne (by omega)]; exact b7.1, by rw [f _ _ (by omega)]; exact b7.2⟩, fun k hk => by rw [f _ _ (by omega)]; exact b8 k hk, XP_congr hp b9 b11 (fun o k z1 z2 => dI_ne (by omega)), NmR_congr b10 (dI_ne (by omega)) (fun j => dI_ne (by omega)) (fun j => rfl) (f _ _ (by omega)) (fun j => f _ _ (by omega)) (fun j => by rw [a3.2]), b11⟩
theorem p_err {rd p n c1 : Nat} {B : Nat → Nat} {X0 M0 : Dt} {i : Nat} {bt : Bool} {w : Int32 × Int32} {q0 q : Nat → Int32} {dX dM : Dt} (h : PSt rd p n c1 B X0 M0 i bt w q0 q dX dM) (f : Nat) : PFl rd p n c1 B X0 M0 (uI dX rd 6 (nI f)) (mX12_errs 167 (nI f) dM).2 := by
  obtain ⟨b1, b2, b3, b4, b5, -⟩ := h
  refine ⟨i, f, b1, by rw [dI_ne (by omega)]; exact b2, dI_at _ _ _ _, ?_, ?_, ⟨fun o k z1 z2 => by rw [dI_ne (by omega)]; exact b4.1 o k z1 z2, b4.2⟩, ⟨fun o k z1 z2 z3 => ?_, b5.2⟩⟩
  · show (uI (uI dM 167 20 (nI f)) 167 21 ((uI dM 167 20 (nI f)).1 167 16)).1 167 20 = _
    rw [dI_ne (by omega), dI_at]
  · show (uI (uI dM 167 20 (nI f)) 167 21 ((uI dM 167 20 (nI f)).1 167 16)).1 167 21 = _
    rw [dI_at, dI_ne (by omega)]; exact b3.1
  · show (uI (uI dM 167 20 (nI f)) 167 21 ((uI dM 167 20 (nI f)).1 167 16)).1 o k = _
    rw [dI_ne (by omega), dI_ne (by omega)]; exact b5.1 o k z1 z2 z3
