/-! constructors -/
def Grow (o sz : Nat) (σ σ1 : Sg) : Prop := σ1.1 = o + sz ∧ (∀ i, i ≤ o → σ1.2.1 i = σ.2.1 i) ∧ ∀ i, i < o → ∀ k, σ1.2.2 i k = σ.2.2 i k
/-- object o is being made: n made since, itself included; fields (place, number from o, kind); K of all made -/
def Bl (o n : Nat) (σ0 σ : Sg) (L : List (Nat × Nat × Nat × Nat)) (K : Sg → Prop) : Prop :=
  0 < n ∧ σ.1 = o + n ∧ (∀ i, i ≤ o → σ.2.1 i = σ0.2.1 i) ∧ (∀ i, i < o → ∀ k, σ.2.2 i k = σ0.2.2 i k) ∧ (∀ e ∈ L, 0 < e.2.1 ∧ e.2.1 < n ∧ σ.2.2 o e.1 = some (o + e.2.1) ∧ σ.2.1 (o + e.2.1) = some (e.2.2.1, e.2.2.2)) ∧ ∀ σ1 : Sg, (∀ i, o < i → i < o + n → σ1.2.1 i = σ.2.1 i ∧ ∀ k, σ1.2.2 i k = σ.2.2 i k) → K σ1
theorem snew_at (σ : Sg) (q : Nat × Nat) : (snew σ q).2.1 σ.1 = some q := if_pos rfl
theorem snew_s {σ : Sg} {q : Nat × Nat} {i : Nat} (h : i ≠ σ.1) : (snew σ q).2.1 i = σ.2.1 i := if_neg h
theorem uR_is (σ : Sg) (o k : Nat) (r : Option Nat) : (uR σ o k r).2.2 o k = r := if_pos ⟨rfl, rfl⟩
theorem uR_no {σ : Sg} {o k : Nat} {r : Option Nat} {i j : Nat} (h : ¬ (i = o ∧ j = k)) : (uR σ o k r).2.2 i j = σ.2.2 i j := if_neg h
theorem Bl_0 {o : Nat} {σ : Sg} (h : σ.1 = o + 1) : Bl o 1 σ σ [] (fun _ => True) := ⟨Nat.one_pos, h, fun _ _ => rfl, fun _ _ _ => rfl, fun e he => absurd he List.not_mem_nil, fun _ _ => trivial⟩
theorem Bl.grow {o n : Nat} {σ0 σ : Sg} {L : List (Nat × Nat × Nat × Nat)} {K : Sg → Prop} (b : Bl o n σ0 σ L K) : Grow o n σ0 σ := ⟨b.2.1, b.2.2.1, b.2.2.2.1⟩
theorem Bl.cls {o n : Nat} {σ0 σ : Sg} {L : List (Nat × Nat × Nat × Nat)} {K : Sg → Prop} {q : Nat × Nat} (b : Bl o n σ0 σ L K) (h : σ0.2.1 o = some q) : σ.2.1 o = some q := (b.2.2.1 o (Nat.le_refl _)).trans h
theorem Bl.scls {o n : Nat} {σ0 σ : Sg} {L : List (Nat × Nat × Nat × Nat)} {K : Sg → Prop} {q : Nat × Nat} (b : Bl o n σ0 σ L K) (h : σ0.2.1 o = some q) (q1 : Nat × Nat) : (snew σ q1).2.1 o = some q := by
  have := b.2.1
  have := b.1
  rw [snew_s (by omega)]; exact b.cls h
theorem Bl.mcls {o n : Nat} {σ0 σ : Sg} {L : List (Nat × Nat × Nat × Nat)} {K : Sg → Prop} {q : Nat × Nat} (b : Bl o n σ0 σ L K) (h : σ0.2.1 o = some q) (N M : Nat) : (smul σ N M).2.1 o = some q := by
  have h1 := b.2.1
  have h2 := b.1
  show (if o = σ.1 then some (4, N) else if σ.1 < o ∧ o < σ.1 + 1 + N then some (1, M) else σ.2.1 o) = _
  rw [if_neg (by omega), if_neg (by omega)]; exact b.cls h
theorem Bl.gcls {o n sz : Nat} {σ0 σ τ : Sg} {L : List (Nat × Nat × Nat × Nat)} {K : Sg → Prop} {q q1 : Nat × Nat} (b : Bl o n σ0 σ L K) (h : σ0.2.1 o = some q) (g : Grow σ.1 sz (snew σ q1) τ) : τ.2.1 o = some q := by
  have h1 := b.2.1
  rw [g.2.1 o (by omega)]; exact b.scls h q1
theorem Bl_new {o n : Nat} {σ0 σ : Sg} {L : List (Nat × Nat × Nat × Nat)} {K : Sg → Prop} (b : Bl o n σ0 σ L K) {k : Nat} {q : Nat × Nat} (hk : ∀ e ∈ L, e.1 ≠ k) : Bl o (n + 1) σ0 (uR (snew σ q) o k (some σ.1)) ((k, n, q.1, q.2) :: L) K := by
  obtain ⟨hn, h1, h2, h3, h4, h5⟩ := b
  refine ⟨by omega, by show σ.1 + 1 = _; omega, fun i hi => ?_, fun i hi j => ?_, fun e he => ?_, fun s hs => h5 s fun i z1 z2 => ?_⟩
  · show (snew σ q).2.1 i = _
    rw [snew_s (by omega)]; exact h2 i hi
  · rw [uR_no (by omega)]; exact h3 i hi j
  · rcases List.mem_cons.mp he with rfl | he
    · refine ⟨hn, Nat.lt_succ_self _, by rw [uR_is, h1], ?_⟩
      show (snew σ q).2.1 (o + n) = _
      rw [← h1, snew_at]
    · obtain ⟨z1, z2, z3, z4⟩ := h4 e he
      have := hk e he
      refine ⟨z1, by omega, by rw [uR_no (by omega)]; exact z3, ?_⟩
      show (snew σ q).2.1 (o + e.2.1) = _
      rw [snew_s (by omega)]; exact z4
  · obtain ⟨y1, y2⟩ := hs i z1 (by omega)
    refine ⟨y1.trans (snew_s (by omega)), fun j => (y2 j).trans (uR_no (by omega))⟩
theorem Bl_mul {o n : Nat} {σ0 σ : Sg} {L : List (Nat × Nat × Nat × Nat)} {K : Sg → Prop} (b : Bl o n σ0 σ L K) {k N M : Nat} (hk : ∀ e ∈ L, e.1 ≠ k) : Bl o (n + 1 + N) σ0 (uR (smul σ N M) o k (some σ.1)) ((k, n, 4, N) :: L) (fun s => K s ∧ ∀ j, j < N → s.2.2 (o + n) j = some (o + n + 1 + j) ∧ s.2.1 (o + n + 1 + j) = some (1, M)) := by
  obtain ⟨hn, h1, h2, h3, h4, h5⟩ := b
  have mk : ∀ i, (smul σ N M).2.1 i = if i = σ.1 then some (4, N) else if σ.1 < i ∧ i < σ.1 + 1 + N then some (1, M) else σ.2.1 i := fun _ => rfl
  have mr : ∀ i j, (smul σ N M).2.2 i j = if i = σ.1 ∧ j < N then some (σ.1 + 1 + j) else σ.2.2 i j := fun _ _ => rfl
  have uk : ∀ i, (uR (smul σ N M) o k (some σ.1)).2.1 i = (smul σ N M).2.1 i := fun _ => rfl
  refine ⟨by omega, by show σ.1 + 1 + N = _; omega, fun i hi => ?_, fun i hi j => ?_, fun e he => ?_, fun s hs => ⟨h5 s fun i z1 z2 => ?_, fun j hj => ⟨?_, ?_⟩⟩⟩
  · rw [uk, mk, if_neg (by omega), if_neg (by omega)]; exact h2 i hi
  · rw [uR_no (by omega), mr, if_neg (by omega)]; exact h3 i hi j
  · rcases List.mem_cons.mp he with rfl | he
    · refine ⟨hn, by show n < n + 1 + N; omega, by rw [uR_is, h1], ?_⟩
      show (smul σ N M).2.1 (o + n) = _
      rw [mk, if_pos h1.symm]
    · obtain ⟨z1, z2, z3, z4⟩ := h4 e he
      have := hk e he
      refine ⟨z1, by omega, by rw [uR_no (by omega), mr, if_neg (by omega)]; exact z3, ?_⟩
      rw [uk, mk, if_neg (by omega), if_neg (by omega)]; exact z4
  · obtain ⟨y1, y2⟩ := hs i z1 (by omega)
    refine ⟨y1.trans ?_, fun j => (y2 j).trans ?_⟩
    · rw [uk, mk, if_neg (by omega), if_neg (by omega)]
    · rw [uR_no (by omega), mr, if_neg (by omega)]
  · rw [(hs (o + n) (by omega) (by omega)).2 j, uR_no (by omega), mr, if_pos ⟨h1.symm, hj⟩, h1]
  · rw [(hs (o + n + 1 + j) (by omega) (by omega)).1, uk, mk, if_neg (by omega), if_pos (by omega)]
theorem Bl_sub {P : Sg → Nat → Prop} {o n sz c2 : Nat} {σ0 σ τ : Sg} {L : List (Nat × Nat × Nat × Nat)} {K : Sg → Prop} (b : Bl o n σ0 σ L K) (g : Grow σ.1 sz (snew σ (0, c2)) τ) (hP : P τ σ.1) (kp : ∀ s s1 : Sg, P s (o + n) → (∀ i, o + n ≤ i → i < o + n + sz → s1.2.1 i = s.2.1 i ∧ ∀ k, s1.2.2 i k = s.2.2 i k) → P s1 (o + n)) {k : Nat} (hk : ∀ e ∈ L, e.1 ≠ k) (hsz : 0 < sz) : Bl o (n + sz) σ0 (uR τ o k (some σ.1)) ((k, n, 0, c2) :: L) (fun s => K s ∧ P s (o + n)) := by
  obtain ⟨hn, h1, h2, h3, h4, h5⟩ := b
  obtain ⟨g1, g2, g3⟩ := g
  have uk : ∀ i, (uR τ o k (some σ.1)).2.1 i = τ.2.1 i := fun _ => rfl
  have tk : ∀ i, i < σ.1 → τ.2.1 i = σ.2.1 i := fun i hi => (g2 i (by omega)).trans (snew_s (by omega))
  have tr : ∀ i, i < σ.1 → ∀ j, τ.2.2 i j = σ.2.2 i j := fun i hi j => g3 i hi j
  rw [h1] at hP
  refine ⟨by omega, by show τ.1 = _; omega, fun i hi => ?_, fun i hi j => ?_, fun e he => ?_, fun s hs => ⟨h5 s fun i z1 z2 => ?_, kp τ s hP fun i z1 z2 => ?_⟩⟩
  · rw [uk, tk i (by omega)]; exact h2 i hi
  · rw [uR_no (by omega), tr i (by omega)]; exact h3 i hi j
  · rcases List.mem_cons.mp he with rfl | he
    · refine ⟨hn, by show n < n + sz; omega, by rw [uR_is, h1], ?_⟩
      show τ.2.1 (o + n) = _
      rw [← h1, g2 _ (Nat.le_refl _), snew_at]
    · obtain ⟨z1, z2, z3, z4⟩ := h4 e he
      have := hk e he
      refine ⟨z1, by omega, by rw [uR_no (by omega), tr o (by omega)]; exact z3, ?_⟩
      rw [uk, tk _ (by omega)]; exact z4
  · obtain ⟨y1, y2⟩ := hs i z1 (by omega)
    refine ⟨y1.trans ?_, fun j => (y2 j).trans ?_⟩
    · rw [uk, tk _ (by omega)]
    · rw [uR_no (by omega), tr _ (by omega)]
  · obtain ⟨y1, y2⟩ := hs i (by omega) (by omega)
    exact ⟨y1, fun j => (y2 j).trans (uR_no (by omega))⟩
theorem L0_kp {σ σ1 : Sg} {o : Nat} (h : L0 σ o) (f : ∀ i, o ≤ i → i < o + 4 → σ1.2.1 i = σ.2.1 i ∧ ∀ k, σ1.2.2 i k = σ.2.2 i k) : L0 σ1 o := by
  obtain ⟨h0, r1, s1, r2, s2, r3, s3⟩ := h
  exact ⟨by rw [(f _ (by omega) (by omega)).1]; exact h0, by rw [(f _ (by omega) (by omega)).2]; exact r1, by rw [(f _ (by omega) (by omega)).1]; exact s1, by rw [(f _ (by omega) (by omega)).2]; exact r2, by rw [(f _ (by omega) (by omega)).1]; exact s2, by rw [(f _ (by omega) (by omega)).2]; exact r3, by rw [(f _ (by omega) (by omega)).1]; exact s3⟩
theorem L1_kp {σ σ1 : Sg} {o : Nat} (h : L1 σ o) (f : ∀ i, o ≤ i → i < o + 3 → σ1.2.1 i = σ.2.1 i ∧ ∀ k, σ1.2.2 i k = σ.2.2 i k) : L1 σ1 o := by
  obtain ⟨h0, r1, s1, r2, s2⟩ := h
  exact ⟨by rw [(f _ (by omega) (by omega)).1]; exact h0, by rw [(f _ (by omega) (by omega)).2]; exact r1, by rw [(f _ (by omega) (by omega)).1]; exact s1, by rw [(f _ (by omega) (by omega)).2]; exact r2, by rw [(f _ (by omega) (by omega)).1]; exact s2⟩
theorem L2_kp {σ σ1 : Sg} {o : Nat} (h : L2 σ o) (f : ∀ i, o ≤ i → i < o + 4 → σ1.2.1 i = σ.2.1 i ∧ ∀ k, σ1.2.2 i k = σ.2.2 i k) : L2 σ1 o := by
  obtain ⟨h0, r1, s1, r2, s2, r3, s3⟩ := h
  exact ⟨by rw [(f _ (by omega) (by omega)).1]; exact h0, by rw [(f _ (by omega) (by omega)).2]; exact r1, by rw [(f _ (by omega) (by omega)).1]; exact s1, by rw [(f _ (by omega) (by omega)).2]; exact r2, by rw [(f _ (by omega) (by omega)).1]; exact s2, by rw [(f _ (by omega) (by omega)).2]; exact r3, by rw [(f _ (by omega) (by omega)).1]; exact s3⟩
theorem L3_kp {σ σ1 : Sg} {o : Nat} (h : L3 σ o) (f : ∀ i, o ≤ i → i < o + 3 → σ1.2.1 i = σ.2.1 i ∧ ∀ k, σ1.2.2 i k = σ.2.2 i k) : L3 σ1 o := by
  obtain ⟨h0, r1, s1, r2, s2⟩ := h
  exact ⟨by rw [(f _ (by omega) (by omega)).1]; exact h0, by rw [(f _ (by omega) (by omega)).2]; exact r1, by rw [(f _ (by omega) (by omega)).1]; exact s1, by rw [(f _ (by omega) (by omega)).2]; exact r2, by rw [(f _ (by omega) (by omega)).1]; exact s2⟩
theorem L5_kp {σ σ1 : Sg} {o : Nat} (h : L5 σ o) (f : ∀ i, o ≤ i → i < o + 40 → σ1.2.1 i = σ.2.1 i ∧ ∀ k, σ1.2.2 i k = σ.2.2 i k) : L5 σ1 o := by
  obtain ⟨h0, r1, s1, r2, s2, r3, s3, r4, s4, r5, s5, r6, s6, r7, s7, g7, r8, s8, g8, r9, s9, g9⟩ := h
  exact ⟨by rw [(f _ (by omega) (by omega)).1]; exact h0, by rw [(f _ (by omega) (by omega)).2]; exact r1, by rw [(f _ (by omega) (by omega)).1]; exact s1, by rw [(f _ (by omega) (by omega)).2]; exact r2, by rw [(f _ (by omega) (by omega)).1]; exact s2, by rw [(f _ (by omega) (by omega)).2]; exact r3, by rw [(f _ (by omega) (by omega)).1]; exact s3, by rw [(f _ (by omega) (by omega)).2]; exact r4, by rw [(f _ (by omega) (by omega)).1]; exact s4, by rw [(f _ (by omega) (by omega)).2]; exact r5, by rw [(f _ (by omega) (by omega)).1]; exact s5, by rw [(f _ (by omega) (by omega)).2]; exact r6, by rw [(f _ (by omega) (by omega)).1]; exact s6, by rw [(f _ (by omega) (by omega)).2]; exact r7, by rw [(f _ (by omega) (by omega)).1]; exact s7, fun j hj => ⟨by rw [(f _ (by omega) (by omega)).2]; exact (g7 j hj).1, by rw [(f _ (by omega) (by omega)).1]; exact (g7 j hj).2⟩, by rw [(f _ (by omega) (by omega)).2]; exact r8, by rw [(f _ (by omega) (by omega)).1]; exact s8, fun j hj => ⟨by rw [(f _ (by omega) (by omega)).2]; exact (g8 j hj).1, by rw [(f _ (by omega) (by omega)).1]; exact (g8 j hj).2⟩, by rw [(f _ (by omega) (by omega)).2]; exact r9, by rw [(f _ (by omega) (by omega)).1]; exact s9, fun j hj => ⟨by rw [(f _ (by omega) (by omega)).2]; exact (g9 j hj).1, by rw [(f _ (by omega) (by omega)).1]; exact (g9 j hj).2⟩⟩
theorem L6_kp {σ σ1 : Sg} {o : Nat} (h : L6 σ o) (f : ∀ i, o ≤ i → i < o + 7 → σ1.2.1 i = σ.2.1 i ∧ ∀ k, σ1.2.2 i k = σ.2.2 i k) : L6 σ1 o := by
  obtain ⟨h0, r1, s1, r2, s2, r3, s3, r4, s4, r5, s5, r6, s6⟩ := h
  exact ⟨by rw [(f _ (by omega) (by omega)).1]; exact h0, by rw [(f _ (by omega) (by omega)).2]; exact r1, by rw [(f _ (by omega) (by omega)).1]; exact s1, by rw [(f _ (by omega) (by omega)).2]; exact r2, by rw [(f _ (by omega) (by omega)).1]; exact s2, by rw [(f _ (by omega) (by omega)).2]; exact r3, by rw [(f _ (by omega) (by omega)).1]; exact s3, by rw [(f _ (by omega) (by omega)).2]; exact r4, by rw [(f _ (by omega) (by omega)).1]; exact s4, by rw [(f _ (by omega) (by omega)).2]; exact r5, by rw [(f _ (by omega) (by omega)).1]; exact s5, by rw [(f _ (by omega) (by omega)).2]; exact r6, by rw [(f _ (by omega) (by omega)).1]; exact s6⟩
theorem L8_kp {σ σ1 : Sg} {o : Nat} (h : L8 σ o) (f : ∀ i, o ≤ i → i < o + 4 → σ1.2.1 i = σ.2.1 i ∧ ∀ k, σ1.2.2 i k = σ.2.2 i k) : L8 σ1 o := by
  obtain ⟨h0, r1, s1, r2, s2, r3, s3⟩ := h
  exact ⟨by rw [(f _ (by omega) (by omega)).1]; exact h0, by rw [(f _ (by omega) (by omega)).2]; exact r1, by rw [(f _ (by omega) (by omega)).1]; exact s1, by rw [(f _ (by omega) (by omega)).2]; exact r2, by rw [(f _ (by omega) (by omega)).1]; exact s2, by rw [(f _ (by omega) (by omega)).2]; exact r3, by rw [(f _ (by omega) (by omega)).1]; exact s3⟩
theorem L9_kp {σ σ1 : Sg} {o : Nat} (h : L9 σ o) (f : ∀ i, o ≤ i → i < o + 22 → σ1.2.1 i = σ.2.1 i ∧ ∀ k, σ1.2.2 i k = σ.2.2 i k) : L9 σ1 o := by
  obtain ⟨h0, r1, s1, r2, s2, r3, s3, r4, s4, r5, s5, r6, s6, r7, s7, g7⟩ := h
  exact ⟨by rw [(f _ (by omega) (by omega)).1]; exact h0, by rw [(f _ (by omega) (by omega)).2]; exact r1, by rw [(f _ (by omega) (by omega)).1]; exact s1, by rw [(f _ (by omega) (by omega)).2]; exact r2, by rw [(f _ (by omega) (by omega)).1]; exact s2, by rw [(f _ (by omega) (by omega)).2]; exact r3, by rw [(f _ (by omega) (by omega)).1]; exact s3, by rw [(f _ (by omega) (by omega)).2]; exact r4, by rw [(f _ (by omega) (by omega)).1]; exact s4, by rw [(f _ (by omega) (by omega)).2]; exact r5, by rw [(f _ (by omega) (by omega)).1]; exact s5, by rw [(f _ (by omega) (by omega)).2]; exact r6, by rw [(f _ (by omega) (by omega)).1]; exact s6, by rw [(f _ (by omega) (by omega)).2]; exact r7, by rw [(f _ (by omega) (by omega)).1]; exact s7, fun j hj => ⟨by rw [(f _ (by omega) (by omega)).2]; exact (g7 j hj).1, by rw [(f _ (by omega) (by omega)).1]; exact (g7 j hj).2⟩⟩
theorem L4_kp {σ σ1 : Sg} {o : Nat} (h : L4 σ o) (f : ∀ i, o ≤ i → i < o + 75 → σ1.2.1 i = σ.2.1 i ∧ ∀ k, σ1.2.2 i k = σ.2.2 i k) : L4 σ1 o := by
  obtain ⟨h0, r1, s1, r2, s2, r3, s3, r4, s4, r5, s5, r6, s6⟩ := h
  exact ⟨by rw [(f _ (by omega) (by omega)).1]; exact h0, by rw [(f _ (by omega) (by omega)).2]; exact r1, by rw [(f _ (by omega) (by omega)).1]; exact s1, by rw [(f _ (by omega) (by omega)).2]; exact r2, by rw [(f _ (by omega) (by omega)).1]; exact s2, by rw [(f _ (by omega) (by omega)).2]; exact r3, L9_kp s3 (fun i z1 z2 => f i (by omega) (by omega)), by rw [(f _ (by omega) (by omega)).2]; exact r4, L6_kp s4 (fun i z1 z2 => f i (by omega) (by omega)), by rw [(f _ (by omega) (by omega)).2]; exact r5, L5_kp s5 (fun i z1 z2 => f i (by omega) (by omega)), by rw [(f _ (by omega) (by omega)).2]; exact r6, L1_kp s6 (fun i z1 z2 => f i (by omega) (by omega))⟩
