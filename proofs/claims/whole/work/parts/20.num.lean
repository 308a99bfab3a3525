/-! numbers: small ones as nI, bits, loops -/
theorem lit_nI (n : Nat) : (OfNat.ofNat n : Int32) = nI n := rfl
theorem cl_nI {n : Nat} (h : n < 2 ^ 31) : (nI n).toNatClampNeg = n := nI_clamp h
theorem inB_nI {j n : Nat} (h : j < n) (hn : n < 2 ^ 31) : inB (nI j) n = true := by
  have hj : j < 2 ^ 31 := Nat.lt_trans h hn
  simp only [inB, nI_pos hj, nI_clamp hj, h, decide_false, decide_true, Bool.not_false, Bool.and_self]
theorem nI_lt0 {j : Nat} (h : j < 2 ^ 31) : ¬ nI j < 0 := nI_pos h
theorem nI_inj {a b : Nat} (ha : a < 2 ^ 31) (hb : b < 2 ^ 31) (h : nI a = nI b) : a = b := (nI_eq ha hb).mp h
theorem nI_sub {a b : Nat} (h : b ≤ a) : nI a - nI b = nI (a - b) := pk_sub h
theorem nI_pre {a : Nat} (h : 0 < a) : nI a + (-1) = nI (a - 1) := by
  obtain ⟨b, rfl⟩ : ∃ b, a = b + 1 := ⟨a - 1, by omega⟩
  exact pk_m1 b
/-- a loop that runs i up to n, by a step f -/
def fo {α : Type} (f : Nat → α → α) : Nat → Nat → α → α
  | _, 0, a => a
  | i, k + 1, a => fo f (i + 1) k (f i a)
theorem fo_last {α : Type} (f : Nat → α → α) : ∀ (k i : Nat) (a : α), fo f i (k + 1) a = f (i + k) (fo f i k a) := by
  intro k
  induction k with
  | zero => intro i a; rfl
  | succ k ih => intro i a; show fo f (i + 1) (k + 1) (f i a) = _; rw [ih]; show _ = f (i + (k + 1)) (fo f (i + 1) k (f i a)); congr 1; omega
theorem fo_congr {α : Type} {f g : Nat → α → α} : ∀ (k i : Nat) (a : α), (∀ j, i ≤ j → j < i + k → ∀ b, f j b = g j b) → fo f i k a = fo g i k a := by
  intro k
  induction k with
  | zero => intro i a _; rfl
  | succ k ih =>
    intro i a h
    show fo f (i + 1) k (f i a) = fo g (i + 1) k (g i a)
    rw [h i (Nat.le_refl _) (by omega), ih (i + 1) _ (fun j h1 h2 b => h j (by omega) (by omega) b)]
theorem fo_ind {α : Type} {f : Nat → α → α} (P : Nat → α → Prop) : ∀ (k i : Nat) (a : α), P i a → (∀ j b, i ≤ j → j < i + k → P j b → P (j + 1) (f j b)) → P (i + k) (fo f i k a) := by
  intro k
  induction k with
  | zero => intro i a h _; exact h
  | succ k ih =>
    intro i a h hs
    have := ih (i + 1) (f i a) (hs i a (Nat.le_refl _) (by omega) h) (fun j b h1 h2 hp => hs j b (by omega) (by omega) hp)
    rw [show i + (k + 1) = i + 1 + k by omega]
    exact this
theorem loop_fo {α β : Type} (L : Nat → Int32 → α → β) (f : Nat → α → α) (fin : α → β) (n : Nat) (P : Nat → α → Prop)
    (hs : ∀ fuel i a, i < n → P i a → L (fuel + 1) (nI i) a = L fuel (nI (i + 1)) (f i a)) (hP : ∀ i a, i < n → P i a → P (i + 1) (f i a)) (he : ∀ fuel a, P n a → L (fuel + 1) (nI n) a = fin a) :
    ∀ (k i : Nat) (a : α) (fuel : Nat), i + k = n → P i a → k < fuel → L fuel (nI i) a = fin (fo f i k a) := by
  intro k
  induction k with
  | zero =>
    intro i a fuel hi hp hf
    obtain ⟨g, rfl⟩ : ∃ g, fuel = g + 1 := ⟨fuel - 1, by omega⟩
    have : i = n := by omega
    subst this
    exact he g a hp
  | succ k ih =>
    intro i a fuel hi hp hf
    obtain ⟨g, rfl⟩ : ∃ g, fuel = g + 1 := ⟨fuel - 1, by omega⟩
    rw [hs g i a (by omega) hp]
    exact ih (i + 1) (f i a) g (by omega) (hP i a (by omega) hp) (by omega)
/-- a loop with an end ahead of its end -/
def fe {α β : Type} (g : Nat → α → β ⊕ α) (fin : α → β) : Nat → Nat → α → β
  | _, 0, a => fin a
  | i, k + 1, a => match g i a with
    | .inl r => r
    | .inr b => fe g fin (i + 1) k b
theorem loop_fe {α β : Type} (L : Nat → Int32 → α → β) (g : Nat → α → β ⊕ α) (fin : α → β) (n : Nat) (P : Nat → α → Prop)
    (hs : ∀ fuel i a, i < n → P i a → L (fuel + 1) (nI i) a = match g i a with | .inl r => r | .inr b => L fuel (nI (i + 1)) b) (hP : ∀ i a b, i < n → P i a → g i a = .inr b → P (i + 1) b) (he : ∀ fuel a, P n a → L (fuel + 1) (nI n) a = fin a) :
    ∀ (k i : Nat) (a : α) (fuel : Nat), i + k = n → P i a → k < fuel → L fuel (nI i) a = fe g fin i k a := by
  intro k
  induction k with
  | zero =>
    intro i a fuel hi hp hf
    obtain ⟨g, rfl⟩ : ∃ g, fuel = g + 1 := ⟨fuel - 1, by omega⟩
    have : i = n := by omega
    subst this
    exact he g a hp
  | succ k ih =>
    intro i a fuel hi hp hf
    obtain ⟨f, rfl⟩ : ∃ g, fuel = g + 1 := ⟨fuel - 1, by omega⟩
    rw [hs f i a (by omega) hp]
    show _ = (match g i a with | .inl r => r | .inr b => fe g fin (i + 1) k b)
    cases hg : g i a with
    | inl r => rfl
    | inr b => exact ih (i + 1) b f (by omega) (hP i a b (by omega) hp hg) (by omega)
theorem fuel_big {k : Nat} (h : k < 1000000) : k < FUEL := h
-- bits
def bit (v : Int32) (j : Nat) : Bool := v.toBitVec.getLsbD j
theorem sh_amt : ∀ j, j < 32 → ((nI j &&& 31).toBitVec.smod 32) = BitVec.ofNat 32 j := by decide +kernel
theorem bit_ext {x z : Int32} (h : ∀ j, j < 32 → bit x j = bit z j) : x = z := by
  apply Int32.toBitVec_inj.mp
  exact BitVec.eq_of_getLsbD_eq h
theorem bit_or (x z : Int32) (j : Nat) : bit (x ||| z) j = (bit x j || bit z j) := by simp [bit]
theorem bit_0 (j : Nat) : bit 0 j = false := by simp [bit]
theorem bit_shl1 {i j : Nat} (hi : i < 32) (hj : j < 32) : bit ((1 : Int32) <<< (nI i &&& 31)) j = decide (i = j) := by
  have : ∀ i, i < 32 → ∀ j, j < 32 → bit ((1 : Int32) <<< (nI i &&& 31)) j = decide (i = j) := by decide +kernel
  exact this i hi j hj
theorem bit_has {v : Int32} {j : Nat} (hj : j < 32) : ((v >>> (nI j &&& 31)) &&& (1 : Int32) = (1 : Int32)) ↔ bit v j = true := by
  rw [← Int32.toBitVec_inj, Int32.toBitVec_and, Int32.toBitVec_shiftRight, sh_amt j hj]
  show (BitVec.sshiftRight' v.toBitVec (BitVec.ofNat 32 j)) &&& 1#32 = 1#32 ↔ _
  rw [BitVec.and_one_eq_setWidth_ofBool_getLsbD]
  have h1 : (BitVec.sshiftRight' v.toBitVec (BitVec.ofNat 32 j)).getLsbD 0 = v.toBitVec.getLsbD j := by
    rw [BitVec.sshiftRight_eq', BitVec.getLsbD_sshiftRight]
    simp [Nat.mod_eq_of_lt (show j < 4294967296 by omega), hj]
  rw [h1]
  unfold bit
  cases v.toBitVec.getLsbD j <;> decide
theorem has10 {v : Int32} {j : Nat} (hj : j < 32) : mX10_has v (nI j) = bit v j := by
  unfold mX10_has
  by_cases h : bit v j = true
  · rw [if_pos ((bit_has hj).mpr h), h]
  · rw [if_neg (fun q => h ((bit_has hj).mp q))]; simpa using h
theorem has12 {v : Int32} {j : Nat} (hj : j < 32) : mX12_has v (nI j) = bit v j := by
  unfold mX12_has
  by_cases h : bit v j = true
  · rw [if_pos ((bit_has hj).mpr h), h]
  · rw [if_neg (fun q => h ((bit_has hj).mp q))]; simpa using h
/-- the set of those i < n with c i -/
def bset (c : Nat → Bool) (n : Nat) : Int32 := fo (fun i b => if c i = true then b ||| ((1 : Int32) <<< (nI i &&& 31)) else b) 0 n 0
theorem bit_bset {c : Nat → Bool} {n j : Nat} (hn : n ≤ 32) (hj : j < 32) : bit (bset c n) j = (decide (j < n) && c j) := by
  have h := fo_ind (f := fun i b => if c i = true then b ||| ((1 : Int32) <<< (nI i &&& 31)) else b) (fun m b => m ≤ 32 → bit b j = (decide (j < m) && c j)) n 0 0 (fun _ => by simp [bit_0])
    (fun i b h1 h2 hp hm => by
      have hp := hp (by omega)
      by_cases hc : c i = true
      · simp only [hc, if_true]
        rw [bit_or, bit_shl1 (by omega) hj, hp]
        by_cases e : i = j
        · subst e; simp [hc]
        · have : (decide (j < i + 1)) = decide (j < i) := by simp; omega
          rw [this]; simp [e]
      · show bit (if c i = true then b ||| ((1 : Int32) <<< (nI i &&& 31)) else b) j = _
        rw [if_neg hc, hp]
        by_cases e : i = j
        · subst e; simp [hc]
        · have : (decide (j < i + 1)) = decide (j < i) := by simp; omega
          rw [this])
  rw [Nat.zero_add] at h
  exact h hn
