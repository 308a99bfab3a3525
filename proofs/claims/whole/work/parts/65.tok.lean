/-! tokens of a text, as a function of its bytes -/
def runF (P : Nat → Bool) (B : Nat → Nat) (n : Nat) : Nat → Nat → Nat
  | 0, k => k
  | f + 1, k => if k < n ∧ P (B k) = true then runF P B n f (k + 1) else k
def run (P : Nat → Bool) (B : Nat → Nat) (n k : Nat) : Nat := runF P B n (n - k) k
theorem run_stop {P : Nat → Bool} {B : Nat → Nat} {n k : Nat} (h : n ≤ k) : run P B n k = k := by
  unfold run
  rw [show n - k = 0 by omega]; rfl
theorem run_step {P : Nat → Bool} {B : Nat → Nat} {n k : Nat} (h : k < n) (hp : P (B k) = true) : run P B n k = run P B n (k + 1) := by
  unfold run
  rw [show n - k = (n - (k + 1)) + 1 by omega]
  show (if k < n ∧ P (B k) = true then runF P B n (n - (k + 1)) (k + 1) else k) = _
  rw [if_pos ⟨h, hp⟩]
theorem run_no {P : Nat → Bool} {B : Nat → Nat} {n k : Nat} (h : k < n) (hp : P (B k) = false) : run P B n k = k := by
  unfold run
  rw [show n - k = (n - (k + 1)) + 1 by omega]
  show (if k < n ∧ P (B k) = true then runF P B n (n - (k + 1)) (k + 1) else k) = _
  rw [if_neg (fun z => by rw [hp] at z; cases z.2)]
theorem run_ge {P : Nat → Bool} {B : Nat → Nat} {n : Nat} : ∀ f k, n - k = f → k ≤ run P B n k ∧ (k ≤ n → run P B n k ≤ n) ∧ (run P B n k < n → P (B (run P B n k)) = false) ∧ ∀ j, k ≤ j → j < run P B n k → P (B j) = true := by
  intro f
  induction f with
  | zero =>
    intro k h
    rw [run_stop (by omega)]
    exact ⟨Nat.le_refl _, fun h => h, fun z => by omega, fun j h1 h2 => by omega⟩
  | succ f ih =>
    intro k h
    cases hp : P (B k) with
    | false =>
      rw [run_no (by omega) hp]
      exact ⟨Nat.le_refl _, fun h => h, fun _ => hp, fun j h1 h2 => by omega⟩
    | true =>
      rw [run_step (by omega) hp]
      obtain ⟨h1, h2, h3, h4⟩ := ih (k + 1) (by omega)
      refine ⟨by omega, fun _ => h2 (by omega), h3, fun j j1 j2 => ?_⟩
      by_cases e : j = k
      · subst e; exact hp
      · exact h4 j (by omega) j2
def isS (b : Nat) : Bool := decide (b = 32)
def isL (b : Nat) : Bool := decide (97 ≤ b) && decide (b ≤ 122)
def isD (b : Nat) : Bool := decide (48 ≤ b) && decide (b ≤ 57)
def wv (B : Nat → Nat) (p e : Nat) : Nat := fo (fun j v => 256 * v + B j) p (e - p) 0
def dv (B : Nat → Nat) (p e : Nat) : Nat := fo (fun j v => 10 * v + (B j - 48)) p (e - p) 0
/-- the words told by number -/
def litB (k : Nat) : List Nat := (strB.getD k []).map fun z => z.toNatClampNeg
def litV (k : Nat) : Nat := (litB k).foldl (fun v b => 256 * v + b) 0
def isRes (v : Nat) : Bool := (List.range 10).any fun k => decide (v = litV k)
abbrev Tk : Type := Nat × Nat × Nat × Nat
/-- place, kind, next, value -/
def tok (B : Nat → Nat) (n s : Nat) : Tk :=
  if n ≤ run isS B n s then (run isS B n s, 6, run isS B n s, 0)
  else if isL (B (run isS B n s)) = true then (run isS B n s, (if 7 < run isL B n (run isS B n s) - run isS B n s then 0 else if isRes (wv B (run isS B n s) (run isL B n (run isS B n s))) = true then 2 else 1), run isL B n (run isS B n s), wv B (run isS B n s) (run isL B n (run isS B n s)))
  else if isD (B (run isS B n s)) = true then (run isS B n s, (if 3 < run isD B n (run isS B n s) - run isS B n s then 0 else 3), run isD B n (run isS B n s), dv B (run isS B n s) (run isD B n (run isS B n s)))
  else (run isS B n s, (if B (run isS B n s) = 44 then 4 else if B (run isS B n s) = 59 then 5 else 0), run isS B n s + 1, 0)
def T (B : Nat → Nat) (n : Nat) : Nat → Tk
  | 0 => tok B n 0
  | i + 1 => tok B n (T B n i).2.2.1
theorem tok_sp {B : Nat → Nat} {n s : Nat} (h : s < n) (hs : B s = 32) : tok B n s = tok B n (s + 1) := by
  have : run isS B n s = run isS B n (s + 1) := run_step h (by unfold isS; simp [hs])
  unfold tok
  rw [this]
theorem tok_end {B : Nat → Nat} {n s : Nat} (h : n ≤ s) : tok B n s = (s, 6, s, 0) := by
  unfold tok
  rw [run_stop h, if_pos h]
theorem run_S {B : Nat → Nat} {n s : Nat} (h : s < n) (hs : B s ≠ 32) : run isS B n s = s := run_no h (by unfold isS; simp [hs])
theorem tok_L {B : Nat → Nat} {n s : Nat} (h : s < n) (hl : isL (B s) = true) : tok B n s = (s, (if 7 < run isL B n s - s then 0 else if isRes (wv B s (run isL B n s)) = true then 2 else 1), run isL B n s, wv B s (run isL B n s)) := by
  have hs : B s ≠ 32 := fun e => by rw [e] at hl; exact absurd hl (by decide)
  unfold tok
  rw [run_S h hs, if_neg (by omega), if_pos hl]
theorem tok_D {B : Nat → Nat} {n s : Nat} (h : s < n) (hl : isL (B s) = false) (hd : isD (B s) = true) : tok B n s = (s, (if 3 < run isD B n s - s then 0 else 3), run isD B n s, dv B s (run isD B n s)) := by
  have hs : B s ≠ 32 := fun e => by rw [e] at hd; exact absurd hd (by decide)
  unfold tok
  rw [run_S h hs, if_neg (by omega), if_neg (by rw [hl]; decide), if_pos hd]
theorem tok_O {B : Nat → Nat} {n s : Nat} (h : s < n) (hs : B s ≠ 32) (hl : isL (B s) = false) (hd : isD (B s) = false) : tok B n s = (s, (if B s = 44 then 4 else if B s = 59 then 5 else 0), s + 1, 0) := by
  unfold tok
  rw [run_S h hs, if_neg (by omega), if_neg (by rw [hl]; decide), if_neg (by rw [hd]; decide)]
-- the class's bytes
theorem sx8_all : ∀ b, b < 256 → mX8_isLetter (sx8 b) = isL b ∧ mX8_isDigit (sx8 b) = isD b ∧ decide (sx8 b = 32) = decide (b = 32) ∧ decide (sx8 b = 44) = decide (b = 44) ∧ decide (sx8 b = 59) = decide (b = 59) := by decide +kernel
theorem sx8_lo : ∀ b, b < 128 → sx8 b = nI b := by decide +kernel
theorem M_all : ∀ b, b < 256 → mX12_in (nI b) 97 122 = isL b ∧ mX12_in (nI b) 48 57 = isD b ∧ decide (nI b = 32) = decide (b = 32) ∧ decide (nI b = 44) = decide (b = 44) ∧ decide (nI b = 59) = decide (b = 59) ∧ ¬ nI b = (-1 : Int32) := by decide +kernel
theorem isL_lt {b : Nat} (h : isL b = true) : 97 ≤ b ∧ b ≤ 122 := by
  obtain ⟨h1, h2⟩ := Bool.and_eq_true_iff.mp h
  exact ⟨by simpa using h1, by simpa using h2⟩
theorem isD_lt {b : Nat} (h : isD b = true) : 48 ≤ b ∧ b ≤ 57 := by
  obtain ⟨h1, h2⟩ := Bool.and_eq_true_iff.mp h
  exact ⟨by simpa using h1, by simpa using h2⟩
-- numbers of 64 bits
def L64 (n : Nat) : Int64 := Int64.ofNat n
theorem L64_i32 : ∀ b, b < 256 → (nI b).toInt64 = L64 b := by decide +kernel
theorem L64_inj {a b : Nat} (ha : a < 2 ^ 63) (hb : b < 2 ^ 63) (h : L64 a = L64 b) : a = b := by
  have h1 := congrArg Int64.toBitVec h
  have h2 : (BitVec.ofNat 64 a) = BitVec.ofNat 64 b := h1
  have h3 := congrArg BitVec.toNat h2
  rw [BitVec.toNat_ofNat, BitVec.toNat_ofNat, Nat.mod_eq_of_lt (by omega), Nat.mod_eq_of_lt (by omega)] at h3
  exact h3
theorem L64_shl {v b : Nat} (hv : v < 2 ^ 48) (hb : b < 256) : (L64 v <<< ((8 : Int32).toInt64 &&& 63)) ||| L64 b = L64 (256 * v + b) := by
  have e8 : ((8 : Int32).toInt64 &&& 63) = (8 : Int64) := by decide
  rw [e8]
  apply Int64.toBitVec_inj.mp
  rw [Int64.toBitVec_or, Int64.toBitVec_shiftLeft]
  show (BitVec.ofNat 64 v <<< ((8 : Int64).toBitVec.smod 64)) ||| BitVec.ofNat 64 b = BitVec.ofNat 64 (256 * v + b)
  have e9 : (8 : Int64).toBitVec.smod 64 = 8#64 := by decide
  rw [e9]
  apply BitVec.eq_of_toNat_eq
  rw [BitVec.toNat_or, BitVec.shiftLeft_eq', BitVec.toNat_shiftLeft, BitVec.toNat_ofNat, BitVec.toNat_ofNat, BitVec.toNat_ofNat, BitVec.toNat_ofNat]
  rw [Nat.mod_eq_of_lt (show v < 2 ^ 64 by omega), Nat.mod_eq_of_lt (show b < 2 ^ 64 by omega), Nat.mod_eq_of_lt (show 256 * v + b < 2 ^ 64 by omega), Nat.mod_eq_of_lt (show 8 < 2 ^ 64 by omega), Nat.shiftLeft_eq]
  rw [Nat.mod_eq_of_lt (show v * 2 ^ 8 < 2 ^ 64 by omega), Nat.mul_comm v, ← Nat.two_pow_add_eq_or_of_lt (show b < 2 ^ 8 by omega)]
theorem L64_mul {a b : Nat} : L64 a * L64 b = L64 (a * b) := by
  apply Int64.toBitVec_inj.mp
  rw [Int64.toBitVec_mul]
  exact (BitVec.ofNat_mul a b).symm
theorem L64_add {a b : Nat} : L64 a + L64 b = L64 (a + b) := by
  apply Int64.toBitVec_inj.mp
  rw [Int64.toBitVec_add]
  exact (BitVec.ofNat_add a b).symm
