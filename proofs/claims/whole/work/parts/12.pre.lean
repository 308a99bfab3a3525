abbrev PH (rv : List Value) (σ : Sg) (d : Dt) : List Value → Sg → Dt → Prop := fun v σ1 d1 => v = rv ∧ σ1 = σ ∧ d1 = d
/-- a row of rows -/
def GR (σ : Sg) (a n k : Nat) : Prop := σ.2.1 a = some (4, n) ∧ ∀ j, j < n → σ.2.2 a j = some (a + 1 + j) ∧ σ.2.1 (a + 1 + j) = some (1, k)
def bq (x : Int32) : Option Bool := if x = 0 then some false else if x = 1 then some true else none
theorem bq_some {x : Int32} {b : Bool} (h : bq x = some b) : x = b2i b := by
  unfold bq at h
  by_cases h0 : x = 0
  · rw [if_pos h0] at h; cases h; exact h0
  · rw [if_neg h0] at h
    by_cases h1 : x = 1
    · rw [if_pos h1] at h; cases h; exact h1
    · rw [if_neg h1] at h; cases h
def mxI (x z : Int32) : Int32 := if x < z then z else x
def mnI (x z : Int32) : Int32 := if z < x then z else x
def chA (i : Nat) (x : Int32) : Int32 := (((sTx i).getD x.toNatClampNeg 0 &&& 255).toUInt32 % 65536).toInt32
theorem pn_RJ6 : plainName RJ6 = true := by decide +kernel
theorem pn_RJ7 : plainName RJ7 = true := by decide +kernel
theorem pn_RX0 : plainName RX0 = true := by decide +kernel
theorem pn_RX1 : plainName RX1 = true := by decide +kernel
theorem pn_RX10 : plainName RX10 = true := by decide +kernel
theorem pn_RX11 : plainName RX11 = true := by decide +kernel
theorem pn_RX12 : plainName RX12 = true := by decide +kernel
theorem pn_RX2 : plainName RX2 = true := by decide +kernel
theorem pn_RX3 : plainName RX3 = true := by decide +kernel
theorem pn_RX4 : plainName RX4 = true := by decide +kernel
theorem pn_RX5 : plainName RX5 = true := by decide +kernel
theorem pn_RX6 : plainName RX6 = true := by decide +kernel
theorem pn_RX7 : plainName RX7 = true := by decide +kernel
theorem pn_RX8 : plainName RX8 = true := by decide +kernel
theorem pn_RX9 : plainName RX9 = true := by decide +kernel
