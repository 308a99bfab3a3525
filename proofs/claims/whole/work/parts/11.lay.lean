def L0 (σ : Sg) (o : Nat) : Prop := σ.2.1 o = some (0, 0) ∧ σ.2.2 o 1 = some (o + 1) ∧ σ.2.1 (o + 1) = some (1, 10) ∧ σ.2.2 o 2 = some (o + 2) ∧ σ.2.1 (o + 2) = some (1, 10) ∧ σ.2.2 o 3 = some (o + 3) ∧ σ.2.1 (o + 3) = some (1, 10)
theorem L0_0 {σ : Sg} {o : Nat} (h9 : L0 σ o) : σ.2.1 o = some (0, 0) := h9.1
theorem L0_r1 {σ : Sg} {o : Nat} (h9 : L0 σ o) : σ.2.2 o 1 = some (o + 1) := h9.2.1
theorem L0_s1 {σ : Sg} {o : Nat} (h9 : L0 σ o) : σ.2.1 (o + 1) = some (1, 10) := h9.2.2.1
theorem L0_r2 {σ : Sg} {o : Nat} (h9 : L0 σ o) : σ.2.2 o 2 = some (o + 2) := h9.2.2.2.1
theorem L0_s2 {σ : Sg} {o : Nat} (h9 : L0 σ o) : σ.2.1 (o + 2) = some (1, 10) := h9.2.2.2.2.1
theorem L0_r3 {σ : Sg} {o : Nat} (h9 : L0 σ o) : σ.2.2 o 3 = some (o + 3) := h9.2.2.2.2.2.1
theorem L0_s3 {σ : Sg} {o : Nat} (h9 : L0 σ o) : σ.2.1 (o + 3) = some (1, 10) := h9.2.2.2.2.2.2
def L1 (σ : Sg) (o : Nat) : Prop := σ.2.1 o = some (0, 1) ∧ σ.2.2 o 1 = some (o + 1) ∧ σ.2.1 (o + 1) = some (1, 5) ∧ σ.2.2 o 2 = some (o + 2) ∧ σ.2.1 (o + 2) = some (1, 5)
theorem L1_0 {σ : Sg} {o : Nat} (h9 : L1 σ o) : σ.2.1 o = some (0, 1) := h9.1
theorem L1_r1 {σ : Sg} {o : Nat} (h9 : L1 σ o) : σ.2.2 o 1 = some (o + 1) := h9.2.1
theorem L1_s1 {σ : Sg} {o : Nat} (h9 : L1 σ o) : σ.2.1 (o + 1) = some (1, 5) := h9.2.2.1
theorem L1_r2 {σ : Sg} {o : Nat} (h9 : L1 σ o) : σ.2.2 o 2 = some (o + 2) := h9.2.2.2.1
theorem L1_s2 {σ : Sg} {o : Nat} (h9 : L1 σ o) : σ.2.1 (o + 2) = some (1, 5) := h9.2.2.2.2
def L2 (σ : Sg) (o : Nat) : Prop := σ.2.1 o = some (0, 2) ∧ σ.2.2 o 0 = some (o + 1) ∧ σ.2.1 (o + 1) = some (1, 32) ∧ σ.2.2 o 1 = some (o + 2) ∧ σ.2.1 (o + 2) = some (1, 5) ∧ σ.2.2 o 2 = some (o + 3) ∧ σ.2.1 (o + 3) = some (1, 5)
theorem L2_0 {σ : Sg} {o : Nat} (h9 : L2 σ o) : σ.2.1 o = some (0, 2) := h9.1
theorem L2_r0 {σ : Sg} {o : Nat} (h9 : L2 σ o) : σ.2.2 o 0 = some (o + 1) := h9.2.1
theorem L2_s0 {σ : Sg} {o : Nat} (h9 : L2 σ o) : σ.2.1 (o + 1) = some (1, 32) := h9.2.2.1
theorem L2_r1 {σ : Sg} {o : Nat} (h9 : L2 σ o) : σ.2.2 o 1 = some (o + 2) := h9.2.2.2.1
theorem L2_s1 {σ : Sg} {o : Nat} (h9 : L2 σ o) : σ.2.1 (o + 2) = some (1, 5) := h9.2.2.2.2.1
theorem L2_r2 {σ : Sg} {o : Nat} (h9 : L2 σ o) : σ.2.2 o 2 = some (o + 3) := h9.2.2.2.2.2.1
theorem L2_s2 {σ : Sg} {o : Nat} (h9 : L2 σ o) : σ.2.1 (o + 3) = some (1, 5) := h9.2.2.2.2.2.2
def L3 (σ : Sg) (o : Nat) : Prop := σ.2.1 o = some (0, 3) ∧ σ.2.2 o 1 = some (o + 1) ∧ σ.2.1 (o + 1) = some (1, 800) ∧ σ.2.2 o 2 = some (o + 2) ∧ σ.2.1 (o + 2) = some (1, 10)
theorem L3_0 {σ : Sg} {o : Nat} (h9 : L3 σ o) : σ.2.1 o = some (0, 3) := h9.1
theorem L3_r1 {σ : Sg} {o : Nat} (h9 : L3 σ o) : σ.2.2 o 1 = some (o + 1) := h9.2.1
theorem L3_s1 {σ : Sg} {o : Nat} (h9 : L3 σ o) : σ.2.1 (o + 1) = some (1, 800) := h9.2.2.1
theorem L3_r2 {σ : Sg} {o : Nat} (h9 : L3 σ o) : σ.2.2 o 2 = some (o + 2) := h9.2.2.2.1
theorem L3_s2 {σ : Sg} {o : Nat} (h9 : L3 σ o) : σ.2.1 (o + 2) = some (1, 10) := h9.2.2.2.2
def L5 (σ : Sg) (o : Nat) : Prop := σ.2.1 o = some (0, 5) ∧ σ.2.2 o 1 = some (o + 1) ∧ σ.2.1 (o + 1) = some (1, 10) ∧ σ.2.2 o 2 = some (o + 2) ∧ σ.2.1 (o + 2) = some (1, 10) ∧ σ.2.2 o 3 = some (o + 3) ∧ σ.2.1 (o + 3) = some (1, 10) ∧ σ.2.2 o 4 = some (o + 4) ∧ σ.2.1 (o + 4) = some (1, 10) ∧ σ.2.2 o 5 = some (o + 5) ∧ σ.2.1 (o + 5) = some (1, 10) ∧ σ.2.2 o 6 = some (o + 6) ∧ σ.2.1 (o + 6) = some (1, 10) ∧ σ.2.2 o 7 = some (o + 7) ∧ σ.2.1 (o + 7) = some (4, 10) ∧ (∀ j, j < 10 → σ.2.2 (o + 7) j = some (o + 8 + j) ∧ σ.2.1 (o + 8 + j) = some (1, 5)) ∧ σ.2.2 o 8 = some (o + 18) ∧ σ.2.1 (o + 18) = some (4, 10) ∧ (∀ j, j < 10 → σ.2.2 (o + 18) j = some (o + 19 + j) ∧ σ.2.1 (o + 19 + j) = some (1, 5)) ∧ σ.2.2 o 9 = some (o + 29) ∧ σ.2.1 (o + 29) = some (4, 10) ∧ (∀ j, j < 10 → σ.2.2 (o + 29) j = some (o + 30 + j) ∧ σ.2.1 (o + 30 + j) = some (1, 5))
theorem L5_0 {σ : Sg} {o : Nat} (h9 : L5 σ o) : σ.2.1 o = some (0, 5) := h9.1
theorem L5_r1 {σ : Sg} {o : Nat} (h9 : L5 σ o) : σ.2.2 o 1 = some (o + 1) := h9.2.1
theorem L5_s1 {σ : Sg} {o : Nat} (h9 : L5 σ o) : σ.2.1 (o + 1) = some (1, 10) := h9.2.2.1
theorem L5_r2 {σ : Sg} {o : Nat} (h9 : L5 σ o) : σ.2.2 o 2 = some (o + 2) := h9.2.2.2.1
theorem L5_s2 {σ : Sg} {o : Nat} (h9 : L5 σ o) : σ.2.1 (o + 2) = some (1, 10) := h9.2.2.2.2.1
theorem L5_r3 {σ : Sg} {o : Nat} (h9 : L5 σ o) : σ.2.2 o 3 = some (o + 3) := h9.2.2.2.2.2.1
theorem L5_s3 {σ : Sg} {o : Nat} (h9 : L5 σ o) : σ.2.1 (o + 3) = some (1, 10) := h9.2.2.2.2.2.2.1
theorem L5_r4 {σ : Sg} {o : Nat} (h9 : L5 σ o) : σ.2.2 o 4 = some (o + 4) := h9.2.2.2.2.2.2.2.1
theorem L5_s4 {σ : Sg} {o : Nat} (h9 : L5 σ o) : σ.2.1 (o + 4) = some (1, 10) := h9.2.2.2.2.2.2.2.2.1
theorem L5_r5 {σ : Sg} {o : Nat} (h9 : L5 σ o) : σ.2.2 o 5 = some (o + 5) := h9.2.2.2.2.2.2.2.2.2.1
theorem L5_s5 {σ : Sg} {o : Nat} (h9 : L5 σ o) : σ.2.1 (o + 5) = some (1, 10) := h9.2.2.2.2.2.2.2.2.2.2.1
theorem L5_r6 {σ : Sg} {o : Nat} (h9 : L5 σ o) : σ.2.2 o 6 = some (o + 6) := h9.2.2.2.2.2.2.2.2.2.2.2.1
theorem L5_s6 {σ : Sg} {o : Nat} (h9 : L5 σ o) : σ.2.1 (o + 6) = some (1, 10) := h9.2.2.2.2.2.2.2.2.2.2.2.2.1
theorem L5_r7 {σ : Sg} {o : Nat} (h9 : L5 σ o) : σ.2.2 o 7 = some (o + 7) := h9.2.2.2.2.2.2.2.2.2.2.2.2.2.1
theorem L5_s7 {σ : Sg} {o : Nat} (h9 : L5 σ o) : σ.2.1 (o + 7) = some (4, 10) := h9.2.2.2.2.2.2.2.2.2.2.2.2.2.2.1
theorem L5_g7 {σ : Sg} {o : Nat} (h9 : L5 σ o) : (∀ j, j < 10 → σ.2.2 (o + 7) j = some (o + 8 + j) ∧ σ.2.1 (o + 8 + j) = some (1, 5)) := h9.2.2.2.2.2.2.2.2.2.2.2.2.2.2.2.1
theorem L5_r8 {σ : Sg} {o : Nat} (h9 : L5 σ o) : σ.2.2 o 8 = some (o + 18) := h9.2.2.2.2.2.2.2.2.2.2.2.2.2.2.2.2.1
theorem L5_s8 {σ : Sg} {o : Nat} (h9 : L5 σ o) : σ.2.1 (o + 18) = some (4, 10) := h9.2.2.2.2.2.2.2.2.2.2.2.2.2.2.2.2.2.1
theorem L5_g8 {σ : Sg} {o : Nat} (h9 : L5 σ o) : (∀ j, j < 10 → σ.2.2 (o + 18) j = some (o + 19 + j) ∧ σ.2.1 (o + 19 + j) = some (1, 5)) := h9.2.2.2.2.2.2.2.2.2.2.2.2.2.2.2.2.2.2.1
theorem L5_r9 {σ : Sg} {o : Nat} (h9 : L5 σ o) : σ.2.2 o 9 = some (o + 29) := h9.2.2.2.2.2.2.2.2.2.2.2.2.2.2.2.2.2.2.2.1
theorem L5_s9 {σ : Sg} {o : Nat} (h9 : L5 σ o) : σ.2.1 (o + 29) = some (4, 10) := h9.2.2.2.2.2.2.2.2.2.2.2.2.2.2.2.2.2.2.2.2.1
theorem L5_g9 {σ : Sg} {o : Nat} (h9 : L5 σ o) : (∀ j, j < 10 → σ.2.2 (o + 29) j = some (o + 30 + j) ∧ σ.2.1 (o + 30 + j) = some (1, 5)) := h9.2.2.2.2.2.2.2.2.2.2.2.2.2.2.2.2.2.2.2.2.2
def L6 (σ : Sg) (o : Nat) : Prop := σ.2.1 o = some (0, 6) ∧ σ.2.2 o 1 = some (o + 1) ∧ σ.2.1 (o + 1) = some (1, 8) ∧ σ.2.2 o 2 = some (o + 2) ∧ σ.2.1 (o + 2) = some (1, 8) ∧ σ.2.2 o 3 = some (o + 3) ∧ σ.2.1 (o + 3) = some (1, 8) ∧ σ.2.2 o 4 = some (o + 4) ∧ σ.2.1 (o + 4) = some (1, 8) ∧ σ.2.2 o 5 = some (o + 5) ∧ σ.2.1 (o + 5) = some (1, 8) ∧ σ.2.2 o 6 = some (o + 6) ∧ σ.2.1 (o + 6) = some (1, 8)
theorem L6_0 {σ : Sg} {o : Nat} (h9 : L6 σ o) : σ.2.1 o = some (0, 6) := h9.1
theorem L6_r1 {σ : Sg} {o : Nat} (h9 : L6 σ o) : σ.2.2 o 1 = some (o + 1) := h9.2.1
theorem L6_s1 {σ : Sg} {o : Nat} (h9 : L6 σ o) : σ.2.1 (o + 1) = some (1, 8) := h9.2.2.1
theorem L6_r2 {σ : Sg} {o : Nat} (h9 : L6 σ o) : σ.2.2 o 2 = some (o + 2) := h9.2.2.2.1
theorem L6_s2 {σ : Sg} {o : Nat} (h9 : L6 σ o) : σ.2.1 (o + 2) = some (1, 8) := h9.2.2.2.2.1
theorem L6_r3 {σ : Sg} {o : Nat} (h9 : L6 σ o) : σ.2.2 o 3 = some (o + 3) := h9.2.2.2.2.2.1
theorem L6_s3 {σ : Sg} {o : Nat} (h9 : L6 σ o) : σ.2.1 (o + 3) = some (1, 8) := h9.2.2.2.2.2.2.1
theorem L6_r4 {σ : Sg} {o : Nat} (h9 : L6 σ o) : σ.2.2 o 4 = some (o + 4) := h9.2.2.2.2.2.2.2.1
theorem L6_s4 {σ : Sg} {o : Nat} (h9 : L6 σ o) : σ.2.1 (o + 4) = some (1, 8) := h9.2.2.2.2.2.2.2.2.1
theorem L6_r5 {σ : Sg} {o : Nat} (h9 : L6 σ o) : σ.2.2 o 5 = some (o + 5) := h9.2.2.2.2.2.2.2.2.2.1
theorem L6_s5 {σ : Sg} {o : Nat} (h9 : L6 σ o) : σ.2.1 (o + 5) = some (1, 8) := h9.2.2.2.2.2.2.2.2.2.2.1
theorem L6_r6 {σ : Sg} {o : Nat} (h9 : L6 σ o) : σ.2.2 o 6 = some (o + 6) := h9.2.2.2.2.2.2.2.2.2.2.2.1
theorem L6_s6 {σ : Sg} {o : Nat} (h9 : L6 σ o) : σ.2.1 (o + 6) = some (1, 8) := h9.2.2.2.2.2.2.2.2.2.2.2.2
def L8 (σ : Sg) (o : Nat) : Prop := σ.2.1 o = some (0, 8) ∧ σ.2.2 o 2 = some (o + 1) ∧ σ.2.1 (o + 1) = some (1, 1000) ∧ σ.2.2 o 3 = some (o + 2) ∧ σ.2.1 (o + 2) = some (1, 1000) ∧ σ.2.2 o 4 = some (o + 3) ∧ σ.2.1 (o + 3) = some (2, 1000)
theorem L8_0 {σ : Sg} {o : Nat} (h9 : L8 σ o) : σ.2.1 o = some (0, 8) := h9.1
theorem L8_r2 {σ : Sg} {o : Nat} (h9 : L8 σ o) : σ.2.2 o 2 = some (o + 1) := h9.2.1
theorem L8_s2 {σ : Sg} {o : Nat} (h9 : L8 σ o) : σ.2.1 (o + 1) = some (1, 1000) := h9.2.2.1
theorem L8_r3 {σ : Sg} {o : Nat} (h9 : L8 σ o) : σ.2.2 o 3 = some (o + 2) := h9.2.2.2.1
theorem L8_s3 {σ : Sg} {o : Nat} (h9 : L8 σ o) : σ.2.1 (o + 2) = some (1, 1000) := h9.2.2.2.2.1
theorem L8_r4 {σ : Sg} {o : Nat} (h9 : L8 σ o) : σ.2.2 o 4 = some (o + 3) := h9.2.2.2.2.2.1
theorem L8_s4 {σ : Sg} {o : Nat} (h9 : L8 σ o) : σ.2.1 (o + 3) = some (2, 1000) := h9.2.2.2.2.2.2
def L9 (σ : Sg) (o : Nat) : Prop := σ.2.1 o = some (0, 9) ∧ σ.2.2 o 1 = some (o + 1) ∧ σ.2.1 (o + 1) = some (1, 14) ∧ σ.2.2 o 2 = some (o + 2) ∧ σ.2.1 (o + 2) = some (1, 14) ∧ σ.2.2 o 3 = some (o + 3) ∧ σ.2.1 (o + 3) = some (1, 14) ∧ σ.2.2 o 4 = some (o + 4) ∧ σ.2.1 (o + 4) = some (1, 14) ∧ σ.2.2 o 5 = some (o + 5) ∧ σ.2.1 (o + 5) = some (1, 14) ∧ σ.2.2 o 6 = some (o + 6) ∧ σ.2.1 (o + 6) = some (1, 14) ∧ σ.2.2 o 7 = some (o + 7) ∧ σ.2.1 (o + 7) = some (4, 14) ∧ (∀ j, j < 14 → σ.2.2 (o + 7) j = some (o + 8 + j) ∧ σ.2.1 (o + 8 + j) = some (1, 14))
theorem L9_0 {σ : Sg} {o : Nat} (h9 : L9 σ o) : σ.2.1 o = some (0, 9) := h9.1
theorem L9_r1 {σ : Sg} {o : Nat} (h9 : L9 σ o) : σ.2.2 o 1 = some (o + 1) := h9.2.1
theorem L9_s1 {σ : Sg} {o : Nat} (h9 : L9 σ o) : σ.2.1 (o + 1) = some (1, 14) := h9.2.2.1
theorem L9_r2 {σ : Sg} {o : Nat} (h9 : L9 σ o) : σ.2.2 o 2 = some (o + 2) := h9.2.2.2.1
theorem L9_s2 {σ : Sg} {o : Nat} (h9 : L9 σ o) : σ.2.1 (o + 2) = some (1, 14) := h9.2.2.2.2.1
theorem L9_r3 {σ : Sg} {o : Nat} (h9 : L9 σ o) : σ.2.2 o 3 = some (o + 3) := h9.2.2.2.2.2.1
theorem L9_s3 {σ : Sg} {o : Nat} (h9 : L9 σ o) : σ.2.1 (o + 3) = some (1, 14) := h9.2.2.2.2.2.2.1
theorem L9_r4 {σ : Sg} {o : Nat} (h9 : L9 σ o) : σ.2.2 o 4 = some (o + 4) := h9.2.2.2.2.2.2.2.1
theorem L9_s4 {σ : Sg} {o : Nat} (h9 : L9 σ o) : σ.2.1 (o + 4) = some (1, 14) := h9.2.2.2.2.2.2.2.2.1
theorem L9_r5 {σ : Sg} {o : Nat} (h9 : L9 σ o) : σ.2.2 o 5 = some (o + 5) := h9.2.2.2.2.2.2.2.2.2.1
theorem L9_s5 {σ : Sg} {o : Nat} (h9 : L9 σ o) : σ.2.1 (o + 5) = some (1, 14) := h9.2.2.2.2.2.2.2.2.2.2.1
theorem L9_r6 {σ : Sg} {o : Nat} (h9 : L9 σ o) : σ.2.2 o 6 = some (o + 6) := h9.2.2.2.2.2.2.2.2.2.2.2.1
theorem L9_s6 {σ : Sg} {o : Nat} (h9 : L9 σ o) : σ.2.1 (o + 6) = some (1, 14) := h9.2.2.2.2.2.2.2.2.2.2.2.2.1
theorem L9_r7 {σ : Sg} {o : Nat} (h9 : L9 σ o) : σ.2.2 o 7 = some (o + 7) := h9.2.2.2.2.2.2.2.2.2.2.2.2.2.1
theorem L9_s7 {σ : Sg} {o : Nat} (h9 : L9 σ o) : σ.2.1 (o + 7) = some (4, 14) := h9.2.2.2.2.2.2.2.2.2.2.2.2.2.2.1
theorem L9_g7 {σ : Sg} {o : Nat} (h9 : L9 σ o) : (∀ j, j < 14 → σ.2.2 (o + 7) j = some (o + 8 + j) ∧ σ.2.1 (o + 8 + j) = some (1, 14)) := h9.2.2.2.2.2.2.2.2.2.2.2.2.2.2.2
def L4 (σ : Sg) (o : Nat) : Prop := σ.2.1 o = some (0, 4) ∧ σ.2.2 o 4 = some (o + 1) ∧ σ.2.1 (o + 1) = some (2, 36) ∧ σ.2.2 o 5 = some (o + 2) ∧ σ.2.1 (o + 2) = some (1, 36) ∧ σ.2.2 o 6 = some (o + 3) ∧ L9 σ (o + 3) ∧ σ.2.2 o 7 = some (o + 25) ∧ L6 σ (o + 25) ∧ σ.2.2 o 8 = some (o + 32) ∧ L5 σ (o + 32) ∧ σ.2.2 o 9 = some (o + 72) ∧ L1 σ (o + 72)
theorem L4_0 {σ : Sg} {o : Nat} (h9 : L4 σ o) : σ.2.1 o = some (0, 4) := h9.1
theorem L4_r4 {σ : Sg} {o : Nat} (h9 : L4 σ o) : σ.2.2 o 4 = some (o + 1) := h9.2.1
theorem L4_s4 {σ : Sg} {o : Nat} (h9 : L4 σ o) : σ.2.1 (o + 1) = some (2, 36) := h9.2.2.1
theorem L4_r5 {σ : Sg} {o : Nat} (h9 : L4 σ o) : σ.2.2 o 5 = some (o + 2) := h9.2.2.2.1
theorem L4_s5 {σ : Sg} {o : Nat} (h9 : L4 σ o) : σ.2.1 (o + 2) = some (1, 36) := h9.2.2.2.2.1
theorem L4_r6 {σ : Sg} {o : Nat} (h9 : L4 σ o) : σ.2.2 o 6 = some (o + 3) := h9.2.2.2.2.2.1
theorem L4_o6 {σ : Sg} {o : Nat} (h9 : L4 σ o) : L9 σ (o + 3) := h9.2.2.2.2.2.2.1
theorem L4_r7 {σ : Sg} {o : Nat} (h9 : L4 σ o) : σ.2.2 o 7 = some (o + 25) := h9.2.2.2.2.2.2.2.1
theorem L4_o7 {σ : Sg} {o : Nat} (h9 : L4 σ o) : L6 σ (o + 25) := h9.2.2.2.2.2.2.2.2.1
theorem L4_r8 {σ : Sg} {o : Nat} (h9 : L4 σ o) : σ.2.2 o 8 = some (o + 32) := h9.2.2.2.2.2.2.2.2.2.1
theorem L4_o8 {σ : Sg} {o : Nat} (h9 : L4 σ o) : L5 σ (o + 32) := h9.2.2.2.2.2.2.2.2.2.2.1
theorem L4_r9 {σ : Sg} {o : Nat} (h9 : L4 σ o) : σ.2.2 o 9 = some (o + 72) := h9.2.2.2.2.2.2.2.2.2.2.2.1
theorem L4_o9 {σ : Sg} {o : Nat} (h9 : L4 σ o) : L1 σ (o + 72) := h9.2.2.2.2.2.2.2.2.2.2.2.2
def L11 (σ : Sg) (o : Nat) : Prop := σ.2.1 o = some (0, 11) ∧ σ.2.2 o 4 = some (o + 1) ∧ σ.2.1 (o + 1) = some (1, 1000) ∧ σ.2.2 o 6 = some (o + 2) ∧ σ.2.1 (o + 2) = some (1, 267) ∧ σ.2.2 o 7 = some (o + 3) ∧ σ.2.1 (o + 3) = some (1, 267) ∧ σ.2.2 o 8 = some (o + 4) ∧ σ.2.1 (o + 4) = some (2, 36) ∧ σ.2.2 o 9 = some (o + 5) ∧ σ.2.1 (o + 5) = some (1, 36) ∧ σ.2.2 o 11 = some (o + 6) ∧ σ.2.1 (o + 6) = some (2, 36) ∧ σ.2.2 o 12 = some (o + 7) ∧ σ.2.1 (o + 7) = some (1, 36) ∧ σ.2.2 o 24 = some (o + 8) ∧ σ.2.1 (o + 8) = some (1, 14) ∧ σ.2.2 o 25 = some (o + 9) ∧ σ.2.1 (o + 9) = some (1, 14) ∧ σ.2.2 o 26 = some (o + 10) ∧ σ.2.1 (o + 10) = some (1, 800) ∧ σ.2.2 o 28 = some (o + 11) ∧ σ.2.1 (o + 11) = some (1, 5) ∧ σ.2.2 o 29 = some (o + 12) ∧ σ.2.1 (o + 12) = some (1, 5) ∧ σ.2.2 o 32 = some (o + 13) ∧ σ.2.1 (o + 13) = some (1, 10) ∧ σ.2.2 o 33 = some (o + 14) ∧ σ.2.1 (o + 14) = some (1, 10)
theorem L11_0 {σ : Sg} {o : Nat} (h9 : L11 σ o) : σ.2.1 o = some (0, 11) := h9.1
theorem L11_r4 {σ : Sg} {o : Nat} (h9 : L11 σ o) : σ.2.2 o 4 = some (o + 1) := h9.2.1
theorem L11_s4 {σ : Sg} {o : Nat} (h9 : L11 σ o) : σ.2.1 (o + 1) = some (1, 1000) := h9.2.2.1
theorem L11_r6 {σ : Sg} {o : Nat} (h9 : L11 σ o) : σ.2.2 o 6 = some (o + 2) := h9.2.2.2.1
theorem L11_s6 {σ : Sg} {o : Nat} (h9 : L11 σ o) : σ.2.1 (o + 2) = some (1, 267) := h9.2.2.2.2.1
theorem L11_r7 {σ : Sg} {o : Nat} (h9 : L11 σ o) : σ.2.2 o 7 = some (o + 3) := h9.2.2.2.2.2.1
theorem L11_s7 {σ : Sg} {o : Nat} (h9 : L11 σ o) : σ.2.1 (o + 3) = some (1, 267) := h9.2.2.2.2.2.2.1
theorem L11_r8 {σ : Sg} {o : Nat} (h9 : L11 σ o) : σ.2.2 o 8 = some (o + 4) := h9.2.2.2.2.2.2.2.1
theorem L11_s8 {σ : Sg} {o : Nat} (h9 : L11 σ o) : σ.2.1 (o + 4) = some (2, 36) := h9.2.2.2.2.2.2.2.2.1
theorem L11_r9 {σ : Sg} {o : Nat} (h9 : L11 σ o) : σ.2.2 o 9 = some (o + 5) := h9.2.2.2.2.2.2.2.2.2.1
theorem L11_s9 {σ : Sg} {o : Nat} (h9 : L11 σ o) : σ.2.1 (o + 5) = some (1, 36) := h9.2.2.2.2.2.2.2.2.2.2.1
theorem L11_r11 {σ : Sg} {o : Nat} (h9 : L11 σ o) : σ.2.2 o 11 = some (o + 6) := h9.2.2.2.2.2.2.2.2.2.2.2.1
theorem L11_s11 {σ : Sg} {o : Nat} (h9 : L11 σ o) : σ.2.1 (o + 6) = some (2, 36) := h9.2.2.2.2.2.2.2.2.2.2.2.2.1
theorem L11_r12 {σ : Sg} {o : Nat} (h9 : L11 σ o) : σ.2.2 o 12 = some (o + 7) := h9.2.2.2.2.2.2.2.2.2.2.2.2.2.1
theorem L11_s12 {σ : Sg} {o : Nat} (h9 : L11 σ o) : σ.2.1 (o + 7) = some (1, 36) := h9.2.2.2.2.2.2.2.2.2.2.2.2.2.2.1
theorem L11_r24 {σ : Sg} {o : Nat} (h9 : L11 σ o) : σ.2.2 o 24 = some (o + 8) := h9.2.2.2.2.2.2.2.2.2.2.2.2.2.2.2.1
theorem L11_s24 {σ : Sg} {o : Nat} (h9 : L11 σ o) : σ.2.1 (o + 8) = some (1, 14) := h9.2.2.2.2.2.2.2.2.2.2.2.2.2.2.2.2.1
theorem L11_r25 {σ : Sg} {o : Nat} (h9 : L11 σ o) : σ.2.2 o 25 = some (o + 9) := h9.2.2.2.2.2.2.2.2.2.2.2.2.2.2.2.2.2.1
theorem L11_s25 {σ : Sg} {o : Nat} (h9 : L11 σ o) : σ.2.1 (o + 9) = some (1, 14) := h9.2.2.2.2.2.2.2.2.2.2.2.2.2.2.2.2.2.2.1
theorem L11_r26 {σ : Sg} {o : Nat} (h9 : L11 σ o) : σ.2.2 o 26 = some (o + 10) := h9.2.2.2.2.2.2.2.2.2.2.2.2.2.2.2.2.2.2.2.1
theorem L11_s26 {σ : Sg} {o : Nat} (h9 : L11 σ o) : σ.2.1 (o + 10) = some (1, 800) := h9.2.2.2.2.2.2.2.2.2.2.2.2.2.2.2.2.2.2.2.2.1
theorem L11_r28 {σ : Sg} {o : Nat} (h9 : L11 σ o) : σ.2.2 o 28 = some (o + 11) := h9.2.2.2.2.2.2.2.2.2.2.2.2.2.2.2.2.2.2.2.2.2.1
theorem L11_s28 {σ : Sg} {o : Nat} (h9 : L11 σ o) : σ.2.1 (o + 11) = some (1, 5) := h9.2.2.2.2.2.2.2.2.2.2.2.2.2.2.2.2.2.2.2.2.2.2.1
theorem L11_r29 {σ : Sg} {o : Nat} (h9 : L11 σ o) : σ.2.2 o 29 = some (o + 12) := h9.2.2.2.2.2.2.2.2.2.2.2.2.2.2.2.2.2.2.2.2.2.2.2.1
theorem L11_s29 {σ : Sg} {o : Nat} (h9 : L11 σ o) : σ.2.1 (o + 12) = some (1, 5) := h9.2.2.2.2.2.2.2.2.2.2.2.2.2.2.2.2.2.2.2.2.2.2.2.2.1
theorem L11_r32 {σ : Sg} {o : Nat} (h9 : L11 σ o) : σ.2.2 o 32 = some (o + 13) := h9.2.2.2.2.2.2.2.2.2.2.2.2.2.2.2.2.2.2.2.2.2.2.2.2.2.1
theorem L11_s32 {σ : Sg} {o : Nat} (h9 : L11 σ o) : σ.2.1 (o + 13) = some (1, 10) := h9.2.2.2.2.2.2.2.2.2.2.2.2.2.2.2.2.2.2.2.2.2.2.2.2.2.2.1
theorem L11_r33 {σ : Sg} {o : Nat} (h9 : L11 σ o) : σ.2.2 o 33 = some (o + 14) := h9.2.2.2.2.2.2.2.2.2.2.2.2.2.2.2.2.2.2.2.2.2.2.2.2.2.2.2.1
theorem L11_s33 {σ : Sg} {o : Nat} (h9 : L11 σ o) : σ.2.1 (o + 14) = some (1, 10) := h9.2.2.2.2.2.2.2.2.2.2.2.2.2.2.2.2.2.2.2.2.2.2.2.2.2.2.2.2
def L7 (σ : Sg) (o t h : Nat) : Prop := σ.2.1 o = some (0, 7) ∧ σ.2.2 o 0 = some t ∧ L8 σ t ∧ σ.2.2 o 1 = some h ∧ L4 σ h
theorem L7_0 {σ : Sg} {o t h : Nat} (h9 : L7 σ o t h) : σ.2.1 o = some (0, 7) := h9.1
theorem L7_r0 {σ : Sg} {o t h : Nat} (h9 : L7 σ o t h) : σ.2.2 o 0 = some t := h9.2.1
theorem L7_o0 {σ : Sg} {o t h : Nat} (h9 : L7 σ o t h) : L8 σ t := h9.2.2.1
theorem L7_r1 {σ : Sg} {o t h : Nat} (h9 : L7 σ o t h) : σ.2.2 o 1 = some h := h9.2.2.2.1
theorem L7_o1 {σ : Sg} {o t h : Nat} (h9 : L7 σ o t h) : L4 σ h := h9.2.2.2.2
def L10 (σ : Sg) (o h p : Nat) : Prop := σ.2.1 o = some (0, 10) ∧ σ.2.2 o 0 = some (o + 1) ∧ σ.2.1 (o + 1) = some (3, 1000) ∧ σ.2.2 o 2 = some h ∧ L4 σ h ∧ σ.2.2 o 3 = some p ∧ L4 σ p ∧ σ.2.2 o 5 = some (o + 152) ∧ L8 σ (o + 152) ∧ σ.2.2 o 6 = some (o + 156) ∧ L0 σ (o + 156) ∧ σ.2.2 o 7 = some (o + 160) ∧ L3 σ (o + 160) ∧ σ.2.2 o 8 = some (o + 163) ∧ L2 σ (o + 163)
theorem L10_0 {σ : Sg} {o h p : Nat} (h9 : L10 σ o h p) : σ.2.1 o = some (0, 10) := h9.1
theorem L10_r0 {σ : Sg} {o h p : Nat} (h9 : L10 σ o h p) : σ.2.2 o 0 = some (o + 1) := h9.2.1
theorem L10_s0 {σ : Sg} {o h p : Nat} (h9 : L10 σ o h p) : σ.2.1 (o + 1) = some (3, 1000) := h9.2.2.1
theorem L10_r2 {σ : Sg} {o h p : Nat} (h9 : L10 σ o h p) : σ.2.2 o 2 = some h := h9.2.2.2.1
theorem L10_o2 {σ : Sg} {o h p : Nat} (h9 : L10 σ o h p) : L4 σ h := h9.2.2.2.2.1
theorem L10_r3 {σ : Sg} {o h p : Nat} (h9 : L10 σ o h p) : σ.2.2 o 3 = some p := h9.2.2.2.2.2.1
theorem L10_o3 {σ : Sg} {o h p : Nat} (h9 : L10 σ o h p) : L4 σ p := h9.2.2.2.2.2.2.1
theorem L10_r5 {σ : Sg} {o h p : Nat} (h9 : L10 σ o h p) : σ.2.2 o 5 = some (o + 152) := h9.2.2.2.2.2.2.2.1
theorem L10_o5 {σ : Sg} {o h p : Nat} (h9 : L10 σ o h p) : L8 σ (o + 152) := h9.2.2.2.2.2.2.2.2.1
theorem L10_r6 {σ : Sg} {o h p : Nat} (h9 : L10 σ o h p) : σ.2.2 o 6 = some (o + 156) := h9.2.2.2.2.2.2.2.2.2.1
theorem L10_o6 {σ : Sg} {o h p : Nat} (h9 : L10 σ o h p) : L0 σ (o + 156) := h9.2.2.2.2.2.2.2.2.2.2.1
theorem L10_r7 {σ : Sg} {o h p : Nat} (h9 : L10 σ o h p) : σ.2.2 o 7 = some (o + 160) := h9.2.2.2.2.2.2.2.2.2.2.2.1
theorem L10_o7 {σ : Sg} {o h p : Nat} (h9 : L10 σ o h p) : L3 σ (o + 160) := h9.2.2.2.2.2.2.2.2.2.2.2.2.1
theorem L10_r8 {σ : Sg} {o h p : Nat} (h9 : L10 σ o h p) : σ.2.2 o 8 = some (o + 163) := h9.2.2.2.2.2.2.2.2.2.2.2.2.2.1
theorem L10_o8 {σ : Sg} {o h p : Nat} (h9 : L10 σ o h p) : L2 σ (o + 163) := h9.2.2.2.2.2.2.2.2.2.2.2.2.2.2
/-- an index in its row -/
def inB (x : Int32) (n : Nat) : Bool := !decide (x < 0) && decide (x.toNatClampNeg < n)
theorem inB_vp {x : Int32} {n : Nat} (h : inB x n = true) : vp_in x n := by
  simp only [inB, Bool.and_eq_true, Bool.not_eq_true', decide_eq_false_iff_not, decide_eq_true_eq] at h
  exact fun q => q.elim h.1 (fun e => absurd h.2 (Nat.not_lt.mpr e))
theorem inB_lt {x : Int32} {n : Nat} (h : inB x n = true) : x.toNatClampNeg < n := vp_lt (inB_vp h)
theorem ite_p {α : Type} {c : Prop} [Decidable c] {a b r : α} (hc : c) (h : (if c then a else b) = r) : a = r := (if_pos hc).symm.trans h
theorem ite_n {α : Type} {c : Prop} [Decidable c] {a b r : α} (hc : ¬ c) (h : (if c then a else b) = r) : b = r := (if_neg hc).symm.trans h
theorem ite_f {α : Type} {e : Bool} {a b r : α} (hc : e = false) (h : (if e = true then a else b) = r) : b = r := (if_neg (by rw [hc]; decide)).symm.trans h
theorem ite_o {α : Type} {c : Prop} [Decidable c] {a : Option α} {r : α} (h : (if c then a else none) = some r) : c ∧ a = some r := by
  by_cases hc : c
  · exact ⟨hc, (if_pos hc).symm.trans h⟩
  · rw [if_neg hc] at h; cases h
theorem bnd {α β : Type} {x : Option α} {f : α → Option β} {r : β} (h : x.bind f = some r) : ∃ v, x = some v ∧ f v = some r := Option.bind_eq_some_iff.mp h
def FUEL : Nat := 1000000
