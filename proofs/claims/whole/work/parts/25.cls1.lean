/-! the class's rows over q, and its functions: who is there, where wires run, how long they are -/
def XTr (t : Nat) (d : Dt) (q : Nat → Int32) : Prop := d.1 t 0 = q 2 ∧ ∀ i, i < nN q → d.1 (t + 1) i = q (7 + i) ∧ d.1 (t + 2) i = q (21 + i) ∧ (1 ≤ i → d.1 (t + 3) i = q (35 + i))
def XPl (p : Nat) (d : Dt) (q : Nat → Int32) : Prop := d.1 p 0 = q 4 ∧ ∀ i, i < nP q → ∀ k, k < 6 → d.1 (p + 1 + k) i = q (49 + 6 * i + k)
def XNe (n : Nat) (d : Dt) (q : Nat → Int32) : Prop := d.1 n 0 = q 5 ∧ ∀ i, i < nT q → (∀ k, k < 6 → d.1 (n + 1 + k) i = q (97 + 16 * i + k)) ∧ ∀ k, k < many q i → d.1 (n + 8 + i) k = pinA q i k ∧ d.1 (n + 19 + i) k = pinB q i k ∧ d.1 (n + 30 + i) k = nI (pn q i k)
def XBu (b : Nat) (d : Dt) (q : Nat → Int32) : Prop := d.1 b 0 = q 6 ∧ ∀ i, i < nB q → d.1 (b + 1) i = q (257 + 2 * i) ∧ d.1 (b + 2) i = q (257 + 2 * i + 1)
/-- what the tree keeps: places, what is beyond, FAR -/
def stp (l : List Int32) (q : Nat → Int32) (i : Nat) : Int32 := l.getD (q (35 + i)).toNatClampNeg 0 * q (21 + i)
def posF (l : List Int32) (q : Nat → Int32) : Nat → Nat → Int32
  | 0, _ => 0
  | f + 1, i => if i = 0 then 0 else posF l q f (uq q i) + stp l q i
def pos (l : List Int32) (q : Nat → Int32) (i : Nat) : Int32 := posF l q i i
def XTd (t : Nat) (d : Dt) (q : Nat → Int32) : Prop := ∀ i, i < nN q → d.1 (t + 4) i = pos [0, 1, 0, -1] q i ∧ d.1 (t + 5) i = pos [1, 0, -1, 0] q i ∧ (∀ j, j < nN q → bit (d.1 (t + 6) i) j = anc q j i) ∧ ∀ j, j < nN q → d.1 (t + 8 + i) j = far q i j
def XR (h : Nat) (d : Dt) (q : Nat → Int32) : Prop := (d.1 h 0 = q 0 ∧ d.1 h 1 = q 1 ∧ d.1 h 2 = q 3) ∧ XTr (h + 3) d q ∧ XPl (h + 25) d q ∧ XNe (h + 32) d q ∧ XBu (h + 72) d q ∧ XTd (h + 3) d q
theorem XR.tr {h : Nat} {d : Dt} {q : Nat → Int32} (x : XR h d q) : XTr (h + 3) d q := x.2.1
theorem XR.pl {h : Nat} {d : Dt} {q : Nat → Int32} (x : XR h d q) : XPl (h + 25) d q := x.2.2.1
theorem XR.ne {h : Nat} {d : Dt} {q : Nat → Int32} (x : XR h d q) : XNe (h + 32) d q := x.2.2.2.1
theorem XR.bu {h : Nat} {d : Dt} {q : Nat → Int32} (x : XR h d q) : XBu (h + 72) d q := x.2.2.2.2.1
theorem XR.td {h : Nat} {d : Dt} {q : Nat → Int32} (x : XR h d q) : XTd (h + 3) d q := x.2.2.2.2.2
theorem bit_has0 {v : Int32} {j : Nat} (hj : j < 32) : ((v >>> (nI j &&& 31)) &&& (1 : Int32) = (0 : Int32)) ↔ bit v j = false := by
  rw [← Int32.toBitVec_inj, Int32.toBitVec_and, Int32.toBitVec_shiftRight, sh_amt j hj]
  show (BitVec.sshiftRight' v.toBitVec (BitVec.ofNat 32 j)) &&& 1#32 = 0#32 ↔ _
  rw [BitVec.and_one_eq_setWidth_ofBool_getLsbD]
  have h1 : (BitVec.sshiftRight' v.toBitVec (BitVec.ofNat 32 j)).getLsbD 0 = v.toBitVec.getLsbD j := by
    rw [BitVec.sshiftRight_eq', BitVec.getLsbD_sshiftRight]
    simp [Nat.mod_eq_of_lt (show j < 4294967296 by omega), hj]
  rw [h1]
  unfold bit
  cases v.toBitVec.getLsbD j <;> decide
theorem X_isThere {o : Nat} {a b v : Int32} (h : whenOk o a b) (ho : o ≤ 4) : mX10_isThere a b v = mX12_isThen a b v := by
  unfold mX10_isThere mX12_isThen
  rcases h with ⟨rfl, -⟩ | ⟨j, hj, rfl, hb⟩
  · rw [if_pos (by decide), if_pos rfl]
  · have h2 : ¬ nI j = (-2 : Int32) := by
      have : ∀ j, j < 4 → ¬ nI j = (-2 : Int32) := by decide +kernel
      exact this j (by omega)
    rw [if_neg (nI_pos (by omega)), if_neg h2, has10 (by omega)]
    rcases hb with rfl | rfl
    · rw [if_neg (by decide)]
      by_cases e : bit v j = false
      · rw [if_pos ((bit_has0 (by omega)).mpr e), e]; rfl
      · rw [if_neg (fun z => e ((bit_has0 (by omega)).mp z))]
        have : bit v j = true := by simpa using e
        rw [this]; rfl
    · rw [if_pos rfl]
      by_cases e : bit v j = true
      · rw [if_pos ((bit_has (by omega)).mpr e), e]; rfl
      · rw [if_neg (fun z => e ((bit_has (by omega)).mp z))]
        have : bit v j = false := by simpa using e
        rw [this]; rfl
def plg (q : Nat → Int32) (v : Int32) : Int32 := bset (fun i => thP q i v) (nP q)
theorem X_plugsThere {h : Nat} {d : Dt} {q : Nat → Int32} (x : XR h d q) (w : WF q) (v : Int32) : mX10_plugsThere h v d = some (plg q v) := by
  have hp := w.p
  unfold mX10_plugsThere plg bset
  exact loop_fo (fun n i a => mX10_plugsThere_4 d h v n a i) _ some (nP q) (fun _ _ => True)
    (fun fuel i a hi _ => by
      have h4 : d.1 (h + 30) i = q (49 + 6 * i + 4) := x.pl.2 i hi 4 (by omega)
      have h5 : d.1 (h + 31) i = q (49 + 6 * i + 5) := x.pl.2 i hi 5 (by omega)
      show mX10_plugsThere_4 d h v (fuel + 1) a (nI i) = mX10_plugsThere_4 d h v fuel (if thP q i v = true then _ else a) _
      rw [mX10_plugsThere_4, show d.1 (h + 25) 0 = nI (nP q) from x.pl.1.trans hp.1, if_neg (nI_ge hi (by omega)), if_pos (inB_nI (by omega) (by decide)), if_pos (inB_nI (by omega) (by decide)), cl_nI (by omega), h4, h5, X_isThere (w.plug hi).2.2.2.2 w.o.2, nI_1]
      show (if thP q i v = true then _ else _) = _
      by_cases e : thP q i v = true
      · rw [if_pos e, if_pos e]
      · rw [if_neg e, if_neg e])
    (fun _ _ _ _ => trivial)
    (fun fuel a _ => by
      show mX10_plugsThere_4 d h v (fuel + 1) a (nI (nP q)) = _
      rw [mX10_plugsThere_4, show d.1 (h + 25) 0 = nI (nP q) from x.pl.1.trans hp.1, if_pos (Int32.le_refl _)])
    (nP q) 0 0 FUEL (Nat.zero_add _) trivial (fuel_big (by omega))
theorem X_pinsThere {h : Nat} {d : Dt} {q : Nat → Int32} (x : XR h d q) (w : WF q) (v : Int32) {i : Nat} (hi : i < nT q) : mX10_pinsThere h v (nI i) d = some (pins q v i) := by
  have ht := w.t
  have hm := w.mny hi
  have hp := w.p
  have h3 : d.1 (h + 36) i = q (97 + 16 * i + 3) := (x.ne.2 i hi).1 3 (by omega)
  have h4 : d.1 (h + 37) i = q (97 + 16 * i + 4) := (x.ne.2 i hi).1 4 (by omega)
  have h2 : d.1 (h + 32 + 3) i = nI (many q i) := ((x.ne.2 i hi).1 2 (by omega)).trans hm.1
  unfold mX10_pinsThere pins
  rw [if_pos (inB_nI (by omega) (by decide)), if_pos (inB_nI (by omega) (by decide)), cl_nI (by omega), h3, h4, X_isThere (w.net hi).2.2.2.1 w.o.2]
  by_cases e : mX12_isThen (q (97 + 16 * i + 3)) (q (97 + 16 * i + 4)) v = true
  · rw [if_pos e, if_pos e]
    exact loop_fo (fun n k a => mX10_pinsThere_32 d h v (nI i) (h + 32) n a k) _ some (many q i) (fun _ _ => True)
      (fun fuel k a hk _ => by
        have hpp := w.pin hi hk
        have hA : d.1 (h + 32 + 8 + i) k = nI (pp q i k) := ((x.ne.2 i hi).2 k hk).1.trans hpp.1
        have h30 : d.1 (h + 30) (pp q i k) = q (49 + 6 * pp q i k + 4) := x.pl.2 _ hpp.2 4 (by omega)
        have h31 : d.1 (h + 31) (pp q i k) = q (49 + 6 * pp q i k + 5) := x.pl.2 _ hpp.2 5 (by omega)
        show mX10_pinsThere_32 d h v (nI i) (h + 32) (fuel + 1) a (nI k) = mX10_pinsThere_32 d h v (nI i) (h + 32) fuel (if thP q (pp q i k) v = true then _ else a) _
        rw [mX10_pinsThere_32, if_pos (inB_nI (by omega) (by decide)), cl_nI (by omega), h2, if_neg (nI_ge hk (by omega)), if_pos (inB_nI (by omega) (by decide)), if_pos (inB_nI (by omega) (by decide)), cl_nI (by omega), hA, if_pos (inB_nI (by omega) (by decide)), if_pos (inB_nI (by omega) (by decide)), cl_nI (by omega), h30, h31, X_isThere (w.plug hpp.2).2.2.2.2 w.o.2, nI_1]
        show (if thP q (pp q i k) v = true then _ else _) = _
        by_cases e : thP q (pp q i k) v = true
        · rw [if_pos e, if_pos e]
        · rw [if_neg e, if_neg e])
      (fun _ _ _ _ => trivial)
      (fun fuel a _ => by
        show mX10_pinsThere_32 d h v (nI i) (h + 32) (fuel + 1) a (nI (many q i)) = _
        rw [mX10_pinsThere_32, if_pos (inB_nI (by omega) (by decide)), cl_nI (by omega), h2, if_pos (Int32.le_refl _)])
      (many q i) 0 0 FUEL (Nat.zero_add _) trivial (fuel_big (by omega))
  · rw [if_neg e, if_neg e]
theorem X_countFor {q : Nat → Int32} {i : Nat} {s : Int32} (hs : setOk q i s) : mX10_countFor s = if pop s < 2 then 0 else if pop s = 2 then 1 else nI (pop s) := by
  have h5 := pop_5 s
  unfold mX10_countFor
  rw [C_bitCount hs, show (2 : Int32) = nI 2 from rfl]
  by_cases e : pop s < 2
  · rw [if_neg (nI_ge e (by omega)), if_pos e]
  · rw [if_pos (nI_le (by omega) (by omega)), if_neg e]
    by_cases e2 : pop s = 2
    · rw [if_pos (by rw [e2]), if_pos e2]
    · rw [if_neg (fun z => e2 (nI_inj (by omega) (by omega) z)), if_neg e2]
theorem X_needsSplice {q : Nat → Int32} {i : Nat} {s : Int32} (hs : setOk q i s) : mX10_needsSplice s = decide (3 ≤ pop s) := by
  have h5 := pop_5 s
  unfold mX10_needsSplice
  rw [C_bitCount hs, show (2 : Int32) = nI 2 from rfl]
  by_cases e : pop s ≤ 2
  · rw [if_pos (nI_le e (by omega))]; simp; omega
  · rw [if_neg (nI_ge (by omega) (by omega))]; simp; omega
theorem fo_more {α : Type} {f : Nat → α → α} : ∀ l k i a, (∀ j b, i + k ≤ j → f j b = b) → fo f i (k + l) a = fo f i k a := by
  intro l
  induction l with
  | zero => intro k i a _; rfl
  | succ l ih =>
    intro k i a h
    rw [show k + (l + 1) = (k + l) + 1 by omega, fo_last, h _ _ (by omega), ih k i a h]
theorem X_reachOf {h : Nat} {d : Dt} {q : Nat → Int32} (x : XR h d q) (w : WF q) {i a : Nat} {s : Int32} (hi : i < nT q) (hs : setOk q i s) (ha : a < nN q) : mX10_reachOf h (nI i) s (nI a) d = some (rea q i s a) := by
  have ht := w.t
  have hm := w.mny hi
  have hn := w.n
  have h2 : d.1 (h + 35) i = nI (many q i) := ((x.ne.2 i hi).1 2 (by omega)).trans hm.1
  unfold mX10_reachOf rea
  rw [show (5 : Nat) = many q i + (5 - many q i) by omega, fo_more (5 - many q i) (many q i) 0 0 (fun j b hj => by
    by_cases e : bit s j = true
    · by_cases h32 : j < 32
      · have := hs.2 j h32 e; omega
      · have : bit s j = false := by unfold bit; exact BitVec.getLsbD_of_ge _ _ (by omega)
        rw [this] at e; cases e
    · show (if bit s j = true then _ else b) = b; rw [if_neg e])]
  exact loop_fo (fun n k t => mX10_reachOf_6 d h (nI i) s (nI a) n t k) _ some (many q i) (fun _ _ => True)
    (fun fuel k t hk _ => by
      have hpn := (w.pnd hi hk).2
      have hN : d.1 (h + 62 + i) k = nI (pn q i k) := ((x.ne.2 i hi).2 k hk).2.2
      have hF : d.1 (h + 11 + a) (pn q i k) = far q a (pn q i k) := (x.td a ha).2.2.2 _ hpn
      show mX10_reachOf_6 d h (nI i) s (nI a) (fuel + 1) t (nI k) = mX10_reachOf_6 d h (nI i) s (nI a) fuel (if bit s k = true then t + far q (pn q i k) a else t) _
      rw [mX10_reachOf_6, if_pos (inB_nI (by omega) (by decide)), cl_nI (by omega), h2, if_neg (nI_ge hk (by omega)), has10 (by omega), nI_1]
      by_cases e : bit s k = true
      · rw [if_pos e, if_pos e, if_pos (inB_nI (by omega) (by decide)), if_pos (inB_nI (by omega) (by decide)), if_pos (inB_nI (by omega) (by decide)), cl_nI (by omega), cl_nI (by omega), hN, if_pos (inB_nI (by omega) (by decide)), cl_nI (by omega), hF, far_comm]
      · rw [if_neg e, if_neg e])
    (fun _ _ _ _ => trivial)
    (fun fuel t _ => by
      show mX10_reachOf_6 d h (nI i) s (nI a) (fuel + 1) t (nI (many q i)) = _
      rw [mX10_reachOf_6, if_pos (inB_nI (by omega) (by decide)), cl_nI (by omega), h2, if_pos (Int32.le_refl _)])
    (many q i) 0 0 FUEL (Nat.zero_add _) trivial (fuel_big (by omega))
