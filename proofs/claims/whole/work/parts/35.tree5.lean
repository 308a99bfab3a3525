/-! who meets whom, what lies where, how far all reaches -/
def sha (l : List Int32) (q : Nat → Int32) (a b : Nat) : Int32 := mX12_shared (pos l q a) (pos l q (uq q a)) (pos l q b) (pos l q (uq q b))
def hno (q : Nat → Int32) (a b : Nat) : Bool := decide (uq q a = b) || (decide (uq q b = a) || decide (uq q a = uq q b))
def mt (q : Nat → Int32) (a b : Nat) : Bool := if sha LX q a b ≤ 0 then false else if sha LY q a b ≤ 0 then false else if hno q a b = true then decide (¬ sha LX q a b * sha LY q a b ≤ 1) else decide (¬ sha LX q a b * sha LY q a b ≤ 0)
theorem nI_dec {a b : Nat} (ha : a < 2 ^ 31) (hb : b < 2 ^ 31) : (nI a = nI b) = (a = b) := propext ⟨nI_inj ha hb, fun h => by rw [h]⟩
theorem M_haveNode {m : Nat} {d : Dt} {q : Nat → Int32} (hM : MR m d q) (w : WF q) {a b : Nat} (a1 : 1 ≤ a) (ha : a < nN q) (b1 : 1 ≤ b) (hb : b < nN q) : mX12_haveNode m (nI a) (nI b) d = some (hno q a b) := by
  have hn := w.n
  have ua := w.up a1 ha
  have ub := w.up b1 hb
  unfold mX12_haveNode hno
  rw [show (7 : Int32) + nI a = nI (7 + a) by rw [show (7 : Int32) = nI 7 from rfl, nI_add], show (7 : Int32) + nI b = nI (7 + b) by rw [show (7 : Int32) = nI 7 from rfl, nI_add], if_pos (inB_nI (by omega) (by decide)), if_pos (inB_nI (by omega) (by decide)), if_pos (inB_nI (by omega) (by decide)), if_pos (inB_nI (by omega) (by decide)), cl_nI (by omega), cl_nI (by omega), hM _ (by omega), hM _ (by omega), ua.1, ub.1]
  by_cases e1 : uq q a = b
  · rw [if_pos (by rw [e1])]; simp [e1]
  · rw [if_neg (fun z => e1 (nI_inj (by omega) (by omega) z))]
    by_cases e2 : uq q b = a
    · rw [if_pos (by rw [e2])]; simp [e2]
    · rw [if_neg (fun z => e2 (nI_inj (by omega) (by omega) z))]
      by_cases e3 : uq q a = uq q b
      · rw [if_pos (by rw [e3])]; simp [e3]
      · rw [if_neg (fun z => e3 (nI_inj (by omega) (by omega) z))]; simp [e1, e2, e3]
theorem M_doMeet {m : Nat} {d : Dt} {q : Nat → Int32} (hM : MR m d q) (w : WF q) (hP : MP m d q (nN q)) {a b : Nat} (a1 : 1 ≤ a) (ha : a < nN q) (b1 : 1 ≤ b) (hb : b < nN q) : mX12_doMeet m (nI a) (nI b) d = some (mt q a b) := by
  have hn := w.n
  have ua := w.up a1 ha
  have ub := w.up b1 hb
  unfold mX12_doMeet mt
  rw [M_haveNode hM w a1 ha b1 hb]
  rw [show (7 : Int32) + nI a = nI (7 + a) by rw [show (7 : Int32) = nI 7 from rfl, nI_add], show (7 : Int32) + nI b = nI (7 + b) by rw [show (7 : Int32) = nI 7 from rfl, nI_add], if_pos (inB_nI (by omega) (by decide)), if_pos (inB_nI (by omega) (by decide)), cl_nI (show 7 + a < 2 ^ 31 by omega), cl_nI (show 7 + b < 2 ^ 31 by omega), hM (7 + a) (by omega), hM (7 + b) (by omega), ua.1, ub.1, cl_nI (show uq q a < 2 ^ 31 by omega), cl_nI (show uq q b < 2 ^ 31 by omega), cl_nI (show a < 2 ^ 31 by omega), cl_nI (show b < 2 ^ 31 by omega)]
  rw [if_pos (inB_nI (by omega) (by decide)), if_pos (inB_nI (by omega) (by decide)), if_pos (inB_nI (by omega) (by decide)), if_pos (inB_nI (by omega) (by decide)), if_pos (inB_nI (by omega) (by decide)), if_pos (inB_nI (by omega) (by decide)), if_pos (inB_nI (by omega) (by decide)), if_pos (inB_nI (by omega) (by decide))]
  rw [(hP a ha).1, (hP a ha).2, (hP b hb).1, (hP b hb).2, (hP (uq q a) (by omega)).1, (hP (uq q a) (by omega)).2, (hP (uq q b) (by omega)).1, (hP (uq q b) (by omega)).2]
  show (if sha LX q a b ≤ 0 then some false else if sha LY q a b ≤ 0 then some false else ((some (hno q a b)).bind fun x18 => if x18 = true then (if sha LX q a b * sha LY q a b ≤ 1 then some false else some true) else (if sha LX q a b * sha LY q a b ≤ 0 then some false else some true))) = _
  by_cases e1 : sha LX q a b ≤ 0
  · rw [if_pos e1, if_pos e1]
  · rw [if_neg e1, if_neg e1]
    by_cases e2 : sha LY q a b ≤ 0
    · rw [if_pos e2, if_pos e2]
    · rw [if_neg e2, if_neg e2, Option.bind_some]
      cases hno q a b
      · rw [if_neg (show ¬ (false = true) by decide), if_neg (show ¬ (false = true) by decide)]
        by_cases e3 : sha LX q a b * sha LY q a b ≤ 0
        · rw [if_pos e3]; simp [e3]
        · rw [if_neg e3]; simp [e3]
      · rw [if_pos rfl, if_pos rfl]
        by_cases e3 : sha LX q a b * sha LY q a b ≤ 1
        · rw [if_pos e3]; simp [e3]
        · rw [if_neg e3]; simp [e3]
theorem X_endTogether {t : Nat} {d : Dt} {q : Nat → Int32} (x : XTr t d q) (w : WF q) {a b : Nat} (a1 : 1 ≤ a) (ha : a < nN q) (b1 : 1 ≤ b) (hb : b < nN q) : mX9_endTogether t (nI a) (nI b) d = some (hno q a b) := by
  have hn := w.n
  have ua := w.up a1 ha
  have ub := w.up b1 hb
  unfold mX9_endTogether hno
  rw [if_pos (inB_nI (by omega) (by decide)), if_pos (inB_nI (by omega) (by decide)), if_pos (inB_nI (by omega) (by decide)), if_pos (inB_nI (by omega) (by decide)), cl_nI (by omega), cl_nI (by omega), (x.2 a ha).1, (x.2 b hb).1, ua.1, ub.1]
  by_cases e3 : uq q a = uq q b
  · rw [if_pos (by rw [e3])]; simp [e3]
  · rw [if_neg (fun z => e3 (nI_inj (by omega) (by omega) z))]
    by_cases e1 : uq q a = b
    · rw [if_pos (by rw [e1])]; simp [e1]
    · rw [if_neg (fun z => e1 (nI_inj (by omega) (by omega) z))]
      by_cases e2 : uq q b = a
      · rw [if_pos (by rw [e2])]; simp [e2]
      · rw [if_neg (fun z => e2 (nI_inj (by omega) (by omega) z))]; simp [e1, e2, e3]
theorem X_crosses {t : Nat} {d : Dt} {q : Nat → Int32} (x : XTr t d q) (y : XTd t d q) (w : WF q) {a b : Nat} (a1 : 1 ≤ a) (ha : a < nN q) (b1 : 1 ≤ b) (hb : b < nN q) : mX9_crosses t (nI a) (nI b) d = some (mt q a b) := by
  have hn := w.n
  have ua := w.up a1 ha
  have ub := w.up b1 hb
  unfold mX9_crosses mt
  rw [X_endTogether x w a1 ha b1 hb]
  rw [cl_nI (show a < 2 ^ 31 by omega), cl_nI (show b < 2 ^ 31 by omega), (x.2 a ha).1, (x.2 b hb).1, ua.1, ub.1, cl_nI (show uq q a < 2 ^ 31 by omega), cl_nI (show uq q b < 2 ^ 31 by omega)]
  rw [if_pos (inB_nI (by omega) (by decide)), if_pos (inB_nI (by omega) (by decide)), if_pos (inB_nI (by omega) (by decide)), if_pos (inB_nI (by omega) (by decide)), if_pos (inB_nI (by omega) (by decide)), if_pos (inB_nI (by omega) (by decide)), if_pos (inB_nI (by omega) (by decide)), if_pos (inB_nI (by omega) (by decide)), if_pos (inB_nI (by omega) (by decide)), if_pos (inB_nI (by omega) (by decide)), if_pos (inB_nI (by omega) (by decide)), if_pos (inB_nI (by omega) (by decide))]
  rw [(y a ha).1, (y a ha).2.1, (y b hb).1, (y b hb).2.1, (y (uq q a) (by omega)).1, (y (uq q a) (by omega)).2.1, (y (uq q b) (by omega)).1, (y (uq q b) (by omega)).2.1]
  have hu1 : uq q a < nN q := by omega
  have hu2 : uq q b < nN q := by omega
  rw [over_sha (pos_sm2 w LX (Or.inl rfl) ha) (pos_sm2 w LX (Or.inl rfl) hu1) (pos_sm2 w LX (Or.inl rfl) hb) (pos_sm2 w LX (Or.inl rfl) hu2), over_sha (pos_sm2 w LY (Or.inr rfl) ha) (pos_sm2 w LY (Or.inr rfl) hu1) (pos_sm2 w LY (Or.inr rfl) hb) (pos_sm2 w LY (Or.inr rfl) hu2), Option.bind_some]
  show (if hno q a b = true then (if (if sha LX q a b ≤ 0 then 0 else sha LX q a b) * (if sha LY q a b ≤ 0 then 0 else sha LY q a b) ≤ 1 then some false else some true) else (if (if sha LX q a b ≤ 0 then 0 else sha LX q a b) * (if sha LY q a b ≤ 0 then 0 else sha LY q a b) ≤ 0 then some false else some true)) = _
  by_cases e1 : sha LX q a b ≤ 0
  · rw [if_pos e1, if_pos e1, Int32.zero_mul, if_pos (show (0 : Int32) ≤ 1 by decide), if_pos (show (0 : Int32) ≤ 0 by decide), ite_self]
  · rw [if_neg e1, if_neg e1]
    by_cases e2 : sha LY q a b ≤ 0
    · rw [if_pos e2, if_pos e2, Int32.mul_zero, if_pos (show (0 : Int32) ≤ 1 by decide), if_pos (show (0 : Int32) ≤ 0 by decide), ite_self]
    · rw [if_neg e2, if_neg e2]
      cases hno q a b
      · rw [if_neg (show ¬ (false = true) by decide), if_neg (show ¬ (false = true) by decide)]
        by_cases e3 : sha LX q a b * sha LY q a b ≤ 0
        · rw [if_pos e3]; simp [e3]
        · rw [if_neg e3]; simp [e3]
      · rw [if_pos rfl, if_pos rfl]
        by_cases e3 : sha LX q a b * sha LY q a b ≤ 1
        · rw [if_pos e3]; simp [e3]
        · rw [if_neg e3]; simp [e3]
/-- to meet goes both ways -/
theorem mx_comm (a b : Int32) : mxI a b = mxI b a := Int32.toInt_inj.mp (by rw [ti_mx, ti_mx]; split <;> split <;> omega)
theorem mn_comm (a b : Int32) : mnI a b = mnI b a := Int32.toInt_inj.mp (by rw [ti_mn, ti_mn]; split <;> split <;> omega)
theorem sha_comm (l : List Int32) (q : Nat → Int32) (a b : Nat) : sha l q a b = sha l q b a := by
  unfold sha mX12_shared
  rw [mx_eq, mx_eq, mn_eq, mn_eq, mn_eq, mx_eq, mx_eq, mn_eq, mn_comm (mxI (pos l q a) (pos l q (uq q a))), mx_comm (mnI (pos l q a) (pos l q (uq q a)))]
theorem hno_comm (q : Nat → Int32) (a b : Nat) : hno q a b = hno q b a := by
  unfold hno
  rw [show decide (uq q b = uq q a) = decide (uq q a = uq q b) by rw [decide_eq_decide]; exact eq_comm]
  cases decide (uq q a = b) <;> cases decide (uq q b = a) <;> rfl
theorem mt_comm (q : Nat → Int32) (a b : Nat) : mt q a b = mt q b a := by
  unfold mt
  rw [sha_comm LX, sha_comm LY, hno_comm]
