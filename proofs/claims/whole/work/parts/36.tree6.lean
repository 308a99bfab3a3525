/-! meetings, lying, extents, span: both count alike -/
def sN (f : Nat → Nat) : Nat → Nat → Nat
  | _, 0 => 0
  | i, k + 1 => f i + sN f (i + 1) k
def cN (c : Nat → Bool) (i k : Nat) : Nat := sN (fun j => if c j = true then 1 else 0) i k
theorem sN_last (f : Nat → Nat) : ∀ k i, sN f i (k + 1) = sN f i k + f (i + k) := by
  intro k
  induction k with
  | zero => intro i; show f i + 0 = 0 + f i; omega
  | succ k ih => intro i; show f i + sN f (i + 1) (k + 1) = f i + sN f (i + 1) k + f (i + (k + 1)); rw [ih, show i + 1 + k = i + (k + 1) by omega]; omega
theorem sN_add (f g : Nat → Nat) : ∀ k i, sN (fun j => f j + g j) i k = sN f i k + sN g i k := by
  intro k
  induction k with
  | zero => intro i; rfl
  | succ k ih => intro i; show f i + g i + sN _ (i + 1) k = f i + sN f (i + 1) k + (g i + sN g (i + 1) k); rw [ih]; omega
theorem sN_congr {f g : Nat → Nat} : ∀ k i, (∀ j, i ≤ j → j < i + k → f j = g j) → sN f i k = sN g i k := by
  intro k
  induction k with
  | zero => intro i _; rfl
  | succ k ih => intro i h; show f i + _ = g i + _; rw [h i (Nat.le_refl _) (by omega), ih (i + 1) (fun j h1 h2 => h j (by omega) (by omega))]
theorem tri (c : Nat → Nat → Bool) (hc : ∀ a b, c a b = c b a) : ∀ k, sN (fun a => cN (c a) (a + 1) (k - a)) 1 k = sN (fun a => cN (c a) 1 (a - 1)) 1 k := by
  intro k
  induction k with
  | zero => rfl
  | succ k ih =>
    rw [sN_last, sN_last, ← ih, show 1 + k = k + 1 by omega, show k + 1 - (k + 1) = 0 by omega, show k + 1 - 1 = k by omega]
    have e : sN (fun a => cN (c a) (a + 1) (k + 1 - a)) 1 k = sN (fun a => cN (c a) (a + 1) (k - a) + (if c (k + 1) a = true then 1 else 0)) 1 k := by
      refine sN_congr k 1 fun a h1 h2 => ?_
      rw [show k + 1 - a = (k - a) + 1 by omega]
      unfold cN
      rw [sN_last, show a + 1 + (k - a) = k + 1 by omega, hc a (k + 1)]
    rw [e, sN_add]
    rfl
theorem fo_sum2 {F : Nat → Int32 → Int32} {f : Nat → Nat} (h : ∀ a s, F a (nI s) = nI (s + f a)) : ∀ k i s, fo F i k (nI s) = nI (s + sN f i k) := by
  intro k
  induction k with
  | zero => intro i s; rfl
  | succ k ih => intro i s; show fo F (i + 1) k (F i (nI s)) = nI (s + (f i + sN f (i + 1) k)); rw [h, ih]; congr 1; omega
theorem fo_cnt (c : Nat → Bool) (k i s : Nat) : fo (fun j (t : Int32) => if c j = true then t + 1 else t) i k (nI s) = nI (s + cN c i k) := by
  refine fo_sum2 (fun a s => ?_) k i s
  by_cases e : c a = true
  · rw [if_pos e, if_pos e, nI_1]
  · rw [if_neg e, if_neg e]; rfl
theorem X_countCrossings {t : Nat} {d : Dt} {q : Nat → Int32} (x : XTr t d q) (y : XTd t d q) (w : WF q) : mX9_countCrossings t d = some (nI (sN (fun a => cN (mt q a) (a + 1) (nN q - 1 - a)) 1 (nN q - 1))) := by
  have hn := w.n
  have rd : d.1 t 0 = nI (nN q) := x.1.trans hn.1
  unfold mX9_countCrossings
  have lp := loop_fo (fun n i v => mX9_countCrossings_4 d t n v i) (fun a v => fo (fun j (t : Int32) => if mt q a j = true then t + 1 else t) (a + 1) (nN q - 1 - a) v) some (nN q) (fun a _ => 1 ≤ a)
    (fun fuel a v ha a1 => by
      show mX9_countCrossings_4 d t (fuel + 1) v (nI a) = _
      rw [mX9_countCrossings_4, rd, if_neg (nI_ge ha (by omega)), nI_1]
      refine (loop_fo (fun n j v => mX9_countCrossings_16 (mX9_countCrossings_4 d t fuel) d t (nI a) n v j) (fun j (t : Int32) => if mt q a j = true then t + 1 else t) (fun v => mX9_countCrossings_4 d t fuel v (nI (a + 1))) (nN q) (fun j _ => 1 ≤ j)
        (fun f2 j v hj j1 => ?_) (fun _ _ _ _ => by omega) (fun f2 v _ => ?_) (nN q - 1 - a) (a + 1) v FUEL (by omega) (by omega) (fuel_big (by omega)))
      · show mX9_countCrossings_16 (mX9_countCrossings_4 d t fuel) d t (nI a) (f2 + 1) v (nI j) = mX9_countCrossings_16 (mX9_countCrossings_4 d t fuel) d t (nI a) f2 (if mt q a j = true then v + 1 else v) _
        rw [mX9_countCrossings_16, rd, if_neg (nI_ge hj (by omega)), X_crosses x y w a1 ha j1 hj, Option.bind_some, nI_1]
        by_cases e : mt q a j = true
        · rw [if_pos e, if_pos e]
        · rw [if_neg e, if_neg e]
      · show mX9_countCrossings_16 (mX9_countCrossings_4 d t fuel) d t (nI a) (f2 + 1) v (nI (nN q)) = _
        rw [mX9_countCrossings_16, rd, if_pos (Int32.le_refl _), nI_1])
    (fun _ _ _ _ => by omega)
    (fun fuel v _ => by
      show mX9_countCrossings_4 d t (fuel + 1) v (nI (nN q)) = _
      rw [mX9_countCrossings_4, rd, if_pos (Int32.le_refl _)])
    (nN q - 1) 1 (nI 0) FUEL (by omega) (Nat.le_refl _) (fuel_big (by omega))
  refine lp.trans (congrArg some ?_)
  rw [fo_sum2 (f := fun a => cN (mt q a) (a + 1) (nN q - 1 - a)) (fun a s => fo_cnt _ _ _ _), Nat.zero_add]
theorem M_meetings {m : Nat} {d : Dt} {q : Nat → Int32} (hM : MR m d q) (w : WF q) (hP : MP m d q (nN q)) : mX12_meetings_24 m FUEL 0 1 d = some (nI (sN (fun a => cN (mt q a) (a + 1) (nN q - 1 - a)) 1 (nN q - 1)), d) := by
  have hn := w.n
  rw [tri (mt q) (mt_comm q)]
  have lp := loop_fo (fun n i v => mX12_meetings_24 m n v i d) (fun a v => fo (fun j (t : Int32) => if mt q a j = true then t + 1 else t) 1 (a - 1) v) (fun v => some (v, d)) (nN q) (fun a _ => 1 ≤ a)
    (fun fuel a v ha a1 => by
      show mX12_meetings_24 m (fuel + 1) v (nI a) d = _
      rw [mX12_meetings_24, if_pos ib2, row2 hM, hn.1, if_neg (nI_ge ha (by omega))]
      refine (loop_fo (fun n j v => mX12_meetings_36 (mX12_meetings_24 m fuel) m (nI a) n v j d) (fun j (t : Int32) => if mt q a j = true then t + 1 else t) (fun v => mX12_meetings_24 m fuel v (nI (a + 1)) d) a (fun j _ => 1 ≤ j)
        (fun f2 j v hj j1 => ?_) (fun _ _ _ _ => by omega) (fun f2 v _ => ?_) (a - 1) 1 v FUEL (by omega) (by omega) (fuel_big (by omega)))
      · show mX12_meetings_36 (mX12_meetings_24 m fuel) m (nI a) (f2 + 1) v (nI j) d = mX12_meetings_36 (mX12_meetings_24 m fuel) m (nI a) f2 (if mt q a j = true then v + 1 else v) _ d
        rw [mX12_meetings_36, if_neg (nI_ge hj (by omega)), M_doMeet hM w hP a1 ha j1 (by omega), Option.bind_some, nI_1]
        by_cases e : mt q a j = true
        · rw [if_pos e, if_pos e]
        · rw [if_neg e, if_neg e, Int32.add_zero]
      · show mX12_meetings_36 (mX12_meetings_24 m fuel) m (nI a) (f2 + 1) v (nI a) d = _
        rw [mX12_meetings_36, if_pos (Int32.le_refl _), nI_1])
    (fun _ _ _ _ => by omega)
    (fun fuel v _ => by
      show mX12_meetings_24 m (fuel + 1) v (nI (nN q)) d = _
      rw [mX12_meetings_24, if_pos ib2, row2 hM, hn.1, if_pos (Int32.le_refl _)])
    (nN q - 1) 1 (nI 0) FUEL (by omega) (Nat.le_refl _) (fuel_big (by omega))
  refine lp.trans (congrArg some ?_)
  rw [fo_sum2 (f := fun a => cN (mt q a) 1 (a - 1)) (fun a s => fo_cnt _ _ _ _), Nat.zero_add]
-- lying
def lyc (q : Nat → Int32) (px py : Int32) (i : Nat) : Bool := mX12_in px (mX12_least (pos LX q i) (pos LX q (uq q i))) (mX12_most (pos LX q i) (pos LX q (uq q i))) && mX12_in py (mX12_least (pos LY q i) (pos LY q (uq q i))) (mX12_most (pos LY q i) (pos LY q (uq q i)))
def lyi (q : Nat → Int32) (px py : Int32) : Int32 := fo (fun i b => if lyc q px py i = true then b ||| ((1 : Int32) <<< (nI i &&& 31)) else b) 1 (nN q - 1) 0
theorem X_bundlesOn {t : Nat} {d : Dt} {q : Nat → Int32} (x : XTr t d q) (y : XTd t d q) (w : WF q) (px py : Int32) : mX9_bundlesOn t px py d = some (lyi q px py) := by
  have hn := w.n
  have rd : d.1 t 0 = nI (nN q) := x.1.trans hn.1
  unfold mX9_bundlesOn lyi
  exact loop_fo (fun n i v => mX9_bundlesOn_5 d t px py n v i) _ some (nN q) (fun a _ => 1 ≤ a)
    (fun fuel i v hi h1 => by
      have hu := w.up h1 hi
      show mX9_bundlesOn_5 d t px py (fuel + 1) v (nI i) = mX9_bundlesOn_5 d t px py fuel (if lyc q px py i = true then _ else v) _
      rw [mX9_bundlesOn_5, rd, if_neg (nI_ge hi (by omega)), cl_nI (show i < 2 ^ 31 by omega), (x.2 i hi).1, hu.1, cl_nI (show uq q i < 2 ^ 31 by omega), (y i hi).1, (y i hi).2.1, (y (uq q i) (by omega)).1, (y (uq q i) (by omega)).2.1, nI_1]
      rw [if_pos (inB_nI (by omega) (by decide)), if_pos (inB_nI (by omega) (by decide)), if_pos (inB_nI (by omega) (by decide)), if_pos (inB_nI (by omega) (by decide)), if_pos (inB_nI (by omega) (by decide)), if_pos (inB_nI (by omega) (by decide))]
      have o1 := over_pt (pos LX q i) (pos LX q (uq q i)) px
      have o2 := over_pt (pos LY q i) (pos LY q (uq q i)) py
      unfold lyc
      by_cases e1 : mX12_in px (mX12_least (pos LX q i) (pos LX q (uq q i))) (mX12_most (pos LX q i) (pos LX q (uq q i))) = true
      · rw [if_neg (fun z => (o1.mp z) e1), e1, Bool.true_and]
        by_cases e2 : mX12_in py (mX12_least (pos LY q i) (pos LY q (uq q i))) (mX12_most (pos LY q i) (pos LY q (uq q i))) = true
        · rw [if_neg (fun z => (o2.mp z) e2), if_pos e2]
        · rw [if_pos (o2.mpr e2), if_neg e2]
      · rw [if_pos (o1.mpr e1), if_neg (fun z => e1 (Bool.and_eq_true_iff.mp z).1)])
    (fun _ _ _ _ => by omega)
    (fun fuel v _ => by
      show mX9_bundlesOn_5 d t px py (fuel + 1) v (nI (nN q)) = _
      rw [mX9_bundlesOn_5, rd, if_pos (Int32.le_refl _)])
    (nN q - 1) 1 0 FUEL (by omega) (Nat.le_refl _) (fuel_big (by omega))
theorem M_lying {m : Nat} {d : Dt} {q : Nat → Int32} (hM : MR m d q) (w : WF q) (hP : MP m d q (nN q)) (px py : Int32) : mX12_lying_25 m px py FUEL 0 1 d = some (lyi q px py, d) := by
  have hn := w.n
  unfold lyi
  exact loop_fo (fun n i v => mX12_lying_25 m px py n v i d) _ (fun v => some (v, d)) (nN q) (fun a _ => 1 ≤ a)
    (fun fuel i v hi h1 => by
      have hu := w.up h1 hi
      show mX12_lying_25 m px py (fuel + 1) v (nI i) d = mX12_lying_25 m px py fuel (if lyc q px py i = true then _ else v) _ d
      rw [mX12_lying_25, if_pos ib2, row2 hM, hn.1, if_neg (nI_ge hi (by omega)), show (7 : Int32) + nI i = nI (7 + i) by rw [show (7 : Int32) = nI 7 from rfl, nI_add], if_pos (inB_nI (by omega) (by decide)), cl_nI (show 7 + i < 2 ^ 31 by omega), cl_nI (show i < 2 ^ 31 by omega), hM _ (by omega), hu.1, cl_nI (show uq q i < 2 ^ 31 by omega), (hP i hi).1, (hP i hi).2, (hP (uq q i) (by omega)).1, (hP (uq q i) (by omega)).2]
      rw [if_pos (inB_nI (by omega) (by decide)), if_pos (inB_nI (by omega) (by decide)), if_pos (inB_nI (by omega) (by decide)), if_pos (inB_nI (by omega) (by decide)), if_pos (inB_nI (by omega) (by decide)), if_pos (inB_nI (by omega) (by decide)), if_pos (inB_nI (by omega) (by decide)), if_pos (inB_nI (by omega) (by decide))]
      have t1 : mX12_lying_135 (mX12_lying_25 m px py fuel) m px py v (nI i) 1 d = mX12_lying_25 m px py fuel (v ||| ((1 : Int32) <<< (nI i &&& 31))) (nI (i + 1)) d := by
        unfold mX12_lying_135; rw [if_neg (by decide), nI_1]
      have t0 : mX12_lying_135 (mX12_lying_25 m px py fuel) m px py v (nI i) 0 d = mX12_lying_25 m px py fuel v (nI (i + 1)) d := by
        unfold mX12_lying_135; rw [if_pos rfl, nI_1, Int32.or_zero]
      rw [t1, t0]
      unfold lyc
      by_cases e1 : mX12_in px (mX12_least (pos LX q i) (pos LX q (uq q i))) (mX12_most (pos LX q i) (pos LX q (uq q i))) = true
      · rw [if_pos e1, e1, Bool.true_and]
        by_cases e2 : mX12_in py (mX12_least (pos LY q i) (pos LY q (uq q i))) (mX12_most (pos LY q i) (pos LY q (uq q i))) = true
        · rw [if_pos e2, if_pos e2]
        · rw [if_neg e2, if_neg e2]
      · rw [if_neg e1, if_neg (fun z => e1 (Bool.and_eq_true_iff.mp z).1)])
    (fun _ _ _ _ => by omega)
    (fun fuel v _ => by
      show mX12_lying_25 m px py (fuel + 1) v (nI (nN q)) d = _
      rw [mX12_lying_25, if_pos ib2, row2 hM, hn.1, if_pos (Int32.le_refl _)])
    (nN q - 1) 1 0 FUEL (by omega) (Nat.le_refl _) (fuel_big (by omega))
