/-! the calls, 4: those of a variant -/
def whyV (q : Nat → Int32) (c : Bool) (v : Int32) : Int32 := if c = true then (if inB v (2 ^ nO q) = true then 0 else 2) else 1
theorem pow_O : ∀ o, o ≤ 4 → (1 : Int32) <<< (nI o &&& 31) = nI (2 ^ o) ∧ 2 ^ o ≤ 16 := by decide +kernel
theorem X_troubleOf {x h p m : Nat} {d : Dt} {q : Nat → Int32} {b : Bool} (s : St x h m d q b) (c : Bool) (v : Int32) : mX11_troubleOf x h p (b2i (b && c)) v d = whyV q (b && c) v := by
  unfold mX11_troubleOf whyV
  cases b
  · rfl
  · cases c
    · rfl
    · obtain ⟨w, hX, -⟩ := s.2.2.2 rfl
      have ho := w.o
      obtain ⟨p1, p2⟩ := pow_O (nO q) ho.2
      rw [if_neg (show ¬ b2i (true && true) = 0 by decide), show d.1 h 2 = nI (nO q) from hX.1.2.2.trans ho.1, p1, if_pos (show (true && true) = true from rfl), ← in_X (v := v) (n := 2 ^ nO q) (by omega)]
      by_cases e : v < 0
      · rw [if_pos e, if_pos e, if_neg (show ¬ false = true by decide)]
      · rw [if_neg e, if_neg e]
        by_cases e2 : nI (2 ^ nO q) ≤ v
        · rw [if_neg (Int32.not_lt.mpr e2), if_pos e2, if_neg (show ¬ false = true by decide)]
        · rw [if_pos (Int32.not_le.mp e2), if_neg e2, if_pos rfl]
theorem M_variantWhy {x h m : Nat} {d : Dt} {q : Nat → Int32} {b : Bool} (s : St x h m d q b) (c : Bool) (v : Int32) : mX12_variantWhy m (b2i c) v d = some (whyV q (b && c) v) := by
  unfold mX12_variantWhy whyV
  rw [s.2.1]
  cases b
  · rfl
  · cases c
    · rfl
    · obtain ⟨w, -, hM⟩ := s.2.2.2 rfl
      have ho := w.o
      obtain ⟨p1, p2⟩ := pow_O (nO q) ho.2
      rw [if_neg (show ¬ b2i true = 0 by decide), if_neg (show ¬ b2i true = 0 by decide), if_pos ib3, row3 hM, ho.1, p1, in_M (n := 2 ^ nO q) (by omega), if_pos (show (true && true) = true from rfl)]
      by_cases e : inB v (2 ^ nO q) = true
      · rw [if_pos e, if_pos e]
      · rw [if_neg e, if_neg e]
theorem whyV_ne {q : Nat → Int32} {c : Bool} {v : Int32} : whyV q c v = 0 ∨ whyV q c v = 1 ∨ whyV q c v = 2 := by
  unfold whyV
  split
  · split
    · exact Or.inl rfl
    · exact Or.inr (Or.inr rfl)
  · exact Or.inr (Or.inl rfl)
theorem Ans_var {x h p m : Nat} {d : Dt} {q : Nat → Int32} {b : Bool} {fx fm K' : Dt → Option (Int32 × Dt)} {K : Option (Int32 × Dt)} (id : Ids x h p m) (s : St x h m d q b) (c : Bool) (v z : Int32)
    (h1 : fx d = if mX11_troubleOf x h p (b2i (b && c)) v d = 0 then K else some (z, uI d x 9 (mX11_troubleOf x h p (b2i (b && c)) v d)))
    (h2 : ∀ d1, St x h m d1 q b → fm d1 = ((mX12_variantWhy m (b2i c) v d1).bind fun t => if (mX12_isRefused m t d1).1 = true then some (z, (mX12_isRefused m t d1).2) else K' (mX12_isRefused m t d1).2))
    (h3 : b = true → c = true → inB v (2 ^ nO q) = true → Ans x m d (fun _ => K) (fun d1 => K' (rf m 0 d1))) : Ans x m d fx fm := by
  rw [X_troubleOf s] at h1
  have h2' : ∀ d1, St x h m d1 q b → fm d1 = if (mX12_isRefused m (whyV q (b && c) v) d1).1 = true then some (z, (mX12_isRefused m (whyV q (b && c) v) d1).2) else K' (mX12_isRefused m (whyV q (b && c) v) d1).2 := fun d1 s1 => by rw [h2 d1 s1, M_variantWhy s1, Option.bind_some]
  by_cases e0 : whyV q (b && c) v = 0
  · have hbc : (b && c) = true ∧ inB v (2 ^ nO q) = true := by
      unfold whyV at e0
      by_cases e : (b && c) = true
      · rw [if_pos e] at e0
        by_cases e2 : inB v (2 ^ nO q) = true
        · exact ⟨e, e2⟩
        · rw [if_neg e2] at e0; exact absurd e0 (by decide)
      · rw [if_neg e] at e0; exact absurd e0 (by decide)
    obtain ⟨hb, hc⟩ := Bool.and_eq_true_iff.mp hbc.1
    obtain ⟨r, d1, d2, a1, a2, a3, a4⟩ := h3 hb hc hbc.2
    rw [e0, if_pos rfl] at h1
    refine ⟨r, d1, d2, h1.trans a1, a2, ?_, a4⟩
    rw [h2' d1 (Ch_St id a2 s), e0, iR0, if_neg (show ¬ false = true by decide)]
    exact a3
  · rw [if_neg e0] at h1
    refine Ans_ref id z (whyV q (b && c) v) (fun z4 => ?_) h1 ?_
    · rcases whyV_ne (q := q) (c := b && c) (v := v) with z | z | z <;> rw [z] at z4 <;> exact absurd z4 (by decide)
    · rw [h2' _ (Ch_St id (Ch_x9 x m d _) s), iR _ e0, if_pos rfl]
theorem and_kT {q : Nat → Int32} {b : Bool} (v : Int32) : inB v (kT q b) = (b && inB v (kT q b)) := by
  cases b
  · exact inB_0 v
  · rfl
theorem and_kN {q : Nat → Int32} {b : Bool} (v : Int32) : inB v (kN q b) = (b && inB v (kN q b)) := by
  cases b
  · exact inB_0 v
  · rfl
theorem and_bndl {q : Nat → Int32} {b : Bool} (v : Int32) : bndl v (kN q b) = (b && bndl v (kN q b)) := by
  cases b
  · unfold bndl; rw [show kN q false = 0 from rfl, inB_0]; rfl
  · rfl
theorem b2i_b (b : Bool) : b2i b = b2i (b && true) := by cases b <;> rfl
theorem MRr {x h p m : Nat} {d d1 : Dt} {q : Nat → Int32} (id : Ids x h p m) (c : Ch x m d d1) (hM : MR m d q) : MR m (rf m 0 d1) q := Ch_MR id (Ch_tr c (Ch_rf2 x m d1 0)) hM
theorem q_plugs {x h p m : Nat} {d : Dt} {q : Nat → Int32} {b : Bool} (id : Ids x h p m) (s : St x h m d q b) (v : Int32) : Ans x m d (fun d => mX11_plugs x h p v d) (fun d => mX12_plugs m v d) := by
  refine Ans_var (K := (mX10_plugsThere h v d).bind fun r => some (r, uI d x 9 0)) (K' := fun d => mX12_plugs_19 m v FUEL 0 0 d) id s true v (-1) ?_ (fun d1 s1 => rfl) (fun hb _ _ => ?_)
  · rw [← b2i_b, ← s.1]; rfl
  · subst hb
    obtain ⟨w, hX, hM⟩ := s.2.2.2 rfl
    refine Ans_val id (plg q v) ?_ (M_plg (MRr id (Ch_x9 x m d 0) hM) w v)
    rw [X_plugsThere hX w, Option.bind_some]
theorem q_pins {x h p m : Nat} {d : Dt} {q : Nat → Int32} {b : Bool} (id : Ids x h p m) (s : St x h m d q b) (v n : Int32) : Ans x m d (fun d => mX11_pins x h p v n d) (fun d => mX12_pins m v n d) := by
  refine Ans_var (K := (mX10_pinsThere h v n d).bind fun r => some (r, uI d x 9 0)) (K' := fun d => (mX12_pinsOf m v n d).bind fun r => some (r, d)) id s (inB n (kT q b)) v (-1) ?_ (fun d1 s1 => ?_) (fun hb hc _ => ?_)
  · rw [← and_kT, ← X_isNet (p := p) s]; rfl
  · show mX12_pins m v n d1 = _
    unfold mX12_pins
    rw [M_isNet s1, Option.bind_some]
  · subst hb
    obtain ⟨w, hX, hM⟩ := s.2.2.2 rfl
    obtain ⟨-, i, hi, rfl⟩ := told_of hc
    refine Ans_val id (pins q v i) ?_ ?_
    · rw [X_pinsThere hX w v hi, Option.bind_some]
    · rw [M_pinsOf (MRr id (Ch_x9 x m d 0) hM) w v hi, Option.bind_some]
theorem q_splice {x h p m : Nat} {d : Dt} {q : Nat → Int32} {b : Bool} (id : Ids x h p m) (s : St x h m d q b) (v n : Int32) : Ans x m d (fun d => mX11_splice x h p v n d) (fun d => mX12_splice m v n d) := by
  refine Ans_var (K := (mX10_pinsThere h v n d).bind fun x7 => (if (mX10_needsSplice x7) = true then ((mX10_hubOf h n x7 d).bind fun r => some (r, uI d x 9 0)) else some (-2, uI d x 9 0))) (K' := fun d => (mX12_pinsOf m v n d).bind fun x9 => (mX12_spliceOf m n x9 d).bind fun r => some (r, d)) id s (inB n (kT q b)) v (-1) ?_ (fun d1 s1 => ?_) (fun hb hc _ => ?_)
  · rw [← and_kT, ← X_isNet (p := p) s]; rfl
  · show mX12_splice m v n d1 = _
    unfold mX12_splice
    rw [M_isNet s1, Option.bind_some]
  · subst hb
    obtain ⟨w, hX, hM⟩ := s.2.2.2 rfl
    obtain ⟨-, i, hi, rfl⟩ := told_of hc
    have hs := pins_ok w v hi
    refine Ans_val id (if 3 ≤ pop (pins q v i) then nI (spl q i (pins q v i)) else -2) ?_ ?_
    · rw [X_pinsThere hX w v hi, Option.bind_some, X_needsSplice hs]
      by_cases e : 3 ≤ pop (pins q v i)
      · rw [if_pos (by simp [e]), if_pos e, X_hubOf hX w hi hs (by omega), Option.bind_some]
        unfold hubS
        rw [if_neg (by omega)]
      · rw [if_neg (by simp [e]), if_neg e]
    · rw [M_pinsOf (MRr id (Ch_x9 x m d 0) hM) w v hi, Option.bind_some, M_spliceOf (MRr id (Ch_x9 x m d 0) hM) w hi hs, Option.bind_some]
theorem q_wires {x h p m : Nat} {d : Dt} {q : Nat → Int32} {b : Bool} (id : Ids x h p m) (s : St x h m d q b) (v n : Int32) : Ans x m d (fun d => mX11_wires x h p v n d) (fun d => mX12_wires m v n d) := by
  refine Ans_var (K := (mX10_pinsThere h v n d).bind fun x7 => some (mX10_countFor x7, uI d x 9 0)) (K' := fun d => (mX12_pinsOf m v n d).bind fun x9 => (mX12_wiresOf x9).bind fun r => some (r, d)) id s (inB n (kT q b)) v (-1) ?_ (fun d1 s1 => ?_) (fun hb hc _ => ?_)
  · rw [← and_kT, ← X_isNet (p := p) s]; rfl
  · show mX12_wires m v n d1 = _
    unfold mX12_wires
    rw [M_isNet s1, Option.bind_some]
  · subst hb
    obtain ⟨w, hX, hM⟩ := s.2.2.2 rfl
    obtain ⟨-, i, hi, rfl⟩ := told_of hc
    have hs := pins_ok w v hi
    refine Ans_val id (if pop (pins q v i) < 2 then 0 else if pop (pins q v i) = 2 then 1 else nI (pop (pins q v i))) ?_ ?_
    · rw [X_pinsThere hX w v hi, Option.bind_some, X_countFor hs]
    · rw [M_pinsOf (MRr id (Ch_x9 x m d 0) hM) w v hi, Option.bind_some, M_wiresOf hs, Option.bind_some]
theorem q_thickest {x h p m : Nat} {d : Dt} {q : Nat → Int32} {b : Bool} (id : Ids x h p m) (s : St x h m d q b) (v : Int32) : Ans x m d (fun d => mX11_thickest x h p v d) (fun d => mX12_thickest m v d) := by
  refine Ans_var (K := (mX10_thickestOf h v d).bind fun r => some (r, uI d x 9 0)) (K' := fun d => mX12_thickest_20 m v FUEL (-2) 1 d) id s true v (-1) ?_ (fun d1 s1 => rfl) (fun hb _ _ => ?_)
  · rw [← b2i_b, ← s.1]; rfl
  · subst hb
    obtain ⟨w, hX, hM⟩ := s.2.2.2 rfl
    refine Ans_val id (thR q v) ?_ (M_thk (MRr id (Ch_x9 x m d 0) hM) w v)
    rw [X_thickestOf hX w, Option.bind_some]
theorem q_through {x h p m : Nat} {d : Dt} {q : Nat → Int32} {b : Bool} (id : Ids x h p m) (s : St x h m d q b) (v n : Int32) : Ans x m d (fun d => mX11_through x h p v n d) (fun d => mX12_through m v n d) := by
  refine Ans_var (K := (mX10_netsThrough h v n d).bind fun r => some (r, uI d x 9 0)) (K' := fun d => mX12_through_24 m v n FUEL 0 0 d) id s (bndl n (kN q b)) v (-1) ?_ (fun d1 s1 => ?_) (fun hb hc _ => ?_)
  · rw [← and_bndl, ← X_isBundle (p := p) s]; rfl
  · show mX12_through m v n d1 = _
    unfold mX12_through
    rw [M_isBundle s1, Option.bind_some]
  · subst hb
    obtain ⟨w, hX, hM⟩ := s.2.2.2 rfl
    obtain ⟨-, i, hi1, hi, rfl⟩ := told_bndl hc
    refine Ans_val id (thr q v i) ?_ (M_thr (MRr id (Ch_x9 x m d 0) hM) w v hi)
    rw [X_netsThrough hX w v hi, Option.bind_some]
