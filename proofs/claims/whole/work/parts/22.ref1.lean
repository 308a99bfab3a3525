/-! the reference's functions over the row -/
/-- the reference's object m holds the row q -/
def MR (m : Nat) (d : Dt) (q : Nat → Int32) : Prop := ∀ k, k < 267 → d.1 (m + 2) k = q k
theorem M_netOf {m : Nat} {d : Dt} {q : Nat → Int32} (hM : MR m d q) {i k : Nat} {c : Int32} (hc : c = nI k) (hi : i < 10) (hk : k < 16) : mX12_netOf m (nI i) c d = some (q (97 + 16 * i + k)) := by
  subst hc
  have e : (97 : Int32) + 16 * nI i + nI k = nI (97 + 16 * i + k) := by rw [show (97 : Int32) = nI 97 from rfl, show (16 : Int32) = nI 16 from rfl, pk_mul, nI_add, nI_add]
  unfold mX12_netOf
  rw [e, if_pos (inB_nI (by omega) (by decide)), cl_nI (by omega), hM _ (by omega)]
theorem M_plugOf {m : Nat} {d : Dt} {q : Nat → Int32} (hM : MR m d q) {i k : Nat} {c : Int32} (hc : c = nI k) (hi : i < 8) (hk : k < 6) : mX12_plugOf m (nI i) c d = some (q (49 + 6 * i + k)) := by
  subst hc
  have e : (49 : Int32) + 6 * nI i + nI k = nI (49 + 6 * i + k) := by rw [show (49 : Int32) = nI 49 from rfl, show (6 : Int32) = nI 6 from rfl, pk_mul, nI_add, nI_add]
  unfold mX12_plugOf
  rw [e, if_pos (inB_nI (by omega) (by decide)), cl_nI (by omega), hM _ (by omega)]
theorem M_pinPlug {m : Nat} {d : Dt} {q : Nat → Int32} (hM : MR m d q) {i k : Nat} (hi : i < 10) (hk : k < 5) : mX12_pinPlug m (nI i) (nI k) d = some (q (97 + 16 * i + (6 + 2 * k))) := by
  unfold mX12_pinPlug
  rw [M_netOf hM (k := 6 + 2 * k) (by rw [show (6 : Int32) = nI 6 from rfl, show (2 : Int32) = nI 2 from rfl, pk_mul, nI_add]) hi (by omega)]
  rfl
theorem M_pinHole {m : Nat} {d : Dt} {q : Nat → Int32} (hM : MR m d q) {i k : Nat} (hi : i < 10) (hk : k < 5) : mX12_pinHole m (nI i) (nI k) d = some (q (97 + 16 * i + (6 + 2 * k) + 1)) := by
  unfold mX12_pinHole
  rw [M_netOf hM (k := 6 + 2 * k + 1) (by rw [show (6 : Int32) = nI 6 from rfl, show (2 : Int32) = nI 2 from rfl, show (1 : Int32) = nI 1 from rfl, pk_mul, nI_add, nI_add]) hi (by omega)]
  rfl
theorem M_pinNode {m : Nat} {d : Dt} {q : Nat → Int32} (hM : MR m d q) (h : WF q) {i k : Nat} (hi : i < nT q) (hk : k < many q i) : mX12_pinNode m (nI i) (nI k) d = some (nI (pn q i k)) := by
  have ht := h.t
  have hm := h.mny hi
  have hp := h.pin hi hk
  unfold mX12_pinNode
  rw [M_pinPlug hM (by omega) (by omega), Option.bind_some, hp.1, M_plugOf hM (c := 0) (k := 0) rfl (by have := h.p; omega) (by omega), Option.bind_some]
  rw [Nat.add_zero, (h.pnd hi hk).1]
def thP (q : Nat → Int32) (i : Nat) (v : Int32) : Bool := mX12_isThen (q (49 + 6 * i + 4)) (q (49 + 6 * i + 5)) v
theorem M_isPlugThere {m : Nat} {d : Dt} {q : Nat → Int32} (hM : MR m d q) {i : Nat} (v : Int32) (hi : i < 8) : mX12_isPlugThere m (nI i) v d = some (thP q i v) := by
  unfold mX12_isPlugThere
  rw [M_plugOf hM (c := 4) (k := 4) rfl hi (by omega), Option.bind_some, M_plugOf hM (c := 5) (k := 5) rfl hi (by omega), Option.bind_some]
  rfl
def pins (q : Nat → Int32) (v : Int32) (i : Nat) : Int32 := if mX12_isThen (q (97 + 16 * i + 3)) (q (97 + 16 * i + 4)) v = true then bset (fun k => thP q (pp q i k) v) (many q i) else 0
theorem nI_ilt {a b : Nat} (ha : a < 2 ^ 31) (hb : b < 2 ^ 31) : (nI a ≤ nI b) = (a ≤ b) := propext (nI_leI ha hb)
theorem nI_iltt {a b : Nat} (ha : a < 2 ^ 31) (hb : b < 2 ^ 31) : (nI a < nI b) = (a < b) := propext (nI_ltI ha hb)
theorem M_pinsOf {m : Nat} {d : Dt} {q : Nat → Int32} (hM : MR m d q) (h : WF q) {i : Nat} (v : Int32) (hi : i < nT q) : mX12_pinsOf m v (nI i) d = some (pins q v i) := by
  have ht := h.t
  have hm := h.mny hi
  unfold mX12_pinsOf pins
  rw [M_netOf hM (c := 3) (k := 3) rfl (by omega) (by omega), Option.bind_some, M_netOf hM (c := 4) (k := 4) rfl (by omega) (by omega), Option.bind_some]
  by_cases e : mX12_isThen (q (97 + 16 * i + 3)) (q (97 + 16 * i + 4)) v = true
  · rw [if_pos e, if_pos e]
    exact loop_fo (fun n x a => mX12_pinsOf_24 d m v (nI i) n a x) _ some (many q i) (fun _ _ => True)
      (fun fuel k a hk _ => by
        have hp := h.pin hi hk
        have hpp := h.p
        show mX12_pinsOf_24 d m v (nI i) (fuel + 1) a (nI k) = _
        rw [mX12_pinsOf_24, M_netOf hM (c := 2) (k := 2) rfl (by omega) (by omega), Option.bind_some, hm.1, if_neg (nI_ge hk (by omega)), M_pinPlug hM (by omega) (by omega), Option.bind_some, hp.1, M_isPlugThere hM v (by omega), Option.bind_some, nI_1]
        show _ = mX12_pinsOf_24 d m v (nI i) fuel (if thP q (pp q i k) v = true then _ else a) _
        by_cases e : thP q (pp q i k) v = true
        · rw [if_pos e, if_pos e]
        · rw [if_neg e, if_neg e, Int32.or_zero])
      (fun _ _ _ _ => trivial)
      (fun fuel a _ => by
        show mX12_pinsOf_24 d m v (nI i) (fuel + 1) a (nI (many q i)) = _
        rw [mX12_pinsOf_24, M_netOf hM (c := 2) (k := 2) rfl (by omega) (by omega), Option.bind_some, hm.1, if_pos (Int32.le_refl _)])
      (many q i) 0 0 FUEL (Nat.zero_add _) trivial (fuel_big (by omega))
  · rw [if_neg e, if_neg e]
/-- a set of at most five -/
theorem bset_small {c : Nat → Bool} : ∀ n, n ≤ 5 → ∃ p, p < 32 ∧ bset c n = nI p := by
  have step : ∀ n, n < 5 → ∀ p, p < 32 → ∃ r, r < 32 ∧ nI p ||| ((1 : Int32) <<< (nI n &&& 31)) = nI r := by
    have : ∀ n, n < 5 → ∀ p, p < 32 → (p ||| 2 ^ n) < 32 ∧ nI p ||| ((1 : Int32) <<< (nI n &&& 31)) = nI (p ||| 2 ^ n) := by decide +kernel
    exact fun n hn p hp => ⟨_, (this n hn p hp).1, (this n hn p hp).2⟩
  intro n
  induction n with
  | zero => intro _; exact ⟨0, by omega, rfl⟩
  | succ n ih =>
    intro hn
    obtain ⟨p, hp, e⟩ := ih (by omega)
    unfold bset at e ⊢
    rw [fo_last, e, Nat.zero_add]
    show ∃ p_1, p_1 < 32 ∧ (if c n = true then nI p ||| ((1 : Int32) <<< (nI n &&& 31)) else nI p) = nI p_1
    by_cases h : c n = true
    · rw [if_pos h]; exact step n (by omega) p hp
    · rw [if_neg h]; exact ⟨p, hp, rfl⟩
/-- the pins of a set are pins of the net, five at most -/
def setOk (q : Nat → Int32) (i : Nat) (s : Int32) : Prop := (∃ p, p < 32 ∧ s = nI p) ∧ ∀ k, k < 32 → bit s k = true → k < many q i
theorem pins_ok {q : Nat → Int32} (h : WF q) (v : Int32) {i : Nat} (hi : i < nT q) : setOk q i (pins q v i) := by
  have hm := h.mny hi
  unfold setOk pins
  by_cases e : mX12_isThen (q (97 + 16 * i + 3)) (q (97 + 16 * i + 4)) v = true
  · rw [if_pos e]
    refine ⟨bset_small _ (by omega), fun k hk hb => ?_⟩
    rw [bit_bset (by omega) hk] at hb
    simp at hb; exact hb.1
  · rw [if_neg e]
    exact ⟨⟨0, by omega, rfl⟩, fun k hk hb => by rw [bit_0] at hb; cases hb⟩
/-- how many in a small set -/
def pop (s : Int32) : Nat := (if bit s 0 then 1 else 0) + (if bit s 1 then 1 else 0) + (if bit s 2 then 1 else 0) + (if bit s 3 then 1 else 0) + (if bit s 4 then 1 else 0)
def fst5 (s : Int32) : Nat := if bit s 0 then 0 else if bit s 1 then 1 else if bit s 2 then 2 else if bit s 3 then 3 else 4
theorem pop_5 (s : Int32) : pop s ≤ 5 := by unfold pop; split <;> split <;> split <;> split <;> split <;> omega
theorem M_bitsOf32 : ∀ p, p < 32 → mX12_bitsOf (nI p) = some (nI (pop (nI p))) := by decide +kernel
theorem C_bitCount32 : ∀ p, p < 32 → mJ6_bitCount_0f7a4 (nI p) = nI (pop (nI p)) := by decide +kernel
theorem M_firstOf32 : ∀ p, p < 32 → 1 ≤ pop (nI p) → mX12_firstOf (nI p) = some (nI (fst5 (nI p))) ∧ bit (nI p) (fst5 (nI p)) = true := by decide +kernel
theorem M_bitsOf {q : Nat → Int32} {i : Nat} {s : Int32} (h : setOk q i s) : mX12_bitsOf s = some (nI (pop s)) := by obtain ⟨⟨p, hp, rfl⟩, -⟩ := h; exact M_bitsOf32 p hp
theorem C_bitCount {q : Nat → Int32} {i : Nat} {s : Int32} (h : setOk q i s) : mJ6_bitCount_0f7a4 s = nI (pop s) := by obtain ⟨⟨p, hp, rfl⟩, -⟩ := h; exact C_bitCount32 p hp
theorem M_firstOf {q : Nat → Int32} {i : Nat} {s : Int32} (h : setOk q i s) (h1 : 1 ≤ pop s) : mX12_firstOf s = some (nI (fst5 s)) ∧ fst5 s < many q i ∧ bit s (fst5 s) = true := by
  obtain ⟨⟨p, hp, rfl⟩, h2⟩ := h
  have := M_firstOf32 p hp h1
  exact ⟨this.1, h2 _ (by unfold fst5; (repeat' split) <;> omega) this.2, this.2⟩
theorem M_isBeyond {m : Nat} {d : Dt} {q : Nat → Int32} (hM : MR m d q) (h : WF q) {a x : Nat} (ha : a < nN q) (hx : x < nN q) : mX12_isBeyond m (nI a) (nI x) d = some (anc q a x) := by
  have hn := h.n
  have key : ∀ f a, a < nN q → a + 2 ≤ f → mX12_isBeyond_2 d m (nI x) f (nI a) = some (anc q a x) := by
    intro f
    induction f with
    | zero => intro a _ h2; omega
    | succ f ih =>
      intro a h1 h2
      have e2 : ¬ nI a = (-2 : Int32) := fun e => by
        have : ∀ a, a < 14 → ¬ nI a = (-2 : Int32) := by decide +kernel
        exact this a (by omega) e
      rw [mX12_isBeyond_2, if_neg e2]
      by_cases e : a = x
      · subst e
        rw [if_pos rfl, if_pos rfl, anc_self h h1]
      · rw [if_neg (fun q => e (nI_inj (by omega) (by omega) q)), show (7 : Int32) + nI a = nI (7 + a) by rw [show (7 : Int32) = nI 7 from rfl, nI_add], if_pos (inB_nI (by omega) (by decide)), cl_nI (by omega), hM _ (by omega)]
        rcases Nat.eq_zero_or_pos a with rfl | hp
        · obtain ⟨f', rfl⟩ : ∃ g, f = g + 1 := ⟨f - 1, by omega⟩
          rw [show 7 + 0 = 7 from rfl, h.root.1, mX12_isBeyond_2, if_pos rfl, if_neg (fun q => by
            have : ∀ x, x < 14 → ¬ (-2 : Int32) = nI x := by decide +kernel
            exact this x (by omega) q)]
          rw [anc_0]; simp [e]
        · have hu := h.up hp h1
          rw [hu.1, ih (uq q a) (by omega) (by omega), anc_s h x hp h1]
          simp [e]
  exact key FUEL a ha (by have : FUEL = 1000000 := rfl; omega)
theorem b2i_ne (a b : Bool) : (if b2i a = b2i b then some false else some true) = some (a != b) := by cases a <;> cases b <;> rfl
theorem M_isBetween {m : Nat} {d : Dt} {q : Nat → Int32} (hM : MR m d q) (h : WF q) {a b x : Nat} (ha : a < nN q) (hb : b < nN q) (hx : x < nN q) : mX12_isBetween m (nI a) (nI b) (nI x) d = some (anc q a x != anc q b x) := by
  unfold mX12_isBetween
  rw [M_isBeyond hM h ha hx, Option.bind_some, M_isBeyond hM h hb hx, Option.bind_some]
  exact b2i_ne _ _
/-- the row's counts, as they are read -/
theorem M_row {m : Nat} {d : Dt} {q : Nat → Int32} (hM : MR m d q) {α : Type} {k : Nat} {c : Int32} (hc : c = nI k) (hk : k < 267) (a b : Option α) (F : Int32 → Option α) : (if inB c 267 = true then F (d.1 (m + 2) c.toNatClampNeg) else b) = F (q k) := by
  subst hc
  rw [if_pos (inB_nI hk (by decide)), cl_nI (by omega), hM _ hk]
theorem M_farOf {m : Nat} {d : Dt} {q : Nat → Int32} (hM : MR m d q) (h : WF q) {a b : Nat} (ha : a < nN q) (hb : b < nN q) : mX12_farOf m (nI a) (nI b) d = some (far q a b) := by
  have hn := h.n
  have rd : d.1 (m + 2) (2 : Int32).toNatClampNeg = nI (nN q) := by rw [show (2 : Int32) = nI 2 from rfl, cl_nI (by omega), hM 2 (by omega), hn.1]
  have ib : inB (2 : Int32) 267 = true := by decide
  unfold mX12_farOf far
  exact loop_fo (fun n x s => mX12_farOf_5 d m (nI a) (nI b) n s x) _ some (nN q) (fun i _ => 1 ≤ i)
    (fun fuel x s hx h1 => by
      show mX12_farOf_5 d m (nI a) (nI b) (fuel + 1) s (nI x) = mX12_farOf_5 d m (nI a) (nI b) fuel (if (anc q a x != anc q b x) = true then s + q (21 + x) else s) (nI (x + 1))
      rw [mX12_farOf_5, if_pos ib, rd, if_neg (nI_ge hx (by omega)), M_isBetween hM h ha hb hx, Option.bind_some, nI_1, show (21 : Int32) + nI x = nI (21 + x) by rw [show (21 : Int32) = nI 21 from rfl, nI_add], if_pos (inB_nI (by omega) (by decide)), cl_nI (by omega), hM _ (by omega)]
      by_cases e : (anc q a x != anc q b x) = true
      · rw [if_pos e, if_pos e]
      · rw [if_neg e, if_neg e, Int32.add_zero])
    (fun _ _ _ _ => by omega)
    (fun fuel s _ => by
      show mX12_farOf_5 d m (nI a) (nI b) (fuel + 1) s (nI (nN q)) = _
      rw [mX12_farOf_5, if_pos ib, rd, if_pos (Int32.le_refl _)])
    (nN q - 1) 1 0 FUEL (by omega) (Nat.le_refl _) (fuel_big (by omega))
/-- all FAR together from a node to the pins of a set -/
def rea (q : Nat → Int32) (i : Nat) (s : Int32) (x : Nat) : Int32 := fo (fun k t => if bit s k = true then t + far q (pn q i k) x else t) 0 5 0
theorem M_reachOf {m : Nat} {d : Dt} {q : Nat → Int32} (hM : MR m d q) (h : WF q) {i x : Nat} {s : Int32} (hi : i < nT q) (hs : setOk q i s) (hx : x < nN q) : mX12_reachOf m (nI i) s (nI x) d = some (rea q i s x) := by
  unfold mX12_reachOf rea
  exact loop_fo (fun n x' t => mX12_reachOf_6 d m (nI i) s (nI x) n t x') _ some 5 (fun _ _ => True)
    (fun fuel k t hk _ => by
      show mX12_reachOf_6 d m (nI i) s (nI x) (fuel + 1) t (nI k) = mX12_reachOf_6 d m (nI i) s (nI x) fuel (if bit s k = true then t + far q (pn q i k) x else t) (nI (k + 1))
      rw [mX12_reachOf_6, show (5 : Int32) = nI 5 from rfl, if_neg (nI_ge hk (by omega)), has12 (by omega), nI_1]
      by_cases e : bit s k = true
      · have hk2 := hs.2 k (by omega) e
        rw [if_pos e, if_pos e, M_pinNode hM h hi hk2, Option.bind_some, M_farOf hM h (h.pnd hi hk2).2 hx, Option.bind_some]
      · rw [if_neg e, if_neg e, Int32.add_zero])
    (fun _ _ _ _ => trivial)
    (fun fuel t _ => by
      show mX12_reachOf_6 d m (nI i) s (nI x) (fuel + 1) t (nI 5) = _
      rw [mX12_reachOf_6, if_pos (by decide)])
    5 0 0 FUEL rfl trivial (fuel_big (by omega))
/-- from where all FAR together is least, of several the first -/
def hub (q : Nat → Int32) (i : Nat) (s : Int32) : Nat := fo (fun x b => if rea q i s b ≤ rea q i s x then b else x) 1 (nN q - 1) 0
theorem hub_lt {q : Nat → Int32} (h : WF q) (i : Nat) (s : Int32) : hub q i s < nN q := by
  have hn := h.n
  have := fo_ind (f := fun x b => if rea q i s b ≤ rea q i s x then b else x) (fun j b => j ≤ nN q → b < j) (nN q - 1) 1 0 (fun _ => by omega) (fun j b h1 h2 hb hj => by
    have := hb (by omega)
    show (if _ then b else j) < j + 1
    split <;> omega)
  have h2 := this (by omega)
  unfold hub
  omega
/-- the node of the splice of a set of three at least -/
def hand (q : Nat → Int32) (i : Nat) : Int32 := q (97 + 16 * i + 5)
def spl (q : Nat → Int32) (i : Nat) (s : Int32) : Nat := if hand q i = -2 then hub q i s else (hand q i).toNatClampNeg
theorem spl_lt {q : Nat → Int32} (h : WF q) {i : Nat} (hi : i < nT q) (s : Int32) : spl q i s < nN q := by
  unfold spl
  by_cases e : hand q i = -2
  · rw [if_pos e]; exact hub_lt h i s
  · rw [if_neg e]
    rcases (h.net hi).2.2.2.2.1 with e2 | ⟨a, ha, e2⟩
    · exact absurd e2 e
    · have := h.n
      rw [show hand q i = nI a from e2, cl_nI (by omega)]; exact ha
theorem M_spliceOf {m : Nat} {d : Dt} {q : Nat → Int32} (hM : MR m d q) (h : WF q) {i : Nat} {s : Int32} (hi : i < nT q) (hs : setOk q i s) : mX12_spliceOf m (nI i) s d = some (if 3 ≤ pop s then nI (spl q i s) else -2) := by
  have hn := h.n
  have ht := h.t
  have h5 := pop_5 s
  have rd : d.1 (m + 2) (2 : Int32).toNatClampNeg = nI (nN q) := by rw [show (2 : Int32) = nI 2 from rfl, cl_nI (by omega), hM 2 (by omega), hn.1]
  have ib : inB (2 : Int32) 267 = true := by decide
  unfold mX12_spliceOf
  rw [M_bitsOf hs, Option.bind_some, show (3 : Int32) = nI 3 from rfl]
  by_cases e : 3 ≤ pop s
  · rw [if_pos (nI_le e (by omega)), if_pos e, M_netOf hM (c := 5) (k := 5) rfl (by omega) (by omega), Option.bind_some, Option.bind_some]
    unfold spl hand
    by_cases e2 : q (97 + 16 * i + 5) = -2
    · rw [if_pos e2, if_pos e2]
      have lp := loop_fo (fun n x b => mX12_spliceOf_34 d m (nI i) s n b x) (fun x (b : Int32) => if rea q i s b.toNatClampNeg ≤ rea q i s x then b else nI x) some (nN q) (fun j b => 1 ≤ j ∧ ∃ a, a < nN q ∧ b = nI a)
        (fun fuel x b hx hb => by
          obtain ⟨-, a, ha, rfl⟩ := hb
          show mX12_spliceOf_34 d m (nI i) s (fuel + 1) (nI a) (nI x) = mX12_spliceOf_34 d m (nI i) s fuel (if rea q i s (nI a).toNatClampNeg ≤ rea q i s x then nI a else nI x) (nI (x + 1))
          rw [mX12_spliceOf_34, if_pos ib, rd, if_neg (nI_ge hx (by omega)), M_reachOf hM h hi hs hx, Option.bind_some, M_reachOf hM h hi hs ha, Option.bind_some, nI_1, cl_nI (by omega)]
          by_cases e : rea q i s a ≤ rea q i s x
          · rw [if_pos e, if_pos e]
          · rw [if_neg e, if_neg e])
        (fun x b hx hb => by
          obtain ⟨h1, a, ha, rfl⟩ := hb
          refine ⟨by omega, ?_⟩
          show ∃ a_1, a_1 < nN q ∧ (if rea q i s (nI a).toNatClampNeg ≤ rea q i s x then nI a else nI x) = nI a_1
          split
          · exact ⟨a, ha, rfl⟩
          · exact ⟨x, hx, rfl⟩)
        (fun fuel b _ => by
          show mX12_spliceOf_34 d m (nI i) s (fuel + 1) b (nI (nN q)) = _
          rw [mX12_spliceOf_34, if_pos ib, rd, if_pos (Int32.le_refl _)])
        (nN q - 1) 1 0 FUEL (by omega) ⟨Nat.le_refl _, 0, by omega, rfl⟩ (fuel_big (by omega))
      refine lp.trans (congrArg some ?_)
      have : ∀ k j a, a < nN q → j + k ≤ nN q → fo (fun x (b : Int32) => if rea q i s b.toNatClampNeg ≤ rea q i s x then b else nI x) j k (nI a) = nI (fo (fun x b => if rea q i s b ≤ rea q i s x then b else x) j k a) := by
        intro k
        induction k with
        | zero => intro j a _ _; rfl
        | succ k ih =>
          intro j a ha hj
          show fo _ (j + 1) k (if rea q i s (nI a).toNatClampNeg ≤ rea q i s j then nI a else nI j) = nI (fo _ (j + 1) k (if rea q i s a ≤ rea q i s j then a else j))
          rw [cl_nI (by omega)]
          by_cases e : rea q i s a ≤ rea q i s j
          · rw [if_pos e, if_pos e]; exact ih (j + 1) a ha (by omega)
          · rw [if_neg e, if_neg e]; exact ih (j + 1) j (by omega) (by omega)
      exact this (nN q - 1) 1 0 (by omega) (by omega)
    · rw [if_neg e2, if_neg e2]
      rcases (h.net hi).2.2.2.2.1 with e3 | ⟨a, ha, e3⟩
      · exact absurd e3 e2
      · rw [e3, cl_nI (by omega)]
  · rw [if_neg (nI_ge (by omega) (by omega)), if_neg e]
