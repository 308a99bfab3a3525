/-! unused: both find the same net, or none -/
def uX (h : Nat) (v : Int32) : Nat → Int32 → Int32 → Dt → Option (Option Int32)
  | 0, _, _, _ => none
  | n + 1, s, j, d => if d.1 (h + 32) 0 ≤ j then some none else (mX2_isUsed h j d).bind fun u => if u = true then uX h v n s (j + 1) d else if s = v then some (some j) else uX h v n (s + 1) (j + 1) d
theorem un_both {h m : Nat} {dX dM : Dt} {q : Nat → Int32} (hX : XR h dX q) (hM : MR m dM q) (w : WF q) (h14 : dM.1 m 14 = 1) (v : Int32) :
    ∀ f j s fX fM, nT q - j = f → j ≤ nT q → f < fX → f < fM → ∃ o, uX h v fX s (nI j) dX = some o ∧ mX12_unused_9 m v fM s (nI j) dM = (match o with | some i => some (i, dM) | none => some (0, uI dM m 0 1)) := by
  have ht := w.t
  intro f
  induction f with
  | zero =>
    intro j s fX fM hf hj hfX hfM
    obtain ⟨gX, rfl⟩ : ∃ e, fX = e + 1 := ⟨fX - 1, by omega⟩
    obtain ⟨gM, rfl⟩ : ∃ e, fM = e + 1 := ⟨fM - 1, by omega⟩
    obtain rfl : j = nT q := by omega
    refine ⟨none, ?_, ?_⟩
    · rw [uX, X_countNets hX w, if_pos (Int32.le_refl _)]
    · rw [mX12_unused_9, h14, if_neg (show ¬ (1 : Int32) = 0 by decide), if_pos ib5, row5 hM, ht.1, if_pos (Int32.le_refl _)]
  | succ f ih =>
    intro j s fX fM hf hj hfX hfM
    obtain ⟨gX, rfl⟩ : ∃ e, fX = e + 1 := ⟨fX - 1, by omega⟩
    obtain ⟨gM, rfl⟩ : ∃ e, fM = e + 1 := ⟨fM - 1, by omega⟩
    have hjt : j < nT q := by omega
    rw [uX, X_countNets hX w, if_neg (nI_ge hjt (by omega)), X_isUsed hX w hjt, Option.bind_some, mX12_unused_9, h14, if_neg (show ¬ (1 : Int32) = 0 by decide), if_pos ib5, row5 hM, ht.1, if_neg (nI_ge hjt (by omega)), M_isUnused hM w hjt, Option.bind_some, nI_1]
    cases hu : usd q j with
    | true =>
      rw [if_pos rfl, if_neg (show ¬ (!true) = true by decide)]
      exact ih (j + 1) s gX gM (by omega) (by omega) (by omega) (by omega)
    | false =>
      rw [if_neg Bool.false_ne_true, if_pos (show (!false) = true by decide)]
      by_cases e : s = v
      · rw [if_pos e, if_pos e]
        exact ⟨some (nI j), rfl, rfl⟩
      · rw [if_neg e, if_neg e]
        exact ih (j + 1) (s + 1) gX gM (by omega) (by omega) (by omega) (by omega)
theorem s_unused {x h p m : Nat} {d : Dt} {q : Nat → Int32} {b : Bool} (c : CI x h p m d q b) (v : Int32) : ∃ o r d2, uX h v FUEL 0 0 d = some o ∧ mX12_unused m v d = some (r, d2) ∧ CI x h p m d2 q b ∧ (∀ i, o = some i → r = i ∧ d2.1 m 0 = 0) ∧ (o = none → d2.1 m 0 = 1) := by
  have c2 := c
  obtain ⟨id, s, e1, e2, e3, -⟩ := c
  obtain ⟨j1, j2, j3⟩ := id
  have keep : ∀ t, CI x h p m (uI d m 0 t) q b := fun t => CI_Ch c2 ⟨rfl, fun o k _ _ h3 _ => dI_ne (by omega)⟩ (by rw [dI_ne (by omega), dI_ne (by omega)]; exact e1) (fun z => by
    rw [dI_ne (by omega)] at z
    rw [dI_ne (by omega), dI_ne (by omega)]; exact e3 z)
  have kk : ∀ t u, uI (uI d m 0 t) m 0 u = uI d m 0 u := fun t u => uI_uI _ _ _ _ _
  cases b
  · refine ⟨none, 0, uI d m 0 1, ?_, ?_, keep 1, fun i z => (by cases z), fun _ => dI_at _ _ _ _⟩
    · rw [show FUEL = 999999 + 1 from rfl, uX, (s.2.2.1 rfl).2.2.2.2.1, if_pos (Int32.le_refl _)]
    · unfold mX12_unused
      rw [show FUEL = 999999 + 1 from rfl, mX12_unused_9, dI_ne (by omega), s.2.1, if_pos b2i_0, kk]
  · obtain ⟨w, hX, hM⟩ := s.2.2.2 rfl
    have hM' : MR m (uI d m 0 0) q := fun k hk => by rw [dI_ne (by omega)]; exact hM k hk
    have ht := w.t
    obtain ⟨o, o1, o2⟩ := un_both hX hM' w (by rw [dI_ne (by omega)]; exact s.2.1) v (nT q) 0 0 FUEL FUEL rfl (Nat.zero_le _) (fuel_big (by omega)) (fuel_big (by omega))
    cases o with
    | none =>
      refine ⟨none, 0, uI d m 0 1, o1, ?_, keep 1, fun i z => (by cases z), fun _ => dI_at _ _ _ _⟩
      refine Eq.trans o2 ?_
      show some (0, uI (uI d m 0 0) m 0 1) = _
      rw [kk]
    | some i => exact ⟨some i, i, uI d m 0 0, o1, o2, keep 0, fun j z => ⟨by cases z; rfl, dI_at _ _ _ _⟩, fun z => by cases z⟩
