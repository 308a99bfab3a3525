/-! unused: the loop at the machine; found: it returns; not found: it comes to the throw -/
theorem un_loop {G : Gl} {σ : Sg} {d : Dt} {h p : Nat} {v : Int32} {r : Int32} {Φ : List Value → Sg → Dt → Prop} (H0 : L10 σ 0 h p) (hΦ : Φ [.int r] σ d) : ∀ n s j, uX h v n s j d = some (some r) → V G yX11_unused cX11_unused 4 (some .int) 6 0 0 Φ 4 [(3, .int j), (2, .int s), (0, .ref (gB G + 0)), (1, .int v)] [] σ d := by
  intro n
  induction n with
  | zero =>
    intro s j hh
    rw [uX] at hh
    cases hh
  | succ n ih =>
    intro s j hh
    rw [uX] at hh
    refine V_iload_n (pc := 4) 0 dX11_unused_4 rfl rfl ?_
    refine V_aload_n (pc := 5) 2 dX11_unused_5 rfl rfl ?_
    refine V_getR (pc := 6) (c := 10) (k := 2) dX11_unused_6 (by decide) (by decide) kw356 rfl rfl (L10_0 H0) (L10_r2 H0) ?_
    refine V_getR (pc := 9) (c := 4) (k := 8) dX11_unused_9 (by decide) (by decide) kw244 rfl rfl (L4_0 (L10_o2 H0)) (L4_r8 (L10_o2 H0)) ?_
    refine V_getI (pc := 12) (c := 5) (k := 0) dX11_unused_12 (by decide) (by decide) kw141 rfl rfl (L5_0 (L4_o8 (L10_o2 H0))) ?_
    refine V_icmp_ge (pc := 15) (tgt := 45) dX11_unused_15 (by decide) (fun c1 => ?_) (fun c1 => ?_)
    · rw [if_pos c1] at hh
      cases hh
    · rw [if_neg c1] at hh
      obtain ⟨u, e1, hh⟩ := Option.bind_eq_some_iff.mp hh
      refine V_aload_n (pc := 18) 2 dX11_unused_18 rfl rfl ?_
      refine V_getR (pc := 19) (c := 10) (k := 2) dX11_unused_19 (by decide) (by decide) kw356 rfl rfl (L10_0 H0) (L10_r2 H0) ?_
      refine V_iload_n (pc := 22) 0 dX11_unused_22 rfl rfl ?_
      refine V_cS2 (pc := 23) dX11_unused_23 kw1169 calX2_isUsed kw1170 (by decide) (Nat.le_of_ble_eq_true rfl) (ctX2_isUsed (L10_o2 H0) e1) ?_
      refine V_ifB_ne (b := u) (pc := 26) (tgt := 39) dX11_unused_26 (by decide) (fun cu => ?_) (fun cu => ?_)
      · subst cu
        rw [if_pos rfl] at hh
        refine V_iinc (pc := 39) (z := j + 1) 0 dX11_unused_39 rfl rfl (by decide) rfl ?_
        refine V_goto (pc := 42) (tgt := 4) dX11_unused_42 (by decide) ?_
        exact ih _ _ hh
      · subst cu
        rw [if_neg Bool.false_ne_true] at hh
        refine V_iload_n (pc := 29) 1 dX11_unused_29 rfl rfl ?_
        refine V_iload_n (pc := 30) 3 dX11_unused_30 rfl rfl ?_
        refine V_icmp_ne (pc := 31) (tgt := 36) dX11_unused_31 (by decide) (fun c2 => ?_) (fun c2 => ?_)
        · rw [if_neg c2] at hh
          refine V_iinc (pc := 36) (z := s + 1) 1 dX11_unused_36 rfl rfl (by decide) rfl ?_
          refine V_iinc (pc := 39) (z := j + 1) 1 dX11_unused_39 rfl rfl (by decide) rfl ?_
          refine V_goto (pc := 42) (tgt := 4) dX11_unused_42 (by decide) ?_
          exact ih _ _ hh
        · rw [if_pos c2] at hh
          cases hh
          refine V_iload_n (pc := 34) 0 dX11_unused_34 rfl rfl ?_
          exact V_ret (pc := 35) dX11_unused_35 ⟨rfl, _, rfl⟩ hΦ
theorem un_loopT {G : Gl} {σ : Sg} {d : Dt} {h p : Nat} {v : Int32} {Φ : List Value → Sg → Dt → Prop} (H0 : L10 σ 0 h p) (hΦ : Φ [] σ d) : ∀ n s j, uX h v n s j d = some none → VT 45 G yX11_unused cX11_unused 4 (some .int) 6 0 0 Φ 4 [(3, .int j), (2, .int s), (0, .ref (gB G + 0)), (1, .int v)] [] σ d := by
  intro n
  induction n with
  | zero =>
    intro s j hh
    rw [uX] at hh
    cases hh
  | succ n ih =>
    intro s j hh
    rw [uX] at hh
    refine VT_iload_n (pc := 4) 0 dX11_unused_4 rfl rfl ?_
    refine VT_aload_n (pc := 5) 2 dX11_unused_5 rfl rfl ?_
    refine VT_getR (pc := 6) (c := 10) (k := 2) dX11_unused_6 (by decide) (by decide) kw356 rfl rfl (L10_0 H0) (L10_r2 H0) ?_
    refine VT_getR (pc := 9) (c := 4) (k := 8) dX11_unused_9 (by decide) (by decide) kw244 rfl rfl (L4_0 (L10_o2 H0)) (L4_r8 (L10_o2 H0)) ?_
    refine VT_getI (pc := 12) (c := 5) (k := 0) dX11_unused_12 (by decide) (by decide) kw141 rfl rfl (L5_0 (L4_o8 (L10_o2 H0))) ?_
    refine VT_icmp_ge (pc := 15) (tgt := 45) dX11_unused_15 (by decide) (fun c1 => ?_) (fun c1 => ?_)
    · rw [if_pos c1] at hh
      exact VT_end rfl hΦ
    · rw [if_neg c1] at hh
      obtain ⟨u, e1, hh⟩ := Option.bind_eq_some_iff.mp hh
      refine VT_aload_n (pc := 18) 2 dX11_unused_18 rfl rfl ?_
      refine VT_getR (pc := 19) (c := 10) (k := 2) dX11_unused_19 (by decide) (by decide) kw356 rfl rfl (L10_0 H0) (L10_r2 H0) ?_
      refine VT_iload_n (pc := 22) 0 dX11_unused_22 rfl rfl ?_
      refine VT_cS2 (pc := 23) dX11_unused_23 kw1169 calX2_isUsed kw1170 (by decide) (Nat.le_of_ble_eq_true rfl) (ctX2_isUsed (L10_o2 H0) e1) ?_
      refine VT_ifB_ne (b := u) (pc := 26) (tgt := 39) dX11_unused_26 (by decide) (fun cu => ?_) (fun cu => ?_)
      · subst cu
        rw [if_pos rfl] at hh
        refine VT_iinc (pc := 39) (z := j + 1) 0 dX11_unused_39 rfl rfl (by decide) rfl ?_
        refine VT_goto (pc := 42) (tgt := 4) dX11_unused_42 (by decide) ?_
        exact ih _ _ hh
      · subst cu
        rw [if_neg Bool.false_ne_true] at hh
        refine VT_iload_n (pc := 29) 1 dX11_unused_29 rfl rfl ?_
        refine VT_iload_n (pc := 30) 3 dX11_unused_30 rfl rfl ?_
        refine VT_icmp_ne (pc := 31) (tgt := 36) dX11_unused_31 (by decide) (fun c2 => ?_) (fun c2 => ?_)
        · rw [if_neg c2] at hh
          refine VT_iinc (pc := 36) (z := s + 1) 1 dX11_unused_36 rfl rfl (by decide) rfl ?_
          refine VT_iinc (pc := 39) (z := j + 1) 1 dX11_unused_39 rfl rfl (by decide) rfl ?_
          refine VT_goto (pc := 42) (tgt := 4) dX11_unused_42 (by decide) ?_
          exact ih _ _ hh
        · rw [if_pos c2] at hh
          cases hh
theorem un_found {G : Gl} {σ : Sg} {d : Dt} {h p : Nat} {v r : Int32} {Φ : List Value → Sg → Dt → Prop} (H0 : L10 σ 0 h p) (hh : uX h v FUEL 0 0 d = some (some r)) (hΦ : Φ [.int r] σ d) : V G yX11_unused cX11_unused 4 (some .int) 6 0 0 Φ 0 (lv_args 0 [.ref (gB G + 0), .int v]) [] σ d := by
  refine V_iconst (pc := 0) (x := 0) dX11_unused_0 (by decide) ?_
  refine V_istore_n (pc := 1) dX11_unused_1 rfl (by decide) rfl ?_
  refine V_iconst (pc := 2) (x := 0) dX11_unused_2 (by decide) ?_
  refine V_istore_n (pc := 3) dX11_unused_3 rfl (by decide) rfl ?_
  exact un_loop H0 hΦ FUEL 0 0 hh
theorem un_none {G : Gl} {σ : Sg} {d : Dt} {h p : Nat} {v : Int32} {Φ : List Value → Sg → Dt → Prop} (H0 : L10 σ 0 h p) (hh : uX h v FUEL 0 0 d = some none) (hΦ : Φ [] σ d) : VT 45 G yX11_unused cX11_unused 4 (some .int) 6 0 0 Φ 0 (lv_args 0 [.ref (gB G + 0), .int v]) [] σ d := by
  refine VT_iconst (pc := 0) (x := 0) dX11_unused_0 (by decide) ?_
  refine VT_istore_n (pc := 1) dX11_unused_1 rfl (by decide) rfl ?_
  refine VT_iconst (pc := 2) (x := 0) dX11_unused_2 (by decide) ?_
  refine VT_istore_n (pc := 3) dX11_unused_3 rfl (by decide) rfl ?_
  exact un_loopT H0 hΦ FUEL 0 0 hh
