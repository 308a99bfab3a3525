/-! families: the reference tries all rows -/
theorem M_tries {m : Nat} {q : Nat → Int32} {k : Nat} (w : WF q) (hk1 : 1 ≤ k) (hk : k ≤ 5) : ∀ f pre come s d, pre.length ≤ nB q → nB q + 1 ≤ pre.length + f → come ≤ pre.length → (1 ≤ pre.length → 1 ≤ come) → (1 ≤ nB q) → MR m d q → (∀ j, j < pre.length → d.1 (m + 11) j = nI (lf pre j) ∧ lf pre j ≤ 5) → Rst m d q s →
    ∃ d1, mX12_tries f m (nI pre.length) (nI come) (nI k) d = some d1 ∧ MFm m d d1 ∧ (∀ j, j < pre.length → d1.1 (m + 11) j = d.1 (m + 11) j) ∧ Rst m d1 q ((trL (nB q) k f pre come).foldl (rstep q) s) := by
  have hb := w.b
  intro f
  induction f with
  | zero => intro pre come s d h1 h2; omega
  | succ f ih =>
    intro pre come s d h1 h2 h3 h0 hB1 hM hr hs
    unfold mX12_tries trL
    dsimp only
    rw [if_pos ib6, row6 hM, hb.1]
    by_cases e : pre.length = nB q
    · rw [if_pos (by rw [e]), if_pos e]
      have hw : mX12_wireOfGroups m (nI come) d = some (wir q (lf pre) come) := M_wires hM w (fun b hbb => hr b (by omega)) (by omega)
      rw [hw, Option.bind_some]
      have ew : wir q (lf (tlf (lf pre))) come = wir q (lf pre) come := wir_congr (fun b hbb => lf_tlf _ (by omega)) come
      have rec1 : ∃ d1, mX12_tries_48 (mX12_tries f m) m FUEL 0 (uI (uI d m 30 (wir q (lf pre) come)) m 31 (nI come)) = some d1 ∧ MFm m d d1 ∧ (∀ j, j < pre.length → d1.1 (m + 11) j = d.1 (m + 11) j) ∧ Rst m d1 q (some (wir q (lf pre) come, tlf (lf pre), come)) := by
        obtain ⟨d1, a1, a2, a3, a4⟩ := M_keep (m := m) (d := uI (uI d m 30 (wir q (lf pre) come)) m 31 (nI come)) (ρ := lf pre) (mX12_tries f m)
        refine ⟨d1, a1, ⟨a2, fun o k b1 b2 b3 => ?_⟩, fun j hj => ?_, ?_, ?_, ⟨?_, ?_⟩, fun b hbb => ?_⟩
        · rw [a3 o k b3, dI_ne (by omega), dI_ne (by omega)]
        · rw [a3 _ _ (by omega), dI_ne (Or.inl (by omega)), dI_ne (Or.inl (by omega))]
        · rw [a3 _ _ (by omega), dI_ne (Or.inr (by omega)), dI_at]
        · rw [a3 _ _ (by omega), dI_at]
        · exact h0 (by omega)
        · omega
        · rw [a4 b (by omega), dI_ne (Or.inl (by omega)), dI_ne (Or.inl (by omega)), (hr b (by omega)).1, lf_tlf _ (by omega)]
      show ∃ d1, _ = some d1 ∧ _ ∧ _ ∧ Rst m d1 q (rstep q s (tlf (lf pre), come))
      unfold rstep
      cases s with
      | none =>
        rw [if_pos (show d.1 m 31 = 0 from hs)]
        show ∃ d1, _ = some d1 ∧ _ ∧ _ ∧ Rst m d1 q (some (wir q (lf (tlf (lf pre))) come, tlf (lf pre), come))
        rw [ew]; exact rec1
      | some p =>
        obtain ⟨z, l0, c0⟩ := p
        obtain ⟨s1, s2, s3, s4⟩ := hs
        rw [s2, if_neg (fun y => by have := nI_inj (b := 0) (by omega) (by omega) y; omega), s1]
        show ∃ d1, _ = some d1 ∧ _ ∧ _ ∧ Rst m d1 q (if z ≤ wir q (lf (tlf (lf pre))) come then some (z, l0, c0) else some (wir q (lf (tlf (lf pre))) come, tlf (lf pre), come))
        rw [ew]
        by_cases e2 : z ≤ wir q (lf pre) come
        · rw [if_pos e2, if_pos e2]
          exact ⟨d, rfl, MFm_rf m d, fun _ _ => rfl, s1, s2, s3, s4⟩
        · rw [if_neg e2, if_neg e2]; exact rec1
    · rw [if_neg (fun z => e (nI_inj (by omega) (by omega) z)), if_neg e]
      obtain ⟨d1, g, ⟨r1, r2, r3⟩, eq⟩ := loop_rel (fun n g d => mX12_tries_78 (mX12_tries f m) m (nI pre.length) (nI come) (nI k) n g d)
        (fun g d1 => MFm m d d1 ∧ (∀ j, j < pre.length → d1.1 (m + 11) j = d.1 (m + 11) j) ∧ Rst m d1 q (((List.range g).flatMap fun g => trL (nB q) k f (pre ++ [g]) (if g = come then come + 1 else come)).foldl (rstep q) s)) (min (come + 1) k)
        (fun fuel g d1 hg hR => by
          obtain ⟨r1, r2, r3⟩ := hR
          have hg1 : g < come + 1 := Nat.lt_of_lt_of_le hg (Nat.min_le_left _ _)
          have hg2 : g < k := Nat.lt_of_lt_of_le hg (Nat.min_le_right _ _)
          show ∃ b, _ ∧ mX12_tries_78 (mX12_tries f m) m (nI pre.length) (nI come) (nI k) (fuel + 1) (nI g) d1 = _
          have hM1 : MR m (uI d1 (m + 11) pre.length (nI g)) q := fun j hj => by rw [dI_ne (Or.inl (by omega))]; exact MFm_MR hM r1 j hj
          have hs1 : Rst m (uI d1 (m + 11) pre.length (nI g)) q (((List.range g).flatMap fun g => trL (nB q) k f (pre ++ [g]) (if g = come then come + 1 else come)).foldl (rstep q) s) := by
            generalize ((List.range g).flatMap fun g => trL (nB q) k f (pre ++ [g]) (if g = come then come + 1 else come)).foldl (rstep q) s = s1 at r3
            cases s1 with
            | none => exact (dI_ne (Or.inl (by omega))).trans r3
            | some p =>
              obtain ⟨z, l0, c0⟩ := p
              obtain ⟨t1, t2, t3, t4⟩ := r3
              exact ⟨(dI_ne (Or.inl (by omega))).trans t1, (dI_ne (Or.inl (by omega))).trans t2, t3, fun b hbb => (dI_ne (Or.inl (by omega))).trans (t4 b hbb)⟩
          have hr1 : ∀ j, j < (pre ++ [g]).length → (uI d1 (m + 11) pre.length (nI g)).1 (m + 11) j = nI (lf (pre ++ [g]) j) ∧ lf (pre ++ [g]) j ≤ 5 := by
            intro j hj
            rw [List.length_append] at hj
            simp only [List.length_cons, List.length_nil] at hj
            rw [lf_app]
            by_cases ej : j = pre.length
            · subst ej; rw [dI_at, if_neg (by omega), if_pos rfl]; exact ⟨rfl, by omega⟩
            · rw [dI_ne (Or.inr ej), if_pos (by omega), r2 j (by omega)]; exact hr j (by omega)
          have hl : (pre ++ [g]).length = pre.length + 1 := by simp
          have step : ∀ c, (c = if g = come then come + 1 else come) → ∃ d2, mX12_tries f m (nI (pre.length + 1)) (nI c) (nI k) (uI d1 (m + 11) pre.length (nI g)) = some d2 ∧ (MFm m d d2 ∧ (∀ j, j < pre.length → d2.1 (m + 11) j = d.1 (m + 11) j) ∧ Rst m d2 q (((List.range (g + 1)).flatMap fun g => trL (nB q) k f (pre ++ [g]) (if g = come then come + 1 else come)).foldl (rstep q) s)) := by
            intro c hc
            have hcl : c ≤ (pre ++ [g]).length := by rw [hl, hc]; split <;> omega
            have hc1 : 1 ≤ c := by
              rw [hc]
              by_cases ez : g = come
              · rw [if_pos ez]; omega
              · rw [if_neg ez]; omega
            obtain ⟨d2, a1, a2, a3, a4⟩ := ih (pre ++ [g]) c _ (uI d1 (m + 11) pre.length (nI g)) (by omega) (by omega) hcl (fun _ => hc1) hB1 hM1 hr1 hs1
            rw [hl] at a1
            have fr0 : MFm m d1 (uI d1 (m + 11) pre.length (nI g)) := ⟨rfl, fun o k _ b2 _ => dI_ne (Or.inl b2)⟩
            refine ⟨d2, a1, MFm_tr r1 (MFm_tr fr0 a2), fun j hj => ?_, ?_⟩
            · rw [a3 j (by omega), dI_ne (Or.inr (by omega))]; exact r2 j hj
            · rw [List.range_succ, List.flatMap_append, List.foldl_append]
              rw [hc] at a4
              simpa using a4
          rw [mX12_tries_78, if_neg (fun z => by have := (nI_ltI (by omega) (by omega)).mp z; omega), if_neg (nI_ge hg2 (by omega)), if_pos (inB_nI (by omega) (by decide)), cl_nI (by omega), nI_1, nI_1, nI_1]
          by_cases ez : g = come
          · obtain ⟨d2, a1, a2⟩ := step (come + 1) (by rw [if_pos ez])
            rw [if_pos (by rw [ez]), a1, Option.bind_some]
            exact ⟨d2, a2, rfl⟩
          · obtain ⟨d2, a1, a2⟩ := step come (by rw [if_neg ez])
            rw [if_neg (fun z => ez (nI_inj (by omega) (by omega) z)), a1, Option.bind_some]
            exact ⟨d2, a2, rfl⟩)
        (min (come + 1) k) 0 d FUEL (Nat.zero_add _) ⟨MFm_rf m d, fun _ _ => rfl, hs⟩ (fuel_big (by have := Nat.min_le_right (come + 1) k; omega))
      refine ⟨d1, ?_, r1, r2, r3⟩
      refine Eq.trans eq ?_
      show mX12_tries_78 (mX12_tries f m) m (nI pre.length) (nI come) (nI k) (g + 1) (nI (min (come + 1) k)) d1 = _
      rw [mX12_tries_78]
      by_cases e3 : come < min (come + 1) k
      · rw [if_pos ((nI_ltI (by omega) (by have := Nat.min_le_right (come + 1) k; omega)).mpr e3)]
      · have e4 : k ≤ min (come + 1) k := by omega
        rw [if_pos (nI_le e4 (by have := Nat.min_le_right (come + 1) k; omega)), ite_self]
