/-! the law: harness, unused -/
theorem CI_uL {h p : Nat} {d : Dt} {q : Nat → Int32} {b : Bool} (c : CI 0 h p 167 d q b) (z : Int64) : CI 0 h p 167 (uL d 182 0 z) q b := by
  obtain ⟨id, s, e1, e2, e3, tp, nm, ac⟩ := c
  refine ⟨id, s, e1, e2, e3, tp, fun hb => ?_, ac⟩
  obtain ⟨k, k1, k2, k3, k4⟩ := nm hb
  obtain ⟨-, -, j3⟩ := id
  refine ⟨k, k1, k2, k3, fun j hj => ⟨?_, (k4 j hj).2⟩⟩
  rw [uL_ne (by omega), uL_ne (by omega)]
  exact (k4 j hj).1
theorem s_unusedL {x h p m : Nat} {d dd : Dt} {q : Nat → Int32} {b : Bool} (c0 : CI x h p m d q b) (c : CI x h p m dd q b) (v : Int32) : ∃ o r d2, uX h v FUEL 0 0 d = some o ∧ mX12_unused m v dd = some (r, d2) ∧ CI x h p m d2 q b ∧ d2.2 = dd.2 ∧ (∀ i, o = some i → r = i ∧ d2.1 m 0 = 0) ∧ (o = none → d2.1 m 0 = 1) := by
  have c2 := c
  obtain ⟨id, s, e1, e2, e3, -⟩ := c
  obtain ⟨j1, j2, j3⟩ := id
  have keep : ∀ t, CI x h p m (uI dd m 0 t) q b := fun t => CI_Ch c2 ⟨rfl, fun o k _ _ h3 _ => dI_ne (by omega)⟩ (by rw [dI_ne (by omega), dI_ne (by omega)]; exact e1) (fun z => by
    rw [dI_ne (by omega)] at z
    rw [dI_ne (by omega), dI_ne (by omega)]; exact e3 z)
  have kk : ∀ t u, uI (uI dd m 0 t) m 0 u = uI dd m 0 u := fun t u => uI_uI _ _ _ _ _
  cases b
  · refine ⟨none, 0, uI dd m 0 1, ?_, ?_, keep 1, rfl, fun i z => (by cases z), fun _ => dI_at _ _ _ _⟩
    · rw [show FUEL = 999999 + 1 from rfl, uX, (c0.2.1.2.2.1 rfl).2.2.2.2.1, if_pos (Int32.le_refl _)]
    · unfold mX12_unused
      rw [show FUEL = 999999 + 1 from rfl, mX12_unused_9, dI_ne (by omega), s.2.1, if_pos b2i_0, kk]
  · obtain ⟨w, -, hM⟩ := s.2.2.2 rfl
    obtain ⟨-, hX, -⟩ := c0.2.1.2.2.2 rfl
    have hM' : MR m (uI dd m 0 0) q := fun k hk => by rw [dI_ne (by omega)]; exact hM k hk
    have ht := w.t
    obtain ⟨o, o1, o2⟩ := un_both hX hM' w (by rw [dI_ne (by omega)]; exact s.2.1) v (nT q) 0 0 FUEL FUEL rfl (Nat.zero_le _) (fuel_big (by omega)) (fuel_big (by omega))
    cases o with
    | none =>
      refine ⟨none, 0, uI dd m 0 1, o1, ?_, keep 1, rfl, fun i z => (by cases z), fun _ => dI_at _ _ _ _⟩
      refine Eq.trans o2 ?_
      show some (0, uI (uI dd m 0 0) m 0 1) = _
      rw [kk]
    | some i => exact ⟨some i, i, uI dd m 0 0, o1, o2, keep 0, rfl, fun j z => ⟨by cases z; rfl, dI_at _ _ _ _⟩, fun z => by cases z⟩
theorem L11_mv {σ σ1 : Sg} {o : Nat} (f : ∀ i, o ≤ i → i < o + 15 → σ1.2.1 i = σ.2.1 i ∧ ∀ k, σ1.2.2 i k = σ.2.2 i k) (H : L11 σ o) : L11 σ1 o := by
  obtain ⟨a0, a1, a2, a3, a4, a5, a6, a7, a8, a9, b0, b1, b2, b3, b4, b5, b6, b7, b8, b9, c0, c1, c2, c3, c4, c5, c6, c7, c8⟩ := H
  have t : ∀ i, i < 15 → σ1.2.1 (o + i) = σ.2.1 (o + i) := fun i hi => (f _ (by omega) (by omega)).1
  have r : ∀ k, σ1.2.2 o k = σ.2.2 o k := (f o (Nat.le_refl _) (by omega)).2
  exact ⟨(t 0 (by omega)).trans a0, (r _).trans a1, (t 1 (by omega)).trans a2, (r _).trans a3, (t 2 (by omega)).trans a4, (r _).trans a5, (t 3 (by omega)).trans a6, (r _).trans a7, (t 4 (by omega)).trans a8, (r _).trans a9, (t 5 (by omega)).trans b0, (r _).trans b1, (t 6 (by omega)).trans b2, (r _).trans b3, (t 7 (by omega)).trans b4, (r _).trans b5, (t 8 (by omega)).trans b6, (r _).trans b7, (t 9 (by omega)).trans b8, (r _).trans b9, (t 10 (by omega)).trans c0, (r _).trans c1, (t 11 (by omega)).trans c2, (r _).trans c3, (t 12 (by omega)).trans c4, (r _).trans c5, (t 13 (by omega)).trans c6, (r _).trans c7, (t 14 (by omega)).trans c8⟩
section LC2
variable {nm : String} {b : Nat} {G : Gl} {i : Int32} {bc bs : Nat} {Φ : List Value → Sg → Dt → Prop} {σ : Sg} {d : Dt} {L : Nat} {xs : Nat → Int32} {h p : Nat} {q : Nat → Int32} {bb : Bool}
theorem law_c1 (hs : va_X b L xs G.2.1 G.2.1.heap) (X : IX i L) (I : LI σ d h p q bb) (K : LK nm b G i bc bs Φ) : VL nm b G i (1 + bc) (7 + bs) Φ 313 [] σ d := by
  obtain ⟨sw, r, d1, d2, q2, e1, e2, c2, c3⟩ := s_harness (rd := σ.1) I.1 (AA xs i 1) I.2.2.2.2
  refine V_aload_n (pc := 313) 3 dL_law_313 rfl rfl ?_
  refine VL_arg (pc := 314) (n := 1) hs X.1 dL_law_314 dL_law_315 dL_law_317 dL_law_318 dL_law_319 rfl ?_
  refine V_callV (pc := 320) (bc2 := 1) (bs2 := 7) (n := 1) (As := [.int (AA xs i 1)]) (st := []) dL_law_320 kw399 calX11_harness kw400 kw401 I.2.1.1 rfl (by decide) (Nat.le_of_ble_eq_true rfl) rfl (ctX11_harness I.2.1 I.1.1.2.2 I.2.2.2.2 e1) ?_
  intro v σ1 d1' hP
  obtain ⟨rfl, rfl, sk, g1, g2⟩ := hP
  have h11 : L11 σ1 167 := L11_mv (fun j j1 j2 => ⟨sk.2.1 j (by have := I.2.2.2.2; omega), sk.2.2 j (by have := I.2.2.2.2; omega) (by omega)⟩) I.2.2.1
  have h182 : σ1.2.1 182 = some (2, 1) := (sk.2.1 182 (by have := I.2.2.2.2; omega)).trans I.2.2.2.1
  have h183 : 183 ≤ σ1.1 := Nat.le_trans I.2.2.2.2 sk.1
  refine V_aload_n (pc := 323) 2 dL_law_323 rfl rfl ?_
  refine VL_arg (pc := 324) (n := 1) hs X.1 dL_law_324 dL_law_325 dL_law_327 dL_law_328 dL_law_329 rfl ?_
  refine V_cV1 (pc := 330) dL_law_330 kw1361 calX12_harness kw1362 kw1363 (L11_0 h11) rfl (by decide) (Nat.le_of_ble_eq_true rfl) (ctX12_harness h11 e2) ?_
  refine V_icmp_eq (pc := 333) (tgt := 1753) dL_law_333 (by decide) (fun _ => ?_) (fun z => absurd rfl z)
  cases sw
  · exact K _ _ _ _ _ _ ⟨c3 rfl, g2 rfl, h11, h182, h183⟩
  · exact K _ _ _ _ _ _ ⟨c2 rfl, g1 rfl, h11, h182, h183⟩
theorem law_c43 (tx : TX G) (hs : va_X b L xs G.2.1 G.2.1.heap) (X : IX i L) (I : LI σ d h p q bb) (K : LK nm b G i bc bs Φ) : VL nm b G i (1 + bc) (6 + bs) Φ 1659 [] σ d := by
  obtain ⟨o, r0, d0, e1, -⟩ := s_unusedL I.1 I.1 (AA xs i 1)
  refine V_aload_n (pc := 1659) 3 dL_law_1659 rfl rfl ?_
  refine VL_arg (pc := 1660) (n := 1) hs X.1 dL_law_1660 dL_law_1661 dL_law_1663 dL_law_1664 dL_law_1665 rfl ?_
  refine V_aload_n (pc := 1666) 1 dL_law_1666 rfl rfl ?_
  refine V_lawun (pc := 1667) tx I.2.1 I.2.2.2.1 e1 dL_law_1667 (by decide) (Nat.le_of_ble_eq_true rfl) ?_
  intro c dd k' a1 a2
  have cd : CI 0 h p 167 dd q bb := by
    cases o with
    | none => rw [(a2 rfl).2]; exact I.1
    | some r => rw [(a1 r rfl).2]; exact CI_uL I.1 _
  obtain ⟨o2, r, d2, f1, f2, c2, f3, f4, f5⟩ := s_unusedL I.1 cd (AA xs i 1)
  obtain rfl : o = o2 := Option.some.inj (e1.symm.trans f1)
  have h10 : L10 (σ.1 + k', σ.2.1, σ.2.2) 0 h p := I.2.1
  have h11 : L11 (σ.1 + k', σ.2.1, σ.2.2) 167 := I.2.2.1
  have hc : mX12_thrown 167 d2 = c := by
    cases o with
    | none => exact (f5 rfl).trans (a2 rfl).1.symm
    | some r => exact (f4 r rfl).2.trans (a1 r rfl).1.symm
  have fin : VL nm b G i bc bs Φ 1753 [] (σ.1 + k', σ.2.1, σ.2.2) d2 := K _ _ _ _ _ _ ⟨c2, h10, h11, I.2.2.2.1, Nat.le_trans I.2.2.2.2 (Nat.le_add_right _ _)⟩
  refine V_istore (pc := 1670) dL_law_1670 (by decide) rfl ?_
  refine V_aload_n (pc := 1672) 3 dL_law_1672 rfl rfl ?_
  refine V_aload_n (pc := 1673) 5 dL_law_1673 rfl rfl ?_
  refine V_iload (pc := 1674) 1 dL_law_1674 rfl ?_
  refine V_iconst (pc := 1676) (x := Int32.ofInt 1) dL_law_1676 rfl ?_
  refine V_iadd (pc := 1677) dL_law_1677 ?_
  refine V_ialdX (pc := 1678) dL_law_1678 hs X.1 ?_
  refine V_cV1 (pc := 1679) dL_law_1679 kw1871 calX12_unused kw1872 kw1873 (L11_0 h11) rfl (by decide) (Nat.le_of_ble_eq_true rfl) (ctX12_unused h11 f2) ?_
  refine V_istore (pc := 1682) dL_law_1682 (by decide) rfl ?_
  refine V_aload_n (pc := 1684) 4 dL_law_1684 rfl rfl ?_
  refine V_cV0 (pc := 1685) dL_law_1685 kw1349 calX12_thrown kw1350 kw1351 (L11_0 h11) rfl (by decide) (Nat.le_of_ble_eq_true rfl) (ctX12_thrown h11) ?_
  refine V_iload (pc := 1688) 1 dL_law_1688 rfl ?_
  refine V_icmp_eq (pc := 1690) (tgt := 1695) dL_law_1690 (by decide) (fun _ => ?_) (fun z => absurd hc z)
  refine V_iload (pc := 1695) 1 dL_law_1695 rfl ?_
  have g : ∀ lv : List (Nat × Value), (∀ z ∈ LLi b G i, z ∈ lv) → V G (yLw nm) cL_law 7 (some .boolean) 24 bc bs Φ 1712 lv [] (σ.1 + k', σ.2.1, σ.2.2) d2 := fun lv hlv => V_goto (pc := 1712) (tgt := 1753) dL_law_1712 (by decide) (V_lv hlv fin)
  refine V_if_ne (pc := 1697) (tgt := 1712) dL_law_1697 (by decide) (fun _ => g _ (fun z hz => List.mem_cons_of_mem _ (List.mem_cons_of_mem _ hz))) (fun z => ?_)
  refine V_aload_n (pc := 1700) 3 dL_law_1700 rfl rfl ?_
  refine V_iconst (pc := 1701) (x := 0) dL_law_1701 (by decide) ?_
  refine V_lald (pc := 1702) dL_law_1702 (show (σ.1 + k', σ.2.1, σ.2.2).2.1 182 = some (2, 1) from I.2.2.2.1) (show ¬ ((0:Int32) < 0 ∨ 1 ≤ (0:Int32).toNatClampNeg) by decide) ?_
  refine V_iload (pc := 1703) 0 dL_law_1703 rfl ?_
  refine V_i2l (pc := 1705) dL_law_1705 ?_
  refine V_lcmp_eq (pc := 1706) (tgt := 1712) dL_law_1706 dL_law_1707 (by decide) (fun _ => g _ (fun z hz => List.mem_cons_of_mem _ (List.mem_cons_of_mem _ hz))) (fun w => absurd ?_ w)
  cases o with
  | none => rw [(a2 rfl).1] at z; exact absurd z (by decide)
  | some r1 =>
    show d2.2 182 0 = r.toInt64
    rw [f3, (a1 r1 rfl).2, (f4 r1 rfl).1]
    show (if 182 = 182 ∧ 0 = 0 then r1.toInt64 else d.2 182 0) = r1.toInt64
    exact if_pos ⟨rfl, rfl⟩
end LC2
