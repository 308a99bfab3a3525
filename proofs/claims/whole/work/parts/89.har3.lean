/-! harness at the machine -/
theorem L10_mv {σ σ1 : Sg} {h p h1 p1 : Nat} (H : L10 σ 0 h p) (a : L4 σ h1) (b : L4 σ p1) (hh : 1 ≤ h1 ∧ h1 ≤ 92) (hp : 1 ≤ p1 ∧ p1 ≤ 92) (f : ∀ i, 1 ≤ i → i < 167 → σ1.2.1 i = σ.2.1 i ∧ ∀ k, σ1.2.2 i k = σ.2.2 i k) (f0 : σ1.2.1 0 = σ.2.1 0) (fr : ∀ k, k ≠ 2 → k ≠ 3 → σ1.2.2 0 k = σ.2.2 0 k) (r2 : σ1.2.2 0 2 = some h1) (r3 : σ1.2.2 0 3 = some p1) : L10 σ1 0 h1 p1 :=
  ⟨f0.trans (L10_0 H), (fr 0 (by omega) (by omega)).trans (L10_r0 H), ((f 1 (by omega) (by omega)).1).trans (L10_s0 H), r2, L4_kp a (fun i z1 z2 => f i (by omega) (by omega)), r3, L4_kp b (fun i z1 z2 => f i (by omega) (by omega)), (fr 5 (by omega) (by omega)).trans (L10_r5 H), L8_kp (L10_o5 H) (fun i z1 z2 => f i (by omega) (by omega)), (fr 6 (by omega) (by omega)).trans (L10_r6 H), L0_kp (L10_o6 H) (fun i z1 z2 => f i (by omega) (by omega)), (fr 7 (by omega) (by omega)).trans (L10_r7 H), L3_kp (L10_o7 H) (fun i z1 z2 => f i (by omega) (by omega)), (fr 8 (by omega) (by omega)).trans (L10_r8 H), L2_kp (L10_o8 H) (fun i z1 z2 => f i (by omega) (by omega))⟩
theorem calX7_init : Cal yX7_init cX7_init 3 none 2 := ⟨kw506, kw17, by decide +kernel⟩
theorem ctX7_init {G : Gl} {σ : Sg} {d : Dt} {o t h : Nat} (h0 : σ.2.1 o = some (0, 7)) : CT G yX7_init cX7_init 3 none 1 0 0 [.ref (gB G + o), .ref (gB G + t), .ref (gB G + h)] σ d (fun v σ' d' => v = [] ∧ d' = d ∧ σ' = uR (uR σ o 0 (some t)) o 1 (some h)) := by
  refine CT_of pn_RX7 (Nat.le_of_ble_eq_true rfl) ?_
  refine V_aload_n (pc := 0) 0 dX7_init_0 rfl rfl ?_
  refine V_objInit (pc := 1) dX7_init_1 kw507 kw31 kw32 ⟨by decide, Nat.le_of_ble_eq_true rfl⟩ ?_
  refine V_aload_n (pc := 4) 0 dX7_init_4 rfl rfl ?_
  refine V_aload_n (pc := 5) 1 dX7_init_5 rfl rfl ?_
  refine V_putR (pc := 6) (c := 7) (k := 0) dX7_init_6 (by decide) (by decide) kw508 rfl (Or.inr ⟨rfl, rfl⟩) rfl h0 ?_
  refine V_aload_n (pc := 9) 0 dX7_init_9 rfl rfl ?_
  refine V_aload_n (pc := 10) 2 dX7_init_10 rfl rfl ?_
  refine V_putR (pc := 11) (c := 7) (k := 1) dX7_init_11 (by decide) (by decide) kw509 rfl (Or.inr ⟨rfl, rfl⟩) rfl h0 ?_
  exact V_ret (pc := 14) dX7_init_14 ⟨rfl, rfl⟩ ⟨rfl, rfl, rfl⟩
theorem calX11_takeSpare : Cal yX11_takeSpare cX11_takeSpare 2 none 0 := ⟨kw707, kw1, by decide +kernel⟩
theorem ctX11_takeSpare {G : Gl} {σ : Sg} {d d1 : Dt} {h p : Nat} (H0 : L10 σ 0 h p) (hm : mX9_measure (p + 3) d = some d1) (H1 : L10 (uR (uR σ 0 2 (some p)) 0 3 (some h)) 0 p h) : CT G yX11_takeSpare cX11_takeSpare 2 none 2 0 0 [.ref (gB G + 0)] σ d (fun v σ' d' => v = [] ∧ σ' = uR (uR σ 0 2 (some p)) 0 3 (some h) ∧ d' = uI (uI d1 0 4 1) 156 0 0) := by
  refine CT_of pn_RX11 (Nat.le_of_ble_eq_true rfl) ?_
  have h00 : σ.2.1 0 = some (0, 10) := L10_0 H0
  refine V_aload_n (pc := 0) 0 dX11_takeSpare_0 rfl rfl ?_
  refine V_getR (pc := 1) (c := 10) (k := 2) dX11_takeSpare_1 (by decide) (by decide) kw356 rfl rfl (L10_0 H0) (L10_r2 H0) ?_
  refine V_astore_n (pc := 4) dX11_takeSpare_4 rfl (by decide) rfl ?_
  refine V_aload_n (pc := 5) 1 dX11_takeSpare_5 rfl rfl ?_
  refine V_aload_n (pc := 6) 1 dX11_takeSpare_6 rfl rfl ?_
  refine V_getR (pc := 7) (c := 10) (k := 3) dX11_takeSpare_7 (by decide) (by decide) kw357 rfl rfl (L10_0 H0) (L10_r3 H0) ?_
  refine V_putR (pc := 10) (c := 10) (k := 2) dX11_takeSpare_10 (by decide) (by decide) kw356 rfl (Or.inl rfl) rfl (L10_0 H0) ?_
  refine V_aload_n (pc := 13) 1 dX11_takeSpare_13 rfl rfl ?_
  refine V_aload_n (pc := 14) 0 dX11_takeSpare_14 rfl rfl ?_
  refine V_putR (pc := 15) (c := 10) (k := 3) dX11_takeSpare_15 (by decide) (by decide) kw357 rfl (Or.inl rfl) rfl h00 ?_
  refine V_aload_n (pc := 18) 1 dX11_takeSpare_18 rfl rfl ?_
  refine V_getR (pc := 19) (c := 10) (k := 2) dX11_takeSpare_19 (by decide) (by decide) kw356 rfl rfl (L10_0 H1) (L10_r2 H1) ?_
  refine V_getR (pc := 22) (c := 4) (k := 6) dX11_takeSpare_22 (by decide) (by decide) kw233 rfl rfl (L4_0 (L10_o2 H1)) (L4_r6 (L10_o2 H1)) ?_
  refine V_cV0 (pc := 25) dX11_takeSpare_25 kw708 calX9_measure kw709 kw710 (L9_0 (L4_o6 (L10_o2 H1))) rfl (by decide) (Nat.le_of_ble_eq_true rfl) (ctX9_measure (L4_o6 (L10_o2 H1)) hm) ?_
  refine V_aload_n (pc := 28) 1 dX11_takeSpare_28 rfl rfl ?_
  refine V_iconst (pc := 29) (x := 1) dX11_takeSpare_29 (by decide) ?_
  refine V_putI (pc := 30) (c := 10) (k := 4) dX11_takeSpare_30 (by decide) (by decide) kw358 rfl rfl rfl ⟨rfl, rfl⟩ (L10_0 H1) ?_
  refine V_aload_n (pc := 33) 1 dX11_takeSpare_33 rfl rfl ?_
  refine V_getR (pc := 34) (c := 10) (k := 6) dX11_takeSpare_34 (by decide) (by decide) kw360 rfl rfl (L10_0 H1) (L10_r6 H1) ?_
  refine V_iconst (pc := 37) (x := 0) dX11_takeSpare_37 (by decide) ?_
  refine V_putI (pc := 38) (c := 0) (k := 0) dX11_takeSpare_38 (by decide) (by decide) kw301 rfl rfl rfl ⟨rfl, rfl⟩ (L0_0 (L10_o6 H1)) ?_
  exact V_ret (pc := 41) dX11_takeSpare_41 ⟨rfl, rfl⟩ ⟨rfl, rfl, rfl⟩
theorem V_z {G : Gl} {y : MethodName} {cc : ByteArray} {nL : Nat} {ret : Option FieldType} {dep bc bs : Nat} {Φ : List Value → Sg → Dt → Prop} {pc : Nat} {lv : List (Nat × Value)} {st : List Value} {σ : Sg} {d : Dt} (k : (∀ i, σ.1 ≤ i → ∀ j, d.1 i j = 0) → V G y cc nL ret dep bc bs Φ pc lv st σ d) : V G y cc nL ret dep bc bs Φ pc lv st σ d :=
  fun p e R s m args below meth c H locs cells slots Q ls gk cx h1 h2 hr hl hv kk => k (fun i hi j => (hr.2.2.2 i hi j).1) p e R s m args below meth c H locs cells slots Q ls gk cx h1 h2 hr hl hv kk
theorem uI_id {d : Dt} {o k : Nat} {v : Int32} (h : d.1 o k = v) : uI d o k v = d := by
  apply Prod.ext
  · funext i j
    show (if i = o ∧ j = k then v else d.1 i j) = d.1 i j
    by_cases e : i = o ∧ j = k
    · rw [if_pos e, e.1, e.2, h]
    · rw [if_neg e]
  · rfl
theorem rdN_id {rd : Nat} {d : Dt} (h : ∀ j, d.1 rd j = 0) : rdN rd d = d := by
  unfold rdN
  rw [uI_id (h 2), uI_id (h 3), uI_id (h 4), uI_id (h 5), uI_id (h 6)]
/-- what a call may do to the shape: all that was stays, but for the two harnesses of object 0 -/
def SgK (σ σ1 : Sg) : Prop := σ.1 ≤ σ1.1 ∧ (∀ i, i < σ.1 → σ1.2.1 i = σ.2.1 i) ∧ ∀ i, i < σ.1 → i ≠ 0 → ∀ k, σ1.2.2 i k = σ.2.2 i k
theorem calX11_harness : Cal yX11_harness cX11_harness 4 (some .int) 1 := ⟨kw402, kw1, by decide +kernel⟩
theorem ctX11_harness {G : Gl} {σ : Sg} {d d' : Dt} {h p : Nat} {v r : Int32} {sw : Bool} (H0 : L10 σ 0 h p) (hph : (h = 2 ∧ p = 77) ∨ (h = 77 ∧ p = 2)) (h183 : 183 ≤ σ.1) (hh : hX σ.1 p v d = some (sw, r, d')) :
    CT G yX11_harness cX11_harness 4 (some .int) 14 1 7 [.ref (gB G + 0), .int v] σ d (fun w σ' d'' => w = [.int r] ∧ d'' = d' ∧ SgK σ σ' ∧ (sw = true → L10 σ' 0 p h) ∧ (sw = false → L10 σ' 0 h p)) := by
  refine CT_of pn_RX11 (Nat.le_of_ble_eq_true rfl) ?_
  unfold hX at hh
  have ref : ∀ (w : List (Nat × Value)) (pc : Nat) (h : (false, (-1 : Int32), uI d 0 9 2) = (sw, r, d')), ((false, (-1 : Int32), uI d 0 9 2) = (sw, r, d')) := fun _ _ h => h
  refine V_iload_n (pc := 0) 1 dX11_harness_0 rfl rfl ?_
  refine V_if_lt (pc := 1) (tgt := 12) dX11_harness_1 (by decide) (fun c1 => ?_) (fun c1 => ?_)
  · rw [if_pos c1] at hh
    cases hh
    refine V_aload_n (pc := 12) 0 dX11_harness_12 rfl rfl ?_
    refine V_iconst (pc := 13) (x := 2) dX11_harness_13 (by decide) ?_
    refine V_cV1 (pc := 14) dX11_harness_14 kw403 calX11_refuse kw405 ks1 (L10_0 H0) rfl (by decide) (Nat.le_of_ble_eq_true rfl) (ctX11_refuse H0) ?_
    exact V_ret (pc := 17) dX11_harness_17 ⟨rfl, _, rfl⟩ ⟨rfl, rfl, ⟨Nat.le_refl _, fun _ _ => rfl, fun _ _ _ _ => rfl⟩, fun z => absurd z Bool.false_ne_true, fun _ => H0⟩
  · rw [if_neg c1] at hh
    refine V_iload_n (pc := 4) 1 dX11_harness_4 rfl rfl ?_
    refine V_aload_n (pc := 5) 0 dX11_harness_5 rfl rfl ?_
    refine V_getI (pc := 6) (c := 10) (k := 1) dX11_harness_6 (by decide) (by decide) kw355 rfl rfl (L10_0 H0) ?_
    refine V_icmp_le (pc := 9) (tgt := 18) dX11_harness_9 (by decide) (fun c2 => ?_) (fun c2 => ?_)
    · rw [if_neg (show ¬ d.1 0 1 < v from Int32.not_lt.mpr c2)] at hh
      refine V_aload_n (pc := 18) 0 dX11_harness_18 rfl rfl ?_
      refine V_iconst (pc := 19) (x := 0) dX11_harness_19 (by decide) ?_
      refine V_putI (pc := 20) (c := 10) (k := 1) dX11_harness_20 (by decide) (by decide) kw355 rfl rfl rfl ⟨rfl, rfl⟩ (L10_0 H0) ?_
      refine V_aload_n (pc := 23) 0 dX11_harness_23 rfl rfl ?_
      refine V_getR (pc := 24) (c := 10) (k := 3) dX11_harness_24 (by decide) (by decide) kw357 rfl rfl (L10_0 H0) (L10_r3 H0) ?_
      refine V_cV0 (pc := 27) dX11_harness_27 kw407 calX4_clear kw408 kw409 (L4_0 (L10_o3 H0)) rfl (by decide) (Nat.le_of_ble_eq_true rfl) (ctX4_clear (L10_o3 H0)) ?_
      obtain ⟨d1, e1, hh⟩ := Option.bind_eq_some_iff.mp hh
      obtain ⟨⟨b, dX⟩, e2, hh⟩ := Option.bind_eq_some_iff.mp hh
      refine V_aload_n (pc := 30) 0 dX11_harness_30 rfl rfl ?_
      refine V_getR (pc := 31) (c := 10) (k := 5) dX11_harness_31 (by decide) (by decide) kw359 rfl rfl (L10_0 H0) (show σ.2.2 0 5 = some 152 from L10_r5 H0) ?_
      refine V_aload_n (pc := 34) 0 dX11_harness_34 rfl rfl ?_
      refine V_getR (pc := 35) (c := 10) (k := 0) dX11_harness_35 (by decide) (by decide) kw354 rfl rfl (L10_0 H0) (show σ.2.2 0 0 = some 1 from L10_r0 H0) ?_
      refine V_iload_n (pc := 38) 1 dX11_harness_38 rfl rfl ?_
      refine V_cV2 (pc := 39) dX11_harness_39 kw411 calX8_cut kw412 kw413 (L8_0 (show L8 σ 152 from L10_o5 H0)) rfl (by decide) (Nat.le_of_ble_eq_true rfl) (ctX8_cut (show L8 σ 152 from L10_o5 H0) (show σ.2.1 1 = some (3, 1000) from L10_s0 H0) e1) ?_
      refine V_z (fun hz => ?_)
      rw [rdN_id (hz σ.1 (Nat.le_refl _))] at e2
      refine V_new (bc := 0) (bs := 0) (pc := 42) (c := 7) dX11_harness_42 (by decide) kw502 kw503 kw17 (by decide) ?_
      refine V_dup (pc := 45) dX11_harness_45 rfl ?_
      have q0 : (snew σ (0, 7)).2.1 0 = some (0, 10) := (snew_s (by omega)).trans (L10_0 H0)
      refine V_aload_n (pc := 46) 0 dX11_harness_46 rfl rfl ?_
      refine V_getR (pc := 47) (c := 10) (k := 5) dX11_harness_47 (by decide) (by decide) kw359 rfl rfl q0 (show σ.2.2 0 5 = some 152 from L10_r5 H0) ?_
      refine V_aload_n (pc := 50) 0 dX11_harness_50 rfl rfl ?_
      refine V_getR (pc := 51) (c := 10) (k := 3) dX11_harness_51 (by decide) (by decide) kw357 rfl rfl q0 (show σ.2.2 0 3 = some p from L10_r3 H0) ?_
      refine V_callI (bc2 := 0) (bs2 := 0) (bc1 := 0) (bs1 := 0) (pc := 54) (As := [.ref (gB G + 152), .ref (gB G + p)]) (o := σ.1) dX11_harness_54 kw504 calX7_init kw505 rfl (by decide) (Nat.le_of_ble_eq_true rfl) rfl (ctX7_init (o := σ.1) (snew_at _ _)) ?_
      rintro w σ1 d2 ⟨rfl, rfl, rfl⟩
      have f : ∀ i, i < σ.1 → (uR (uR (snew σ (0, 7)) σ.1 0 (some 152)) σ.1 1 (some p)).2.1 i = σ.2.1 i ∧ ∀ k, (uR (uR (snew σ (0, 7)) σ.1 0 (some 152)) σ.1 1 (some p)).2.2 i k = σ.2.2 i k := fun i hi =>
        ⟨snew_s (by omega), fun k => by rw [uR_no (by omega), uR_no (by omega)]; rfl⟩
      have f7 : (uR (uR (snew σ (0, 7)) σ.1 0 (some 152)) σ.1 1 (some p)).2.1 σ.1 = some (0, 7) := snew_at _ _
      have g0 : (uR (uR (snew σ (0, 7)) σ.1 0 (some 152)) σ.1 1 (some p)).2.2 σ.1 0 = some 152 := by rw [uR_no (by omega), uR_is]
      have g1 : (uR (uR (snew σ (0, 7)) σ.1 0 (some 152)) σ.1 1 (some p)).2.2 σ.1 1 = some p := uR_is _ _ _ _
      have fs : (uR (uR (snew σ (0, 7)) σ.1 0 (some 152)) σ.1 1 (some p)).1 = σ.1 + 1 := rfl
      generalize uR (uR (snew σ (0, 7)) σ.1 0 (some 152)) σ.1 1 (some p) = σ1 at f f7 g0 g1 fs ⊢
      have H2 : L10 σ1 0 h p := L10_mv H0 (L10_o2 H0) (L10_o3 H0) (by omega) (by omega) (fun i z1 z2 => f i (by omega)) (f 0 (by omega)).1 (fun k _ _ => (f 0 (by omega)).2 k) (((f 0 (by omega)).2 2).trans (L10_r2 H0)) (((f 0 (by omega)).2 3).trans (L10_r3 H0))
      have H7 : L7 σ1 σ.1 152 p := ⟨f7, g0, L10_o5 H2, g1, L10_o3 H2⟩
      have sk : SgK σ σ1 := ⟨by omega, fun i hi => (f i hi).1, fun i hi _ k => (f i hi).2 k⟩
      refine V_astore_n (pc := 57) dX11_harness_57 rfl (by decide) rfl ?_
      refine V_aload_n (pc := 58) 0 dX11_harness_58 rfl rfl ?_
      refine V_cV0 (pc := 59) dX11_harness_59 kw531 calX7_readAll kw532 kw533 f7 rfl (by decide) (Nat.le_of_ble_eq_true rfl) (ctX7_readAll H7 e2) ?_
      refine V_istore_n (pc := 62) dX11_harness_62 rfl (by decide) rfl ?_
      refine V_aload_n (pc := 63) 2 dX11_harness_63 rfl rfl ?_
      refine V_iload_n (pc := 64) 0 dX11_harness_64 rfl rfl ?_
      refine V_ifB_eq (pc := 65) (tgt := 72) dX11_harness_65 (by decide) (fun cb => ?_) (fun cb => ?_)
      · have cb : b = false := cb
        subst cb
        rw [if_neg Bool.false_ne_true] at hh
        obtain ⟨pl, e3, hh⟩ := Option.bind_eq_some_iff.mp hh
        cases hh
        refine V_aload_n (pc := 72) 1 dX11_harness_72 rfl rfl ?_
        refine V_getI (pc := 73) (c := 7) (k := 6) dX11_harness_73 (by decide) (by decide) kw514 rfl rfl f7 ?_
        refine V_putI (pc := 76) (c := 10) (k := 10) dX11_harness_76 (by decide) (by decide) kw364 rfl rfl rfl ⟨rfl, rfl⟩ (L10_0 H2) ?_
        refine V_aload_n (pc := 79) 2 dX11_harness_79 rfl rfl ?_
        refine V_iload_n (pc := 80) 0 dX11_harness_80 rfl rfl ?_
        refine V_ifB_eq (b := false) (pc := 81) (tgt := 88) dX11_harness_81 (by decide) (fun _ => ?_) (fun z => by cases z)
        refine V_aload_n (pc := 88) 1 dX11_harness_88 rfl rfl ?_
        refine V_cV0 (pc := 89) dX11_harness_89 kw696 calX7_placeOfFault kw697 kw698 f7 rfl (by decide) (Nat.le_of_ble_eq_true rfl) (ctX7_placeOfFault H7 e3) ?_
        refine V_putI (pc := 92) (c := 10) (k := 11) dX11_harness_92 (by decide) (by decide) kw365 rfl rfl rfl ⟨rfl, rfl⟩ (L10_0 H2) ?_
        refine V_iload_n (pc := 95) 0 dX11_harness_95 rfl rfl ?_
        refine V_ifB_ne (b := false) (pc := 96) (tgt := 105) dX11_harness_96 (by decide) (fun z => by cases z) (fun _ => ?_)
        refine V_aload_n (pc := 99) 2 dX11_harness_99 rfl rfl ?_
        refine V_iconst (pc := 100) (x := 4) dX11_harness_100 (by decide) ?_
        refine V_cV1 (pc := 101) dX11_harness_101 kw403 calX11_refuse kw405 ks1 (L10_0 H2) rfl (by decide) (Nat.le_of_ble_eq_true rfl) (ctX11_refuse H2) ?_
        exact V_ret (pc := 104) dX11_harness_104 ⟨rfl, _, rfl⟩ ⟨rfl, rfl, sk, fun z => absurd z Bool.false_ne_true, fun _ => H2⟩
      · have cb : b = true := cb
        subst cb
        rw [if_pos rfl] at hh
        obtain ⟨dm, e3, hh⟩ := Option.bind_eq_some_iff.mp hh
        cases hh
        refine V_iconst (pc := 68) (x := 0) dX11_harness_68 (by decide) ?_
        refine V_goto (pc := 69) (tgt := 76) dX11_harness_69 (by decide) ?_
        refine V_putI (pc := 76) (c := 10) (k := 10) dX11_harness_76 (by decide) (by decide) kw364 rfl rfl rfl ⟨rfl, rfl⟩ (L10_0 H2) ?_
        refine V_aload_n (pc := 79) 2 dX11_harness_79 rfl rfl ?_
        refine V_iload_n (pc := 80) 0 dX11_harness_80 rfl rfl ?_
        refine V_ifB_eq (b := true) (pc := 81) (tgt := 88) dX11_harness_81 (by decide) (fun z => by cases z) (fun _ => ?_)
        refine V_iconst (pc := 84) (x := -1) dX11_harness_84 (by decide) ?_
        refine V_goto (pc := 85) (tgt := 92) dX11_harness_85 (by decide) ?_
        refine V_putI (pc := 92) (c := 10) (k := 11) dX11_harness_92 (by decide) (by decide) kw365 rfl rfl rfl ⟨rfl, rfl⟩ (L10_0 H2) ?_
        refine V_iload_n (pc := 95) 0 dX11_harness_95 rfl rfl ?_
        refine V_ifB_ne (b := true) (pc := 96) (tgt := 105) dX11_harness_96 (by decide) (fun _ => ?_) (fun z => by cases z)
        refine V_aload_n (pc := 105) 2 dX11_harness_105 rfl rfl ?_
        have H3 : L10 (uR (uR σ1 0 2 (some p)) 0 3 (some h)) 0 p h := L10_mv H2 (L10_o3 H2) (L10_o2 H2) (by omega) (by omega) (fun i z1 z2 => ⟨rfl, fun k => by rw [uR_no (by omega), uR_no (by omega)]⟩) rfl (fun k z1 z2 => by rw [uR_no (by omega), uR_no (by omega)]) (by rw [uR_no (by omega), uR_is]) (uR_is _ _ _ _)
        refine V_callV (bc2 := 0) (bs2 := 0) (bc1 := 0) (bs1 := 0) (pc := 106) (As := []) dX11_harness_106 kw704 calX11_takeSpare kw706 ks27 (L10_0 H2) rfl (by decide) (Nat.le_of_ble_eq_true rfl) rfl (ctX11_takeSpare H2 e3 H3) ?_
        rintro w σ2 d2 ⟨rfl, rfl, rfl⟩
        refine V_aload_n (pc := 109) 2 dX11_harness_109 rfl rfl ?_
        refine V_aload_n (pc := 110) 2 dX11_harness_110 rfl rfl ?_
        refine V_getR (pc := 111) (c := 10) (k := 2) dX11_harness_111 (by decide) (by decide) kw356 rfl rfl (L10_0 H3) (L10_r2 H3) ?_
        refine V_getR (pc := 114) (c := 4) (k := 8) dX11_harness_114 (by decide) (by decide) kw244 rfl rfl (L4_0 (L10_o2 H3)) (L4_r8 (L10_o2 H3)) ?_
        refine V_getI (pc := 117) (c := 5) (k := 0) dX11_harness_117 (by decide) (by decide) kw141 rfl rfl (L5_0 (L4_o8 (L10_o2 H3))) ?_
        refine V_cV1 (pc := 120) dX11_harness_120 kw720 calX11_answer kw722 ks29 (L10_0 H3) rfl (by decide) (Nat.le_of_ble_eq_true rfl) (ctX11_answer H3) ?_
        refine V_ret (pc := 123) dX11_harness_123 ⟨rfl, _, rfl⟩ ⟨rfl, rfl, ⟨sk.1, sk.2.1, fun i hi h0 k => ?_⟩, fun _ => H3, fun z => absurd z (by decide)⟩
        rw [uR_no (by omega), uR_no (by omega)]
        exact sk.2.2 i hi h0 k
    · rw [if_pos (show d.1 0 1 < v from Int32.not_le.mp c2)] at hh
      cases hh
      refine V_aload_n (pc := 12) 0 dX11_harness_12 rfl rfl ?_
      refine V_iconst (pc := 13) (x := 2) dX11_harness_13 (by decide) ?_
      refine V_cV1 (pc := 14) dX11_harness_14 kw403 calX11_refuse kw405 ks1 (L10_0 H0) rfl (by decide) (Nat.le_of_ble_eq_true rfl) (ctX11_refuse H0) ?_
      exact V_ret (pc := 17) dX11_harness_17 ⟨rfl, _, rfl⟩ ⟨rfl, rfl, ⟨Nat.le_refl _, fun _ _ => rfl, fun _ _ _ _ => rfl⟩, fun z => absurd z Bool.false_ne_true, fun _ => H0⟩
