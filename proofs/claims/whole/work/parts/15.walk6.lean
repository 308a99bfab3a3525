theorem wX12_pin_24 {G : Gl} {σ : Sg} {d : Dt} {r0 : Nat} {v1 : Int32} {v2 : Int32} {v3 : Int32} {vs0 : Int32} {rs1 : Nat} {rr : Int32 × Dt} (H0 : L11 σ r0) (Hs1 : L11 σ rs1) (h : mX12_pin_24 r0 v1 v2 v3 vs0 rs1 d = some rr) : V G yX12_pin cX12_pin 4 (some .int) 3 0 0 (PH [.int rr.1] σ rr.2) 24 [(0, .ref (gB G + r0)), (1, .int v1), (2, .int v2), (3, .int v3)] [.int vs0, .ref (gB G + rs1)] σ d := by
  rw [mX12_pin_24] at h
  refine V_cS1 (pc := 24) dX12_pin_24 kw1523 calX12_unless kw1524 (by decide) (Nat.le_of_ble_eq_true rfl) (ctX12_unless) ?_
  refine V_cV1 (pc := 27) dX12_pin_27 kw1368 calX12_isRefused kw1370 ks54 (L11_0 Hs1) rfl (by decide) (Nat.le_of_ble_eq_true rfl) (ctX12_isRefused Hs1) ?_
  refine V_ifB_eq (pc := 30) (tgt := 37) dX12_pin_30 (by decide) (fun c11 => ?_) (fun c11 => ?_)
  · have h := ite_f c11 h
    refine V_aload_n (pc := 37) 0 dX12_pin_37 rfl rfl ?_
    refine V_iload_n (pc := 38) 1 dX12_pin_38 rfl rfl ?_
    refine V_bipush (pc := 39) (x := 6) dX12_pin_39 (by decide) ?_
    refine V_iconst (pc := 41) (x := 2) dX12_pin_41 (by decide) ?_
    refine V_iload_n (pc := 42) 2 dX12_pin_42 rfl rfl ?_
    refine V_imul (pc := 43) dX12_pin_43 ?_
    refine V_iadd (pc := 44) dX12_pin_44 ?_
    refine V_iload_n (pc := 45) 3 dX12_pin_45 rfl rfl ?_
    refine V_iadd (pc := 46) dX12_pin_46 ?_
    obtain ⟨x13, h12, h⟩ := bnd h
    refine V_cV2 (pc := 47) dX12_pin_47 kw1636 calX12_netOf kw1638 ks95 (L11_0 H0) rfl (by decide) (Nat.le_of_ble_eq_true rfl) (ctX12_netOf H0 h12) ?_
    cases h
    exact V_ret (pc := 50) dX12_pin_50 ⟨rfl, _, rfl⟩ ⟨rfl, rfl, rfl⟩
  · have h := ite_p c11 h
    refine V_iconst (pc := 33) (x := (-1)) dX12_pin_33 (by decide) ?_
    refine V_goto (pc := 34) (tgt := 50) dX12_pin_34 (by decide) ?_
    cases h
    exact V_ret (pc := 50) dX12_pin_50 ⟨rfl, _, rfl⟩ ⟨rfl, rfl, rfl⟩
theorem calX12_pin : Cal yX12_pin cX12_pin 4 (some .int) 3 := ⟨kw1643, kw11, by decide +kernel⟩
theorem ctX12_pin {G : Gl} {σ : Sg} {d : Dt} {r0 : Nat} {v1 : Int32} {v2 : Int32} {v3 : Int32} {rr : Int32 × Dt} (H0 : L11 σ r0) (h : mX12_pin r0 v1 v2 v3 d = some rr) : CTv G yX12_pin cX12_pin 4 (some .int) 3 [.ref (gB G + r0), .int v1, .int v2, .int v3] σ d [.int rr.1] rr.2 := by
  refine CT_of pn_RX12 (Nat.le_of_ble_eq_true rfl) ?_
  rw [mX12_pin] at h
  refine V_aload_n (pc := 0) 0 dX12_pin_0 rfl rfl ?_
  refine V_aload_n (pc := 1) 0 dX12_pin_1 rfl rfl ?_
  refine V_iload_n (pc := 2) 1 dX12_pin_2 rfl rfl ?_
  refine V_iload_n (pc := 3) 2 dX12_pin_3 rfl rfl ?_
  obtain ⟨x2, h1, h⟩ := bnd h
  refine V_cV2 (pc := 4) dX12_pin_4 kw1644 calX12_isPin kw1646 ks96 (L11_0 H0) rfl (by decide) (Nat.le_of_ble_eq_true rfl) (ctX12_isPin H0 h1) ?_
  refine V_ifB_eq (pc := 7) (tgt := 23) dX12_pin_7 (by decide) (fun c3 => ?_) (fun c3 => ?_)
  · have h := ite_f c3 h
    refine V_iconst (pc := 23) (x := 0) dX12_pin_23 (by decide) ?_
    exact V_sub [0, 1, 2, 3] rfl (wX12_pin_24 H0 H0 h)
  · have h := ite_p c3 h
    refine V_iload_n (pc := 10) 3 dX12_pin_10 rfl rfl ?_
    refine V_iconst (pc := 11) (x := 0) dX12_pin_11 (by decide) ?_
    refine V_iconst (pc := 12) (x := 1) dX12_pin_12 (by decide) ?_
    refine V_cS3 (pc := 13) dX12_pin_13 kw1365 calX12_in kw1366 (by decide) (Nat.le_of_ble_eq_true rfl) (ctX12_in) ?_
    refine V_ifB_eq (pc := 16) (tgt := 23) dX12_pin_16 (by decide) (fun c6 => ?_) (fun c6 => ?_)
    · have h := ite_f c6 h
      refine V_iconst (pc := 23) (x := 0) dX12_pin_23 (by decide) ?_
      exact V_sub [0, 1, 2, 3] rfl (wX12_pin_24 H0 H0 h)
    · have h := ite_p c6 h
      refine V_iconst (pc := 19) (x := 1) dX12_pin_19 (by decide) ?_
      refine V_goto (pc := 20) (tgt := 24) dX12_pin_20 (by decide) ?_
      exact V_sub [0, 1, 2, 3] rfl (wX12_pin_24 H0 H0 h)
theorem calX12_pins : Cal yX12_pins cX12_pins 3 (some .int) 2 := ⟨kw1666, kw11, by decide +kernel⟩
theorem ctX12_pins {G : Gl} {σ : Sg} {d : Dt} {r0 : Nat} {v1 : Int32} {v2 : Int32} {rr : Int32 × Dt} (H0 : L11 σ r0) (h : mX12_pins r0 v1 v2 d = some rr) : CTv G yX12_pins cX12_pins 3 (some .int) 3 [.ref (gB G + r0), .int v1, .int v2] σ d [.int rr.1] rr.2 := by
  refine CT_of pn_RX12 (Nat.le_of_ble_eq_true rfl) ?_
  rw [mX12_pins] at h
  refine V_aload_n (pc := 0) 0 dX12_pins_0 rfl rfl ?_
  refine V_aload_n (pc := 1) 0 dX12_pins_1 rfl rfl ?_
  refine V_aload_n (pc := 2) 0 dX12_pins_2 rfl rfl ?_
  refine V_iload_n (pc := 3) 2 dX12_pins_3 rfl rfl ?_
  obtain ⟨x2, h1, h⟩ := bnd h
  refine V_cV1 (pc := 4) dX12_pins_4 kw1632 calX12_isNet kw1634 ks94 (L11_0 H0) rfl (by decide) (Nat.le_of_ble_eq_true rfl) (ctX12_isNet H0 h1) ?_
  refine V_iload_n (pc := 7) 1 dX12_pins_7 rfl rfl ?_
  obtain ⟨x4, h3, h⟩ := bnd h
  refine V_cV2 (pc := 8) dX12_pins_8 kw1652 calX12_variantWhy kw1654 ks97 (L11_0 H0) rfl (by decide) (Nat.le_of_ble_eq_true rfl) (ctX12_variantWhy H0 h3) ?_
  refine V_cV1 (pc := 11) dX12_pins_11 kw1368 calX12_isRefused kw1370 ks54 (L11_0 H0) rfl (by decide) (Nat.le_of_ble_eq_true rfl) (ctX12_isRefused H0) ?_
  refine V_ifB_eq (pc := 14) (tgt := 21) dX12_pins_14 (by decide) (fun c7 => ?_) (fun c7 => ?_)
  · have h := ite_f c7 h
    refine V_aload_n (pc := 21) 0 dX12_pins_21 rfl rfl ?_
    refine V_iload_n (pc := 22) 1 dX12_pins_22 rfl rfl ?_
    refine V_iload_n (pc := 23) 2 dX12_pins_23 rfl rfl ?_
    obtain ⟨x9, h8, h⟩ := bnd h
    refine V_cV2 (pc := 24) dX12_pins_24 kw1667 calX12_pinsOf kw1669 ks99 (L11_0 H0) rfl (by decide) (Nat.le_of_ble_eq_true rfl) (ctX12_pinsOf H0 h8) ?_
    cases h
    exact V_ret (pc := 27) dX12_pins_27 ⟨rfl, _, rfl⟩ ⟨rfl, rfl, rfl⟩
  · have h := ite_p c7 h
    refine V_iconst (pc := 17) (x := (-1)) dX12_pins_17 (by decide) ?_
    refine V_goto (pc := 18) (tgt := 27) dX12_pins_18 (by decide) ?_
    cases h
    exact V_ret (pc := 27) dX12_pins_27 ⟨rfl, _, rfl⟩ ⟨rfl, rfl, rfl⟩
theorem wX12_place_23 {G : Gl} {σ : Sg} {d : Dt} {r0 : Nat} {v1 : Int32} {v2 : Int32} {vs0 : Int32} {rs1 : Nat} {rr : Int32 × Dt} (H0 : L11 σ r0) (Hs1 : L11 σ rs1) (h : mX12_place_23 r0 v1 v2 vs0 rs1 d = some rr) : V G yX12_place cX12_place 3 (some .int) 2 0 0 (PH [.int rr.1] σ rr.2) 23 [(0, .ref (gB G + r0)), (1, .int v1), (2, .int v2)] [.int vs0, .ref (gB G + rs1)] σ d := by
  rw [mX12_place_23] at h
  refine V_cS1 (pc := 23) dX12_place_23 kw1523 calX12_unless kw1524 (by decide) (Nat.le_of_ble_eq_true rfl) (ctX12_unless) ?_
  refine V_cV1 (pc := 26) dX12_place_26 kw1368 calX12_isRefused kw1370 ks54 (L11_0 Hs1) rfl (by decide) (Nat.le_of_ble_eq_true rfl) (ctX12_isRefused Hs1) ?_
  refine V_ifB_eq (pc := 29) (tgt := 36) dX12_place_29 (by decide) (fun c11 => ?_) (fun c11 => ?_)
  · have h := ite_f c11 h
    refine V_aload_n (pc := 36) 0 dX12_place_36 rfl rfl ?_
    obtain ⟨x13, h12, h⟩ := bnd h
    refine V_cV0 (pc := 37) dX12_place_37 kw1579 calX12_laysPlaces kw1581 ks89 (L11_0 H0) rfl (by decide) (Nat.le_of_ble_eq_true rfl) (ctX12_laysPlaces H0 h12) ?_
    refine V_iload_n (pc := 40) 2 dX12_place_40 rfl rfl ?_
    refine V_if_ne (pc := 41) (tgt := 53) dX12_place_41 (by decide) (fun c14 => ?_) (fun c14 => ?_)
    · have h := ite_n c14 h
      refine V_aload_n (pc := 53) 0 dX12_place_53 rfl rfl ?_
      refine V_getR (pc := 54) (c := 11) (k := 25) dX12_place_54 (by decide) (by decide) kw1268 rfl rfl (L11_0 H0) (L11_r25 H0) ?_
      refine V_iload_n (pc := 57) 1 dX12_place_57 rfl rfl ?_
      obtain ⟨b15, h⟩ := ite_o h
      refine V_iald (pc := 58) dX12_place_58 (L11_s25 H0) (inB_vp b15) ?_
      cases h
      exact V_ret (pc := 59) dX12_place_59 ⟨rfl, _, rfl⟩ ⟨rfl, rfl, rfl⟩
    · have h := ite_p c14 h
      refine V_aload_n (pc := 44) 0 dX12_place_44 rfl rfl ?_
      refine V_getR (pc := 45) (c := 11) (k := 24) dX12_place_45 (by decide) (by decide) kw1267 rfl rfl (L11_0 H0) (L11_r24 H0) ?_
      refine V_iload_n (pc := 48) 1 dX12_place_48 rfl rfl ?_
      obtain ⟨b16, h⟩ := ite_o h
      refine V_iald (pc := 49) dX12_place_49 (L11_s24 H0) (inB_vp b16) ?_
      refine V_goto (pc := 50) (tgt := 59) dX12_place_50 (by decide) ?_
      cases h
      exact V_ret (pc := 59) dX12_place_59 ⟨rfl, _, rfl⟩ ⟨rfl, rfl, rfl⟩
  · have h := ite_p c11 h
    refine V_ldcw (pc := 32) dX12_place_32 kw1578 ?_
    cases h
    exact V_ret (pc := 35) dX12_place_35 ⟨rfl, _, rfl⟩ ⟨rfl, rfl, rfl⟩
theorem calX12_place : Cal yX12_place cX12_place 3 (some .int) 2 := ⟨kw1577, kw11, by decide +kernel⟩
theorem ctX12_place {G : Gl} {σ : Sg} {d : Dt} {r0 : Nat} {v1 : Int32} {v2 : Int32} {rr : Int32 × Dt} (H0 : L11 σ r0) (h : mX12_place r0 v1 v2 d = some rr) : CTv G yX12_place cX12_place 3 (some .int) 2 [.ref (gB G + r0), .int v1, .int v2] σ d [.int rr.1] rr.2 := by
  refine CT_of pn_RX12 (Nat.le_of_ble_eq_true rfl) ?_
  rw [mX12_place] at h
  refine V_aload_n (pc := 0) 0 dX12_place_0 rfl rfl ?_
  refine V_aload_n (pc := 1) 0 dX12_place_1 rfl rfl ?_
  refine V_iload_n (pc := 2) 1 dX12_place_2 rfl rfl ?_
  obtain ⟨x2, h1, h⟩ := bnd h
  refine V_cV1 (pc := 3) dX12_place_3 kw1534 calX12_isNode kw1536 ks83 (L11_0 H0) rfl (by decide) (Nat.le_of_ble_eq_true rfl) (ctX12_isNode H0 h1) ?_
  refine V_ifB_eq (pc := 6) (tgt := 22) dX12_place_6 (by decide) (fun c3 => ?_) (fun c3 => ?_)
  · have h := ite_f c3 h
    refine V_iconst (pc := 22) (x := 0) dX12_place_22 (by decide) ?_
    exact V_sub [0, 1, 2] rfl (wX12_place_23 H0 H0 h)
  · have h := ite_p c3 h
    refine V_iload_n (pc := 9) 2 dX12_place_9 rfl rfl ?_
    refine V_iconst (pc := 10) (x := 0) dX12_place_10 (by decide) ?_
    refine V_iconst (pc := 11) (x := 1) dX12_place_11 (by decide) ?_
    refine V_cS3 (pc := 12) dX12_place_12 kw1365 calX12_in kw1366 (by decide) (Nat.le_of_ble_eq_true rfl) (ctX12_in) ?_
    refine V_ifB_eq (pc := 15) (tgt := 22) dX12_place_15 (by decide) (fun c6 => ?_) (fun c6 => ?_)
    · have h := ite_f c6 h
      refine V_iconst (pc := 22) (x := 0) dX12_place_22 (by decide) ?_
      exact V_sub [0, 1, 2] rfl (wX12_place_23 H0 H0 h)
    · have h := ite_p c6 h
      refine V_iconst (pc := 18) (x := 1) dX12_place_18 (by decide) ?_
      refine V_goto (pc := 19) (tgt := 23) dX12_place_19 (by decide) ?_
      exact V_sub [0, 1, 2] rfl (wX12_place_23 H0 H0 h)
theorem wX12_plug_23 {G : Gl} {σ : Sg} {d : Dt} {r0 : Nat} {v1 : Int32} {v2 : Int32} {vs0 : Int32} {rs1 : Nat} {rr : Int32 × Dt} (H0 : L11 σ r0) (Hs1 : L11 σ rs1) (h : mX12_plug_23 r0 v1 v2 vs0 rs1 d = some rr) : V G yX12_plug cX12_plug 3 (some .int) 2 0 0 (PH [.int rr.1] σ rr.2) 23 [(0, .ref (gB G + r0)), (1, .int v1), (2, .int v2)] [.int vs0, .ref (gB G + rs1)] σ d := by
  rw [mX12_plug_23] at h
  refine V_cS1 (pc := 23) dX12_plug_23 kw1523 calX12_unless kw1524 (by decide) (Nat.le_of_ble_eq_true rfl) (ctX12_unless) ?_
  refine V_cV1 (pc := 26) dX12_plug_26 kw1368 calX12_isRefused kw1370 ks54 (L11_0 Hs1) rfl (by decide) (Nat.le_of_ble_eq_true rfl) (ctX12_isRefused Hs1) ?_
  refine V_ifB_eq (pc := 29) (tgt := 36) dX12_plug_29 (by decide) (fun c11 => ?_) (fun c11 => ?_)
  · have h := ite_f c11 h
    refine V_aload_n (pc := 36) 0 dX12_plug_36 rfl rfl ?_
    refine V_iload_n (pc := 37) 1 dX12_plug_37 rfl rfl ?_
    refine V_iload_n (pc := 38) 2 dX12_plug_38 rfl rfl ?_
    obtain ⟨x13, h12, h⟩ := bnd h
    refine V_cV2 (pc := 39) dX12_plug_39 kw1624 calX12_plugOf kw1626 ks93 (L11_0 H0) rfl (by decide) (Nat.le_of_ble_eq_true rfl) (ctX12_plugOf H0 h12) ?_
    cases h
    exact V_ret (pc := 42) dX12_plug_42 ⟨rfl, _, rfl⟩ ⟨rfl, rfl, rfl⟩
  · have h := ite_p c11 h
    refine V_iconst (pc := 32) (x := (-1)) dX12_plug_32 (by decide) ?_
    refine V_goto (pc := 33) (tgt := 42) dX12_plug_33 (by decide) ?_
    cases h
    exact V_ret (pc := 42) dX12_plug_42 ⟨rfl, _, rfl⟩ ⟨rfl, rfl, rfl⟩
theorem calX12_plug : Cal yX12_plug cX12_plug 3 (some .int) 2 := ⟨kw1619, kw11, by decide +kernel⟩
theorem ctX12_plug {G : Gl} {σ : Sg} {d : Dt} {r0 : Nat} {v1 : Int32} {v2 : Int32} {rr : Int32 × Dt} (H0 : L11 σ r0) (h : mX12_plug r0 v1 v2 d = some rr) : CTv G yX12_plug cX12_plug 3 (some .int) 2 [.ref (gB G + r0), .int v1, .int v2] σ d [.int rr.1] rr.2 := by
  refine CT_of pn_RX12 (Nat.le_of_ble_eq_true rfl) ?_
  rw [mX12_plug] at h
  refine V_aload_n (pc := 0) 0 dX12_plug_0 rfl rfl ?_
  refine V_aload_n (pc := 1) 0 dX12_plug_1 rfl rfl ?_
  refine V_iload_n (pc := 2) 1 dX12_plug_2 rfl rfl ?_
  obtain ⟨x2, h1, h⟩ := bnd h
  refine V_cV1 (pc := 3) dX12_plug_3 kw1620 calX12_isPlug kw1622 ks92 (L11_0 H0) rfl (by decide) (Nat.le_of_ble_eq_true rfl) (ctX12_isPlug H0 h1) ?_
  refine V_ifB_eq (pc := 6) (tgt := 22) dX12_plug_6 (by decide) (fun c3 => ?_) (fun c3 => ?_)
  · have h := ite_f c3 h
    refine V_iconst (pc := 22) (x := 0) dX12_plug_22 (by decide) ?_
    exact V_sub [0, 1, 2] rfl (wX12_plug_23 H0 H0 h)
  · have h := ite_p c3 h
    refine V_iload_n (pc := 9) 2 dX12_plug_9 rfl rfl ?_
    refine V_iconst (pc := 10) (x := 0) dX12_plug_10 (by decide) ?_
    refine V_iconst (pc := 11) (x := 5) dX12_plug_11 (by decide) ?_
    refine V_cS3 (pc := 12) dX12_plug_12 kw1365 calX12_in kw1366 (by decide) (Nat.le_of_ble_eq_true rfl) (ctX12_in) ?_
    refine V_ifB_eq (pc := 15) (tgt := 22) dX12_plug_15 (by decide) (fun c6 => ?_) (fun c6 => ?_)
    · have h := ite_f c6 h
      refine V_iconst (pc := 22) (x := 0) dX12_plug_22 (by decide) ?_
      exact V_sub [0, 1, 2] rfl (wX12_plug_23 H0 H0 h)
    · have h := ite_p c6 h
      refine V_iconst (pc := 18) (x := 1) dX12_plug_18 (by decide) ?_
      refine V_goto (pc := 19) (tgt := 23) dX12_plug_19 (by decide) ?_
      exact V_sub [0, 1, 2] rfl (wX12_plug_23 H0 H0 h)
theorem wX12_plugs_19 {G : Gl} {σ : Sg} {r0 : Nat} {v1 : Int32} {rr : Int32 × Dt} (H0 : L11 σ r0) : ∀ (n : Nat) (v2 : Int32) (v3 : Int32) (d : Dt), mX12_plugs_19 r0 v1 n v2 v3 d = some rr → V G yX12_plugs cX12_plugs 4 (some .int) 2 0 0 (PH [.int rr.1] σ rr.2) 19 [(0, .ref (gB G + r0)), (1, .int v1), (2, .int v2), (3, .int v3)] [] σ d := by
  intro n
  induction n with
  | zero =>
    intro v2 v3 d
    intros
    rename_i h
    exact absurd h (by rw [mX12_plugs_19]; exact fun q => nomatch q)
  | succ n ih =>
    intro v2 v3 d h
    rw [mX12_plugs_19] at h
    refine V_iload_n (pc := 19) 3 dX12_plugs_19 rfl rfl ?_
    refine V_aload_n (pc := 20) 0 dX12_plugs_20 rfl rfl ?_
    refine V_getR (pc := 21) (c := 11) (k := 6) dX12_plugs_21 (by decide) (by decide) kw1249 rfl rfl (L11_0 H0) (L11_r6 H0) ?_
    refine V_iconst (pc := 24) (x := 4) dX12_plugs_24 (by decide) ?_
    obtain ⟨b6, h⟩ := ite_o h
    refine V_iald (pc := 25) dX12_plugs_25 (L11_s6 H0) (inB_vp b6) ?_
    refine V_icmp_ge (pc := 26) (tgt := 54) dX12_plugs_26 (by decide) (fun c7 => ?_) (fun c7 => ?_)
    · have h := ite_p c7 h
      refine V_iload_n (pc := 54) 2 dX12_plugs_54 rfl rfl ?_
      cases h
      exact V_ret (pc := 55) dX12_plugs_55 ⟨rfl, _, rfl⟩ ⟨rfl, rfl, rfl⟩
    · have h := ite_n c7 h
      refine V_iload_n (pc := 29) 2 dX12_plugs_29 rfl rfl ?_
      refine V_aload_n (pc := 30) 0 dX12_plugs_30 rfl rfl ?_
      refine V_iload_n (pc := 31) 3 dX12_plugs_31 rfl rfl ?_
      refine V_iload_n (pc := 32) 1 dX12_plugs_32 rfl rfl ?_
      obtain ⟨x9, h8, h⟩ := bnd h
      refine V_cV2 (pc := 33) dX12_plugs_33 kw1656 calX12_isPlugThere kw1658 ks98 (L11_0 H0) rfl (by decide) (Nat.le_of_ble_eq_true rfl) (ctX12_isPlugThere H0 h8) ?_
      refine V_ifB_eq (pc := 36) (tgt := 45) dX12_plugs_36 (by decide) (fun c10 => ?_) (fun c10 => ?_)
      · have h := ite_f c10 h
        refine V_iconst (pc := 45) (x := 0) dX12_plugs_45 (by decide) ?_
        refine V_ior (pc := 46) dX12_plugs_46 ?_
        refine V_istore_n (pc := 47) (lv1 := [(2, _), (0, _), (1, _), (3, _)]) dX12_plugs_47 rfl (by decide) rfl ?_
        refine V_iinc (pc := 48) (lv1 := [(3, _), (2, _), (0, _), (1, _)]) (z := _ + (1 : Int32)) 3 dX12_plugs_48 rfl rfl (by decide) rfl ?_
        refine V_goto (pc := 51) (tgt := 19) dX12_plugs_51 (by decide) ?_
        exact V_sub [2, 3, 1, 0] rfl (ih (v2 ||| (0 : Int32)) (v3 + (1 : Int32)) d h)
      · have h := ite_p c10 h
        refine V_iconst (pc := 39) (x := 1) dX12_plugs_39 (by decide) ?_
        refine V_iload_n (pc := 40) 3 dX12_plugs_40 rfl rfl ?_
        refine V_ishl (pc := 41) dX12_plugs_41 ?_
        refine V_goto (pc := 42) (tgt := 46) dX12_plugs_42 (by decide) ?_
        refine V_ior (pc := 46) dX12_plugs_46 ?_
        refine V_istore_n (pc := 47) (lv1 := [(2, _), (0, _), (1, _), (3, _)]) dX12_plugs_47 rfl (by decide) rfl ?_
        refine V_iinc (pc := 48) (lv1 := [(3, _), (2, _), (0, _), (1, _)]) (z := _ + (1 : Int32)) 3 dX12_plugs_48 rfl rfl (by decide) rfl ?_
        refine V_goto (pc := 51) (tgt := 19) dX12_plugs_51 (by decide) ?_
        exact V_sub [2, 3, 1, 0] rfl (ih (v2 ||| ((1 : Int32) <<< (v3 &&& 31))) (v3 + (1 : Int32)) d h)
theorem calX12_plugs : Cal yX12_plugs cX12_plugs 4 (some .int) 1 := ⟨kw1651, kw11, by decide +kernel⟩
theorem ctX12_plugs {G : Gl} {σ : Sg} {d : Dt} {r0 : Nat} {v1 : Int32} {rr : Int32 × Dt} (H0 : L11 σ r0) (h : mX12_plugs r0 v1 d = some rr) : CTv G yX12_plugs cX12_plugs 4 (some .int) 2 [.ref (gB G + r0), .int v1] σ d [.int rr.1] rr.2 := by
  refine CT_of pn_RX12 (Nat.le_of_ble_eq_true rfl) ?_
  rw [mX12_plugs] at h
  refine V_aload_n (pc := 0) 0 dX12_plugs_0 rfl rfl ?_
  refine V_aload_n (pc := 1) 0 dX12_plugs_1 rfl rfl ?_
  refine V_iconst (pc := 2) (x := 1) dX12_plugs_2 (by decide) ?_
  refine V_iload_n (pc := 3) 1 dX12_plugs_3 rfl rfl ?_
  obtain ⟨x2, h1, h⟩ := bnd h
  refine V_cV2 (pc := 4) dX12_plugs_4 kw1652 calX12_variantWhy kw1654 ks97 (L11_0 H0) rfl (by decide) (Nat.le_of_ble_eq_true rfl) (ctX12_variantWhy H0 h1) ?_
  refine V_cV1 (pc := 7) dX12_plugs_7 kw1368 calX12_isRefused kw1370 ks54 (L11_0 H0) rfl (by decide) (Nat.le_of_ble_eq_true rfl) (ctX12_isRefused H0) ?_
  refine V_ifB_eq (pc := 10) (tgt := 15) dX12_plugs_10 (by decide) (fun c5 => ?_) (fun c5 => ?_)
  · have h := ite_f c5 h
    refine V_iconst (pc := 15) (x := 0) dX12_plugs_15 (by decide) ?_
    refine V_istore_n (pc := 16) (lv1 := [(2, _), (0, _), (1, _)]) dX12_plugs_16 rfl (by decide) rfl ?_
    refine V_iconst (pc := 17) (x := 0) dX12_plugs_17 (by decide) ?_
    refine V_istore_n (pc := 18) (lv1 := [(3, _), (2, _), (0, _), (1, _)]) dX12_plugs_18 rfl (by decide) rfl ?_
    exact V_sub [2, 3, 1, 0] rfl (wX12_plugs_19 H0 FUEL (0 : Int32) (0 : Int32) ((mX12_isRefused r0 x2 d).2) h)
  · have h := ite_p c5 h
    refine V_iconst (pc := 13) (x := (-1)) dX12_plugs_13 (by decide) ?_
    cases h
    exact V_ret (pc := 14) dX12_plugs_14 ⟨rfl, _, rfl⟩ ⟨rfl, rfl, rfl⟩
theorem wX12_reach_23 {G : Gl} {σ : Sg} {d : Dt} {r0 : Nat} {v1 : Int32} {v2 : Int32} {v3 : Int32} {vs0 : Int32} {rs1 : Nat} {rs2 : Nat} {rr : Int32 × Dt} (H0 : L11 σ r0) (Hs1 : L11 σ rs1) (Hs2 : L11 σ rs2) (h : mX12_reach_23 r0 v1 v2 v3 vs0 rs1 rs2 d = some rr) : V G yX12_reach cX12_reach 4 (some .int) 4 0 0 (PH [.int rr.1] σ rr.2) 23 [(0, .ref (gB G + r0)), (1, .int v1), (2, .int v2), (3, .int v3)] [.int vs0, .ref (gB G + rs1), .ref (gB G + rs2)] σ d := by
  rw [mX12_reach_23] at h
  refine V_iload_n (pc := 23) 1 dX12_reach_23 rfl rfl ?_
  obtain ⟨x8, h7, h⟩ := bnd h
  refine V_cV2 (pc := 24) dX12_reach_24 kw1652 calX12_variantWhy kw1654 ks97 (L11_0 Hs1) rfl (by decide) (Nat.le_of_ble_eq_true rfl) (ctX12_variantWhy Hs1 h7) ?_
  refine V_cV1 (pc := 27) dX12_reach_27 kw1368 calX12_isRefused kw1370 ks54 (L11_0 Hs2) rfl (by decide) (Nat.le_of_ble_eq_true rfl) (ctX12_isRefused Hs2) ?_
  refine V_ifB_eq (pc := 30) (tgt := 37) dX12_reach_30 (by decide) (fun c11 => ?_) (fun c11 => ?_)
  · have h := ite_f c11 h
    refine V_aload_n (pc := 37) 0 dX12_reach_37 rfl rfl ?_
    refine V_iload_n (pc := 38) 2 dX12_reach_38 rfl rfl ?_
    refine V_aload_n (pc := 39) 0 dX12_reach_39 rfl rfl ?_
    refine V_iload_n (pc := 40) 1 dX12_reach_40 rfl rfl ?_
    refine V_iload_n (pc := 41) 2 dX12_reach_41 rfl rfl ?_
    obtain ⟨x13, h12, h⟩ := bnd h
    refine V_cV2 (pc := 42) dX12_reach_42 kw1667 calX12_pinsOf kw1669 ks99 (L11_0 H0) rfl (by decide) (Nat.le_of_ble_eq_true rfl) (ctX12_pinsOf H0 h12) ?_
    refine V_iload_n (pc := 45) 3 dX12_reach_45 rfl rfl ?_
    obtain ⟨x15, h14, h⟩ := bnd h
    refine V_cV3 (pc := 46) dX12_reach_46 kw1686 calX12_reachOf kw1688 ks102 (L11_0 H0) rfl (by decide) (Nat.le_of_ble_eq_true rfl) (ctX12_reachOf H0 h14) ?_
    cases h
    exact V_ret (pc := 49) dX12_reach_49 ⟨rfl, _, rfl⟩ ⟨rfl, rfl, rfl⟩
  · have h := ite_p c11 h
    refine V_iconst (pc := 33) (x := (-1)) dX12_reach_33 (by decide) ?_
    refine V_goto (pc := 34) (tgt := 49) dX12_reach_34 (by decide) ?_
    cases h
    exact V_ret (pc := 49) dX12_reach_49 ⟨rfl, _, rfl⟩ ⟨rfl, rfl, rfl⟩
theorem calX12_reach : Cal yX12_reach cX12_reach 4 (some .int) 3 := ⟨kw1718, kw11, by decide +kernel⟩
theorem ctX12_reach {G : Gl} {σ : Sg} {d : Dt} {r0 : Nat} {v1 : Int32} {v2 : Int32} {v3 : Int32} {rr : Int32 × Dt} (H0 : L11 σ r0) (h : mX12_reach r0 v1 v2 v3 d = some rr) : CTv G yX12_reach cX12_reach 4 (some .int) 4 [.ref (gB G + r0), .int v1, .int v2, .int v3] σ d [.int rr.1] rr.2 := by
  refine CT_of pn_RX12 (Nat.le_of_ble_eq_true rfl) ?_
  rw [mX12_reach] at h
  refine V_aload_n (pc := 0) 0 dX12_reach_0 rfl rfl ?_
  refine V_aload_n (pc := 1) 0 dX12_reach_1 rfl rfl ?_
  refine V_aload_n (pc := 2) 0 dX12_reach_2 rfl rfl ?_
  refine V_iload_n (pc := 3) 2 dX12_reach_3 rfl rfl ?_
  obtain ⟨x2, h1, h⟩ := bnd h
  refine V_cV1 (pc := 4) dX12_reach_4 kw1632 calX12_isNet kw1634 ks94 (L11_0 H0) rfl (by decide) (Nat.le_of_ble_eq_true rfl) (ctX12_isNet H0 h1) ?_
  refine V_ifB_eq (pc := 7) (tgt := 22) dX12_reach_7 (by decide) (fun c3 => ?_) (fun c3 => ?_)
  · have h := ite_f c3 h
    refine V_iconst (pc := 22) (x := 0) dX12_reach_22 (by decide) ?_
    exact V_sub [0, 1, 2, 3] rfl (wX12_reach_23 H0 H0 H0 h)
  · have h := ite_p c3 h
    refine V_aload_n (pc := 10) 0 dX12_reach_10 rfl rfl ?_
    refine V_iload_n (pc := 11) 3 dX12_reach_11 rfl rfl ?_
    obtain ⟨x5, h4, h⟩ := bnd h
    refine V_cV1 (pc := 12) dX12_reach_12 kw1534 calX12_isNode kw1536 ks83 (L11_0 H0) rfl (by decide) (Nat.le_of_ble_eq_true rfl) (ctX12_isNode H0 h4) ?_
    refine V_ifB_eq (pc := 15) (tgt := 22) dX12_reach_15 (by decide) (fun c6 => ?_) (fun c6 => ?_)
    · have h := ite_f c6 h
      refine V_iconst (pc := 22) (x := 0) dX12_reach_22 (by decide) ?_
      exact V_sub [0, 1, 2, 3] rfl (wX12_reach_23 H0 H0 H0 h)
    · have h := ite_p c6 h
      refine V_iconst (pc := 18) (x := 1) dX12_reach_18 (by decide) ?_
      refine V_goto (pc := 19) (tgt := 23) dX12_reach_19 (by decide) ?_
      exact V_sub [0, 1, 2, 3] rfl (wX12_reach_23 H0 H0 H0 h)
theorem calX12_side : Cal yX12_side cX12_side 2 (some .int) 1 := ⟨kw1569, kw11, by decide +kernel⟩
theorem ctX12_side {G : Gl} {σ : Sg} {d : Dt} {r0 : Nat} {v1 : Int32} {rr : Int32 × Dt} (H0 : L11 σ r0) (h : mX12_side r0 v1 d = some rr) : CTv G yX12_side cX12_side 2 (some .int) 3 [.ref (gB G + r0), .int v1] σ d [.int rr.1] rr.2 := by
  refine CT_of pn_RX12 (Nat.le_of_ble_eq_true rfl) ?_
  rw [mX12_side] at h
  refine V_aload_n (pc := 0) 0 dX12_side_0 rfl rfl ?_
  refine V_aload_n (pc := 1) 0 dX12_side_1 rfl rfl ?_
  refine V_iload_n (pc := 2) 1 dX12_side_2 rfl rfl ?_
  obtain ⟨x2, h1, h⟩ := bnd h
  refine V_cV1 (pc := 3) dX12_side_3 kw1570 calX12_isBundle kw1572 ks88 (L11_0 H0) rfl (by decide) (Nat.le_of_ble_eq_true rfl) (ctX12_isBundle H0 h1) ?_
  refine V_cS1 (pc := 6) dX12_side_6 kw1523 calX12_unless kw1524 (by decide) (Nat.le_of_ble_eq_true rfl) (ctX12_unless) ?_
  refine V_cV1 (pc := 9) dX12_side_9 kw1368 calX12_isRefused kw1370 ks54 (L11_0 H0) rfl (by decide) (Nat.le_of_ble_eq_true rfl) (ctX12_isRefused H0) ?_
  refine V_ifB_eq (pc := 12) (tgt := 19) dX12_side_12 (by decide) (fun c7 => ?_) (fun c7 => ?_)
  · have h := ite_f c7 h
    refine V_aload_n (pc := 19) 0 dX12_side_19 rfl rfl ?_
    refine V_getR (pc := 20) (c := 11) (k := 6) dX12_side_20 (by decide) (by decide) kw1249 rfl rfl (L11_0 H0) (L11_r6 H0) ?_
    refine V_bipush (pc := 23) (x := 35) dX12_side_23 (by decide) ?_
    refine V_iload_n (pc := 25) 1 dX12_side_25 rfl rfl ?_
    refine V_iadd (pc := 26) dX12_side_26 ?_
    obtain ⟨b8, h⟩ := ite_o h
    refine V_iald (pc := 27) dX12_side_27 (L11_s6 H0) (inB_vp b8) ?_
    cases h
    exact V_ret (pc := 28) dX12_side_28 ⟨rfl, _, rfl⟩ ⟨rfl, rfl, rfl⟩
  · have h := ite_p c7 h
    refine V_iconst (pc := 15) (x := (-1)) dX12_side_15 (by decide) ?_
    refine V_goto (pc := 16) (tgt := 28) dX12_side_16 (by decide) ?_
    cases h
    exact V_ret (pc := 28) dX12_side_28 ⟨rfl, _, rfl⟩ ⟨rfl, rfl, rfl⟩
theorem calX12_size : Cal yX12_size cX12_size 2 (some .int) 1 := ⟨kw1882, kw11, by decide +kernel⟩
theorem ctX12_size {G : Gl} {σ : Sg} {d : Dt} {r0 : Nat} {v1 : Int32} {rr : Int32 × Dt} (H0 : L11 σ r0) (h : mX12_size r0 v1 d = some rr) : CTv G yX12_size cX12_size 2 (some .int) 2 [.ref (gB G + r0), .int v1] σ d [.int rr.1] rr.2 := by
  refine CT_of pn_RX12 (Nat.le_of_ble_eq_true rfl) ?_
  rw [mX12_size] at h
  refine V_aload_n (pc := 0) 0 dX12_size_0 rfl rfl ?_
  refine V_iconst (pc := 1) (x := 0) dX12_size_1 (by decide) ?_
  refine V_putI (pc := 2) (c := 11) (k := 0) dX12_size_2 (by decide) (by decide) kw1243 rfl rfl rfl ⟨rfl, rfl⟩ (L11_0 H0) ?_
  refine V_iload_n (pc := 5) 1 dX12_size_5 rfl rfl ?_
  rcases Decidable.em (v1 = (0 : Int32)) with c1 | c1
  · have h := ite_p c1 h
    refine V_tcase (pc := 6) (tgt := 32) dX12_size_6 c1 (by decide) (by decide) rfl (by decide) ?_
    refine V_aload_n (pc := 32) 0 dX12_size_32 rfl rfl ?_
    refine V_getI (pc := 33) (c := 11) (k := 5) dX12_size_33 (by decide) (by decide) kw1248 rfl rfl (L11_0 H0) ?_
    cases h
    exact V_ret (pc := 36) dX12_size_36 ⟨rfl, _, rfl⟩ ⟨rfl, rfl, rfl⟩
  · have h := ite_n c1 h
    rcases Decidable.em (v1 = (1 : Int32)) with c2 | c2
    · have h := ite_p c2 h
      refine V_tcase (pc := 6) (tgt := 37) dX12_size_6 c2 (by decide) (by decide) rfl (by decide) ?_
      refine V_aload_n (pc := 37) 0 dX12_size_37 rfl rfl ?_
      refine V_getI (pc := 38) (c := 11) (k := 34) dX12_size_38 (by decide) (by decide) kw1277 rfl rfl (L11_0 H0) ?_
      cases h
      exact V_ret (pc := 41) dX12_size_41 ⟨rfl, _, rfl⟩ ⟨rfl, rfl, rfl⟩
    · have h := ite_n c2 h
      rcases Decidable.em (v1 = (2 : Int32)) with c3 | c3
      · have h := ite_p c3 h
        refine V_tcase (pc := 6) (tgt := 42) dX12_size_6 c3 (by decide) (by decide) rfl (by decide) ?_
        refine V_aload_n (pc := 42) 0 dX12_size_42 rfl rfl ?_
        obtain ⟨x5, h4, h⟩ := bnd h
        refine V_cV0 (pc := 43) dX12_size_43 kw1883 calX12_handMany kw1885 ks126 (L11_0 H0) rfl (by decide) (Nat.le_of_ble_eq_true rfl) (ctX12_handMany H0 h4) ?_
        cases h
        exact V_ret (pc := 46) dX12_size_46 ⟨rfl, _, rfl⟩ ⟨rfl, rfl, rfl⟩
      · have h := ite_n c3 h
        refine V_tout (pc := 6) (tgt := 47) dX12_size_6 (sw3 c1 c2 c3) (by decide) ?_
        refine V_iconst (pc := 47) (x := (-1)) dX12_size_47 (by decide) ?_
        cases h
        exact V_ret (pc := 48) dX12_size_48 ⟨rfl, _, rfl⟩ ⟨rfl, rfl, rfl⟩
theorem wX12_sound_20 {G : Gl} {σ : Sg} {r0 : Nat} {rr : Int32 × Dt} (H0 : L11 σ r0) : ∀ (n : Nat) (v1 : Int32) (v2 : Int32) (d : Dt), mX12_sound_20 r0 n v1 v2 d = some rr → V G yX12_sound cX12_sound 3 (some .int) 7 0 0 (PH [.int rr.1] σ rr.2) 20 [(0, .ref (gB G + r0)), (1, .int v1), (2, .int v2)] [] σ d := by
  intro n
  induction n with
  | zero =>
    intro v1 v2 d
    intros
    rename_i h
    exact absurd h (by rw [mX12_sound_20]; exact fun q => nomatch q)
  | succ n ih =>
    intro v1 v2 d h
    rw [mX12_sound_20] at h
    refine V_iload_n (pc := 20) 2 dX12_sound_20 rfl rfl ?_
    refine V_iconst (pc := 21) (x := 1) dX12_sound_21 (by decide) ?_
    refine V_aload_n (pc := 22) 0 dX12_sound_22 rfl rfl ?_
    refine V_getR (pc := 23) (c := 11) (k := 6) dX12_sound_23 (by decide) (by decide) kw1249 rfl rfl (L11_0 H0) (L11_r6 H0) ?_
    refine V_iconst (pc := 26) (x := 3) dX12_sound_26 (by decide) ?_
    obtain ⟨b6, h⟩ := ite_o h
    refine V_iald (pc := 27) dX12_sound_27 (L11_s6 H0) (inB_vp b6) ?_
    refine V_ishl (pc := 28) dX12_sound_28 ?_
    refine V_icmp_ge (pc := 29) (tgt := 56) dX12_sound_29 (by decide) (fun c7 => ?_) (fun c7 => ?_)
    · have h := ite_p c7 h
      refine V_iload_n (pc := 56) 1 dX12_sound_56 rfl rfl ?_
      cases h
      exact V_ret (pc := 57) dX12_sound_57 ⟨rfl, _, rfl⟩ ⟨rfl, rfl, rfl⟩
    · have h := ite_n c7 h
      refine V_iload_n (pc := 32) 1 dX12_sound_32 rfl rfl ?_
      refine V_aload_n (pc := 33) 0 dX12_sound_33 rfl rfl ?_
      refine V_iload_n (pc := 34) 2 dX12_sound_34 rfl rfl ?_
      obtain ⟨x9, h8, h⟩ := bnd h
      refine V_cV1 (pc := 35) dX12_sound_35 kw1747 calX12_laysFlaws kw1749 ks107 (L11_0 H0) rfl (by decide) (Nat.le_of_ble_eq_true rfl) (ctX12_laysFlaws H0 h8) ?_
      refine V_if_ne (pc := 38) (tgt := 47) dX12_sound_38 (by decide) (fun c10 => ?_) (fun c10 => ?_)
      · have h := ite_n c10 h
        refine V_iconst (pc := 47) (x := 0) dX12_sound_47 (by decide) ?_
        refine V_ior (pc := 48) dX12_sound_48 ?_
        refine V_istore_n (pc := 49) (lv1 := [(1, _), (0, _), (2, _)]) dX12_sound_49 rfl (by decide) rfl ?_
        refine V_iinc (pc := 50) (lv1 := [(2, _), (1, _), (0, _)]) (z := _ + (1 : Int32)) 2 dX12_sound_50 rfl rfl (by decide) rfl ?_
        refine V_goto (pc := 53) (tgt := 20) dX12_sound_53 (by decide) ?_
        exact V_sub [2, 1, 0] rfl (ih (v1 ||| (0 : Int32)) (v2 + (1 : Int32)) x9.2 h)
      · have h := ite_p c10 h
        refine V_iconst (pc := 41) (x := 1) dX12_sound_41 (by decide) ?_
        refine V_iload_n (pc := 42) 2 dX12_sound_42 rfl rfl ?_
        refine V_ishl (pc := 43) dX12_sound_43 ?_
        refine V_goto (pc := 44) (tgt := 48) dX12_sound_44 (by decide) ?_
        refine V_ior (pc := 48) dX12_sound_48 ?_
        refine V_istore_n (pc := 49) (lv1 := [(1, _), (0, _), (2, _)]) dX12_sound_49 rfl (by decide) rfl ?_
        refine V_iinc (pc := 50) (lv1 := [(2, _), (1, _), (0, _)]) (z := _ + (1 : Int32)) 2 dX12_sound_50 rfl rfl (by decide) rfl ?_
        refine V_goto (pc := 53) (tgt := 20) dX12_sound_53 (by decide) ?_
        exact V_sub [2, 1, 0] rfl (ih (v1 ||| ((1 : Int32) <<< (v2 &&& 31))) (v2 + (1 : Int32)) x9.2 h)
theorem calX12_sound : Cal yX12_sound cX12_sound 3 (some .int) 0 := ⟨kw1782, kw11, by decide +kernel⟩
theorem ctX12_sound {G : Gl} {σ : Sg} {d : Dt} {r0 : Nat} {rr : Int32 × Dt} (H0 : L11 σ r0) (h : mX12_sound r0 d = some rr) : CTv G yX12_sound cX12_sound 3 (some .int) 7 [.ref (gB G + r0)] σ d [.int rr.1] rr.2 := by
  refine CT_of pn_RX12 (Nat.le_of_ble_eq_true rfl) ?_
  rw [mX12_sound] at h
  refine V_aload_n (pc := 0) 0 dX12_sound_0 rfl rfl ?_
  refine V_aload_n (pc := 1) 0 dX12_sound_1 rfl rfl ?_
  refine V_getI (pc := 2) (c := 11) (k := 14) dX12_sound_2 (by decide) (by decide) kw1257 rfl rfl (L11_0 H0) ?_
  refine V_cS1 (pc := 5) dX12_sound_5 kw1523 calX12_unless kw1524 (by decide) (Nat.le_of_ble_eq_true rfl) (ctX12_unless) ?_
  refine V_cV1 (pc := 8) dX12_sound_8 kw1368 calX12_isRefused kw1370 ks54 (L11_0 H0) rfl (by decide) (Nat.le_of_ble_eq_true rfl) (ctX12_isRefused H0) ?_
  refine V_ifB_eq (pc := 11) (tgt := 16) dX12_sound_11 (by decide) (fun c5 => ?_) (fun c5 => ?_)
  · have h := ite_f c5 h
    refine V_iconst (pc := 16) (x := 0) dX12_sound_16 (by decide) ?_
    refine V_istore_n (pc := 17) (lv1 := [(1, _), (0, _)]) dX12_sound_17 rfl (by decide) rfl ?_
    refine V_iconst (pc := 18) (x := 0) dX12_sound_18 (by decide) ?_
    refine V_istore_n (pc := 19) (lv1 := [(2, _), (1, _), (0, _)]) dX12_sound_19 rfl (by decide) rfl ?_
    exact V_sub [2, 1, 0] rfl (wX12_sound_20 H0 FUEL (0 : Int32) (0 : Int32) ((mX12_isRefused r0 (mX12_unless (d.1 r0 14)) d).2) h)
  · have h := ite_p c5 h
    refine V_iconst (pc := 14) (x := (-1)) dX12_sound_14 (by decide) ?_
    cases h
    exact V_ret (pc := 15) dX12_sound_15 ⟨rfl, _, rfl⟩ ⟨rfl, rfl, rfl⟩
theorem wX12_span_32 {G : Gl} {σ : Sg} {g20 : Int32 → Int32 → Dt → Option (Int32 × Dt)} {r0 : Nat} {v2 : Int32} {rr : Int32 × Dt} (H0 : L11 σ r0) (hg20 : ∀ (v1 : Int32) (v2 : Int32) (d : Dt), g20 v1 v2 d = some rr → V G yX12_span cX12_span 4 (some .int) 3 0 0 (PH [.int rr.1] σ rr.2) 20 [(0, .ref (gB G + r0)), (1, .int v1), (2, .int v2)] [] σ d) : ∀ (n : Nat) (v1 : Int32) (v3 : Int32) (d : Dt), mX12_span_32 g20 r0 v2 n v1 v3 d = some rr → V G yX12_span cX12_span 4 (some .int) 3 0 0 (PH [.int rr.1] σ rr.2) 32 [(0, .ref (gB G + r0)), (1, .int v1), (2, .int v2), (3, .int v3)] [] σ d := by
  intro n
  induction n with
  | zero =>
    intro v1 v3 d
    intros
    rename_i h
    exact absurd h (by rw [mX12_span_32]; exact fun q => nomatch q)
  | succ n ih =>
    intro v1 v3 d h
    rw [mX12_span_32] at h
    refine V_iload_n (pc := 32) 3 dX12_span_32 rfl rfl ?_
    refine V_iload_n (pc := 33) 2 dX12_span_33 rfl rfl ?_
    refine V_icmp_ge (pc := 34) (tgt := 64) dX12_span_34 (by decide) (fun c8 => ?_) (fun c8 => ?_)
    · have h := ite_p c8 h
      refine V_iinc (pc := 64) (lv1 := [(2, _), (0, _), (1, _), (3, _)]) (z := _ + (1 : Int32)) 2 dX12_span_64 rfl rfl (by decide) rfl ?_
      refine V_goto (pc := 67) (tgt := 20) dX12_span_67 (by decide) ?_
      exact V_sub [1, 2, 0] rfl (hg20 v1 (v2 + (1 : Int32)) d h)
    · have h := ite_n c8 h
      refine V_aload_n (pc := 37) 0 dX12_span_37 rfl rfl ?_
      refine V_iload_n (pc := 38) 2 dX12_span_38 rfl rfl ?_
      refine V_iload_n (pc := 39) 3 dX12_span_39 rfl rfl ?_
      obtain ⟨x10, h9, h⟩ := bnd h
      refine V_cV2 (pc := 40) dX12_span_40 kw1542 calX12_farOf kw1544 ks84 (L11_0 H0) rfl (by decide) (Nat.le_of_ble_eq_true rfl) (ctX12_farOf H0 h9) ?_
      refine V_iload_n (pc := 43) 1 dX12_span_43 rfl rfl ?_
      refine V_icmp_le (pc := 44) (tgt := 56) dX12_span_44 (by decide) (fun c11 => ?_) (fun c11 => ?_)
      · have h := ite_p c11 h
        refine V_iload_n (pc := 56) 1 dX12_span_56 rfl rfl ?_
        refine V_istore_n (pc := 57) (lv1 := [(1, _), (0, _), (2, _), (3, _)]) dX12_span_57 rfl (by decide) rfl ?_
        refine V_iinc (pc := 58) (lv1 := [(3, _), (1, _), (0, _), (2, _)]) (z := _ + (1 : Int32)) 3 dX12_span_58 rfl rfl (by decide) rfl ?_
        refine V_goto (pc := 61) (tgt := 32) dX12_span_61 (by decide) ?_
        exact V_sub [2, 1, 3, 0] rfl (ih v1 (v3 + (1 : Int32)) d h)
      · have h := ite_n c11 h
        refine V_aload_n (pc := 47) 0 dX12_span_47 rfl rfl ?_
        refine V_iload_n (pc := 48) 2 dX12_span_48 rfl rfl ?_
        refine V_iload_n (pc := 49) 3 dX12_span_49 rfl rfl ?_
        obtain ⟨x13, h12, h⟩ := bnd h
        refine V_cV2 (pc := 50) dX12_span_50 kw1542 calX12_farOf kw1544 ks84 (L11_0 H0) rfl (by decide) (Nat.le_of_ble_eq_true rfl) (ctX12_farOf H0 h12) ?_
        refine V_goto (pc := 53) (tgt := 57) dX12_span_53 (by decide) ?_
        refine V_istore_n (pc := 57) (lv1 := [(1, _), (0, _), (2, _), (3, _)]) dX12_span_57 rfl (by decide) rfl ?_
        refine V_iinc (pc := 58) (lv1 := [(3, _), (1, _), (0, _), (2, _)]) (z := _ + (1 : Int32)) 3 dX12_span_58 rfl rfl (by decide) rfl ?_
        refine V_goto (pc := 61) (tgt := 32) dX12_span_61 (by decide) ?_
        exact V_sub [2, 1, 3, 0] rfl (ih x13 (v3 + (1 : Int32)) d h)
theorem wX12_span_20 {G : Gl} {σ : Sg} {r0 : Nat} {rr : Int32 × Dt} (H0 : L11 σ r0) : ∀ (n : Nat) (v1 : Int32) (v2 : Int32) (d : Dt), mX12_span_20 r0 n v1 v2 d = some rr → V G yX12_span cX12_span 4 (some .int) 3 0 0 (PH [.int rr.1] σ rr.2) 20 [(0, .ref (gB G + r0)), (1, .int v1), (2, .int v2)] [] σ d := by
  intro n
  induction n with
  | zero =>
    intro v1 v2 d
    intros
    rename_i h
    exact absurd h (by rw [mX12_span_20]; exact fun q => nomatch q)
  | succ n ih =>
    intro v1 v2 d h
    rw [mX12_span_20] at h
    refine V_iload_n (pc := 20) 2 dX12_span_20 rfl rfl ?_
    refine V_aload_n (pc := 21) 0 dX12_span_21 rfl rfl ?_
    refine V_getR (pc := 22) (c := 11) (k := 6) dX12_span_22 (by decide) (by decide) kw1249 rfl rfl (L11_0 H0) (L11_r6 H0) ?_
    refine V_iconst (pc := 25) (x := 2) dX12_span_25 (by decide) ?_
    obtain ⟨b6, h⟩ := ite_o h
    refine V_iald (pc := 26) dX12_span_26 (L11_s6 H0) (inB_vp b6) ?_
    refine V_icmp_ge (pc := 27) (tgt := 70) dX12_span_27 (by decide) (fun c7 => ?_) (fun c7 => ?_)
    · have h := ite_p c7 h
      refine V_iload_n (pc := 70) 1 dX12_span_70 rfl rfl ?_
      cases h
      exact V_ret (pc := 71) dX12_span_71 ⟨rfl, _, rfl⟩ ⟨rfl, rfl, rfl⟩
    · have h := ite_n c7 h
      refine V_iconst (pc := 30) (x := 0) dX12_span_30 (by decide) ?_
      refine V_istore_n (pc := 31) (lv1 := [(3, _), (0, _), (1, _), (2, _)]) dX12_span_31 rfl (by decide) rfl ?_
      exact V_sub [1, 2, 3, 0] rfl (wX12_span_32 H0 ih FUEL v1 (0 : Int32) d h)
theorem calX12_span : Cal yX12_span cX12_span 4 (some .int) 0 := ⟨kw1565, kw11, by decide +kernel⟩
theorem ctX12_span {G : Gl} {σ : Sg} {d : Dt} {r0 : Nat} {rr : Int32 × Dt} (H0 : L11 σ r0) (h : mX12_span r0 d = some rr) : CTv G yX12_span cX12_span 4 (some .int) 3 [.ref (gB G + r0)] σ d [.int rr.1] rr.2 := by
  refine CT_of pn_RX12 (Nat.le_of_ble_eq_true rfl) ?_
  rw [mX12_span] at h
  refine V_aload_n (pc := 0) 0 dX12_span_0 rfl rfl ?_
  refine V_aload_n (pc := 1) 0 dX12_span_1 rfl rfl ?_
  refine V_getI (pc := 2) (c := 11) (k := 14) dX12_span_2 (by decide) (by decide) kw1257 rfl rfl (L11_0 H0) ?_
  refine V_cS1 (pc := 5) dX12_span_5 kw1523 calX12_unless kw1524 (by decide) (Nat.le_of_ble_eq_true rfl) (ctX12_unless) ?_
  refine V_cV1 (pc := 8) dX12_span_8 kw1368 calX12_isRefused kw1370 ks54 (L11_0 H0) rfl (by decide) (Nat.le_of_ble_eq_true rfl) (ctX12_isRefused H0) ?_
  refine V_ifB_eq (pc := 11) (tgt := 16) dX12_span_11 (by decide) (fun c5 => ?_) (fun c5 => ?_)
  · have h := ite_f c5 h
    refine V_iconst (pc := 16) (x := 0) dX12_span_16 (by decide) ?_
    refine V_istore_n (pc := 17) (lv1 := [(1, _), (0, _)]) dX12_span_17 rfl (by decide) rfl ?_
    refine V_iconst (pc := 18) (x := 0) dX12_span_18 (by decide) ?_
    refine V_istore_n (pc := 19) (lv1 := [(2, _), (1, _), (0, _)]) dX12_span_19 rfl (by decide) rfl ?_
    exact V_sub [2, 1, 0] rfl (wX12_span_20 H0 FUEL (0 : Int32) (0 : Int32) ((mX12_isRefused r0 (mX12_unless (d.1 r0 14)) d).2) h)
  · have h := ite_p c5 h
    refine V_iconst (pc := 14) (x := (-1)) dX12_span_14 (by decide) ?_
    cases h
    exact V_ret (pc := 15) dX12_span_15 ⟨rfl, _, rfl⟩ ⟨rfl, rfl, rfl⟩
theorem calX12_splice : Cal yX12_splice cX12_splice 3 (some .int) 2 := ⟨kw1678, kw11, by decide +kernel⟩
theorem ctX12_splice {G : Gl} {σ : Sg} {d : Dt} {r0 : Nat} {v1 : Int32} {v2 : Int32} {rr : Int32 × Dt} (H0 : L11 σ r0) (h : mX12_splice r0 v1 v2 d = some rr) : CTv G yX12_splice cX12_splice 3 (some .int) 5 [.ref (gB G + r0), .int v1, .int v2] σ d [.int rr.1] rr.2 := by
  refine CT_of pn_RX12 (Nat.le_of_ble_eq_true rfl) ?_
  rw [mX12_splice] at h
  refine V_aload_n (pc := 0) 0 dX12_splice_0 rfl rfl ?_
  refine V_aload_n (pc := 1) 0 dX12_splice_1 rfl rfl ?_
  refine V_aload_n (pc := 2) 0 dX12_splice_2 rfl rfl ?_
  refine V_iload_n (pc := 3) 2 dX12_splice_3 rfl rfl ?_
  obtain ⟨x2, h1, h⟩ := bnd h
  refine V_cV1 (pc := 4) dX12_splice_4 kw1632 calX12_isNet kw1634 ks94 (L11_0 H0) rfl (by decide) (Nat.le_of_ble_eq_true rfl) (ctX12_isNet H0 h1) ?_
  refine V_iload_n (pc := 7) 1 dX12_splice_7 rfl rfl ?_
  obtain ⟨x4, h3, h⟩ := bnd h
  refine V_cV2 (pc := 8) dX12_splice_8 kw1652 calX12_variantWhy kw1654 ks97 (L11_0 H0) rfl (by decide) (Nat.le_of_ble_eq_true rfl) (ctX12_variantWhy H0 h3) ?_
  refine V_cV1 (pc := 11) dX12_splice_11 kw1368 calX12_isRefused kw1370 ks54 (L11_0 H0) rfl (by decide) (Nat.le_of_ble_eq_true rfl) (ctX12_isRefused H0) ?_
  refine V_ifB_eq (pc := 14) (tgt := 21) dX12_splice_14 (by decide) (fun c7 => ?_) (fun c7 => ?_)
  · have h := ite_f c7 h
    refine V_aload_n (pc := 21) 0 dX12_splice_21 rfl rfl ?_
    refine V_iload_n (pc := 22) 2 dX12_splice_22 rfl rfl ?_
    refine V_aload_n (pc := 23) 0 dX12_splice_23 rfl rfl ?_
    refine V_iload_n (pc := 24) 1 dX12_splice_24 rfl rfl ?_
    refine V_iload_n (pc := 25) 2 dX12_splice_25 rfl rfl ?_
    obtain ⟨x9, h8, h⟩ := bnd h
    refine V_cV2 (pc := 26) dX12_splice_26 kw1667 calX12_pinsOf kw1669 ks99 (L11_0 H0) rfl (by decide) (Nat.le_of_ble_eq_true rfl) (ctX12_pinsOf H0 h8) ?_
    obtain ⟨x11, h10, h⟩ := bnd h
    refine V_cV2 (pc := 29) dX12_splice_29 kw1679 calX12_spliceOf kw1681 ks101 (L11_0 H0) rfl (by decide) (Nat.le_of_ble_eq_true rfl) (ctX12_spliceOf H0 h10) ?_
    cases h
    exact V_ret (pc := 32) dX12_splice_32 ⟨rfl, _, rfl⟩ ⟨rfl, rfl, rfl⟩
  · have h := ite_p c7 h
    refine V_iconst (pc := 17) (x := (-1)) dX12_splice_17 (by decide) ?_
    refine V_goto (pc := 18) (tgt := 32) dX12_splice_18 (by decide) ?_
    cases h
    exact V_ret (pc := 32) dX12_splice_32 ⟨rfl, _, rfl⟩ ⟨rfl, rfl, rfl⟩
theorem wX12_splices_31 {G : Gl} {σ : Sg} {d : Dt} {r0 : Nat} {v1 : Int32} {v2 : Int32} {vs0 : Int32} {rs1 : Nat} {rr : Int32 × Dt} (H0 : L11 σ r0) (Hs1 : L11 σ rs1) (h : mX12_splices_31 r0 v1 v2 vs0 rs1 d = some rr) : V G yX12_splices cX12_splices 3 (some .int) 2 0 0 (PH [.int rr.1] σ rr.2) 31 [(0, .ref (gB G + r0)), (1, .int v1), (2, .int v2)] [.int vs0, .ref (gB G + rs1)] σ d := by
  rw [mX12_splices_31] at h
  refine V_cV1 (pc := 31) dX12_splices_31 kw1368 calX12_isRefused kw1370 ks54 (L11_0 Hs1) rfl (by decide) (Nat.le_of_ble_eq_true rfl) (ctX12_isRefused Hs1) ?_
  refine V_ifB_eq (pc := 34) (tgt := 39) dX12_splices_34 (by decide) (fun c10 => ?_) (fun c10 => ?_)
  · have h := ite_f c10 h
    refine V_aload_n (pc := 39) 0 dX12_splices_39 rfl rfl ?_
    refine V_bipush (pc := 40) (x := 97) dX12_splices_40 (by decide) ?_
    refine V_bipush (pc := 42) (x := 16) dX12_splices_42 (by decide) ?_
    refine V_iload_n (pc := 44) 1 dX12_splices_44 rfl rfl ?_
    refine V_imul (pc := 45) dX12_splices_45 ?_
    refine V_iadd (pc := 46) dX12_splices_46 ?_
    refine V_iconst (pc := 47) (x := 5) dX12_splices_47 (by decide) ?_
    refine V_iadd (pc := 48) dX12_splices_48 ?_
    refine V_iload_n (pc := 49) 2 dX12_splices_49 rfl rfl ?_
    refine V_iconst (pc := 50) (x := (-1)) dX12_splices_50 (by decide) ?_
    refine V_icmp_ne (pc := 51) (tgt := 59) dX12_splices_51 (by decide) (fun c11 => ?_) (fun c11 => ?_)
    · have h := ite_n c11 h
      refine V_iload_n (pc := 59) 2 dX12_splices_59 rfl rfl ?_
      obtain ⟨x13, h12, h⟩ := bnd h
      refine V_cV2 (pc := 60) dX12_splices_60 kw1859 calX12_changes kw1861 ks124 (L11_0 H0) rfl (by decide) (Nat.le_of_ble_eq_true rfl) (ctX12_changes H0 h12) ?_
      cases h
      exact V_ret (pc := 63) dX12_splices_63 ⟨rfl, _, rfl⟩ ⟨rfl, rfl, rfl⟩
    · have h := ite_p c11 h
      refine V_bipush (pc := 54) (x := (-2)) dX12_splices_54 (by decide) ?_
      refine V_goto (pc := 56) (tgt := 60) dX12_splices_56 (by decide) ?_
      obtain ⟨x15, h14, h⟩ := bnd h
      refine V_cV2 (pc := 60) dX12_splices_60 kw1859 calX12_changes kw1861 ks124 (L11_0 H0) rfl (by decide) (Nat.le_of_ble_eq_true rfl) (ctX12_changes H0 h14) ?_
      cases h
      exact V_ret (pc := 63) dX12_splices_63 ⟨rfl, _, rfl⟩ ⟨rfl, rfl, rfl⟩
  · have h := ite_p c10 h
    refine V_iconst (pc := 37) (x := (-1)) dX12_splices_37 (by decide) ?_
    cases h
    exact V_ret (pc := 38) dX12_splices_38 ⟨rfl, _, rfl⟩ ⟨rfl, rfl, rfl⟩
theorem calX12_splices : Cal yX12_splices cX12_splices 3 (some .int) 2 := ⟨kw1858, kw11, by decide +kernel⟩
theorem ctX12_splices {G : Gl} {σ : Sg} {d : Dt} {r0 : Nat} {v1 : Int32} {v2 : Int32} {rr : Int32 × Dt} (H0 : L11 σ r0) (h : mX12_splices r0 v1 v2 d = some rr) : CTv G yX12_splices cX12_splices 3 (some .int) 2 [.ref (gB G + r0), .int v1, .int v2] σ d [.int rr.1] rr.2 := by
  refine CT_of pn_RX12 (Nat.le_of_ble_eq_true rfl) ?_
  rw [mX12_splices] at h
  refine V_aload_n (pc := 0) 0 dX12_splices_0 rfl rfl ?_
  refine V_aload_n (pc := 1) 0 dX12_splices_1 rfl rfl ?_
  refine V_iload_n (pc := 2) 1 dX12_splices_2 rfl rfl ?_
  obtain ⟨x2, h1, h⟩ := bnd h
  refine V_cV1 (pc := 3) dX12_splices_3 kw1632 calX12_isNet kw1634 ks94 (L11_0 H0) rfl (by decide) (Nat.le_of_ble_eq_true rfl) (ctX12_isNet H0 h1) ?_
  refine V_ifB_ne (pc := 6) (tgt := 13) dX12_splices_6 (by decide) (fun c3 => ?_) (fun c3 => ?_)
  · have h := ite_p c3 h
    refine V_iload_n (pc := 13) 2 dX12_splices_13 rfl rfl ?_
    refine V_iconst (pc := 14) (x := (-1)) dX12_splices_14 (by decide) ?_
    refine V_icmp_eq (pc := 15) (tgt := 26) dX12_splices_15 (by decide) (fun c4 => ?_) (fun c4 => ?_)
    · have h := ite_p c4 h
      refine V_iconst (pc := 26) (x := 0) dX12_splices_26 (by decide) ?_
      refine V_goto (pc := 27) (tgt := 31) dX12_splices_27 (by decide) ?_
      exact V_sub [0, 1, 2] rfl (wX12_splices_31 H0 H0 h)
    · have h := ite_n c4 h
      refine V_aload_n (pc := 18) 0 dX12_splices_18 rfl rfl ?_
      refine V_iload_n (pc := 19) 2 dX12_splices_19 rfl rfl ?_
      obtain ⟨x6, h5, h⟩ := bnd h
      refine V_cV1 (pc := 20) dX12_splices_20 kw1534 calX12_isNode kw1536 ks83 (L11_0 H0) rfl (by decide) (Nat.le_of_ble_eq_true rfl) (ctX12_isNode H0 h5) ?_
      refine V_ifB_eq (pc := 23) (tgt := 30) dX12_splices_23 (by decide) (fun c7 => ?_) (fun c7 => ?_)
      · have h := ite_f c7 h
        refine V_iconst (pc := 30) (x := 2) dX12_splices_30 (by decide) ?_
        exact V_sub [0, 1, 2] rfl (wX12_splices_31 H0 H0 h)
      · have h := ite_p c7 h
        refine V_iconst (pc := 26) (x := 0) dX12_splices_26 (by decide) ?_
        refine V_goto (pc := 27) (tgt := 31) dX12_splices_27 (by decide) ?_
        exact V_sub [0, 1, 2] rfl (wX12_splices_31 H0 H0 h)
  · have h := ite_f c3 h
    refine V_iconst (pc := 9) (x := 1) dX12_splices_9 (by decide) ?_
    refine V_goto (pc := 10) (tgt := 31) dX12_splices_10 (by decide) ?_
    exact V_sub [0, 1, 2] rfl (wX12_splices_31 H0 H0 h)
theorem wX12_stretch_29 {G : Gl} {σ : Sg} {d : Dt} {r0 : Nat} {v1 : Int32} {v2 : Int32} {vs0 : Int32} {rs1 : Nat} {rr : Int32 × Dt} (H0 : L11 σ r0) (Hs1 : L11 σ rs1) (h : mX12_stretch_29 r0 v1 v2 vs0 rs1 d = some rr) : V G yX12_stretch cX12_stretch 3 (some .int) 3 0 0 (PH [.int rr.1] σ rr.2) 29 [(0, .ref (gB G + r0)), (1, .int v1), (2, .int v2)] [.int vs0, .ref (gB G + rs1)] σ d := by
  rw [mX12_stretch_29] at h
  refine V_cV1 (pc := 29) dX12_stretch_29 kw1368 calX12_isRefused kw1370 ks54 (L11_0 Hs1) rfl (by decide) (Nat.le_of_ble_eq_true rfl) (ctX12_isRefused Hs1) ?_
  refine V_ifB_eq (pc := 32) (tgt := 37) dX12_stretch_32 (by decide) (fun c9 => ?_) (fun c9 => ?_)
  · have h := ite_f c9 h
    refine V_aload_n (pc := 37) 0 dX12_stretch_37 rfl rfl ?_
    refine V_bipush (pc := 38) (x := 21) dX12_stretch_38 (by decide) ?_
    refine V_iload_n (pc := 40) 1 dX12_stretch_40 rfl rfl ?_
    refine V_iadd (pc := 41) dX12_stretch_41 ?_
    refine V_iload_n (pc := 42) 2 dX12_stretch_42 rfl rfl ?_
    obtain ⟨x11, h10, h⟩ := bnd h
    refine V_cV2 (pc := 43) dX12_stretch_43 kw1859 calX12_changes kw1861 ks124 (L11_0 H0) rfl (by decide) (Nat.le_of_ble_eq_true rfl) (ctX12_changes H0 h10) ?_
    cases h
    exact V_ret (pc := 46) dX12_stretch_46 ⟨rfl, _, rfl⟩ ⟨rfl, rfl, rfl⟩
  · have h := ite_p c9 h
    refine V_iconst (pc := 35) (x := (-1)) dX12_stretch_35 (by decide) ?_
    cases h
    exact V_ret (pc := 36) dX12_stretch_36 ⟨rfl, _, rfl⟩ ⟨rfl, rfl, rfl⟩
theorem calX12_stretch : Cal yX12_stretch cX12_stretch 3 (some .int) 2 := ⟨kw1866, kw11, by decide +kernel⟩
theorem ctX12_stretch {G : Gl} {σ : Sg} {d : Dt} {r0 : Nat} {v1 : Int32} {v2 : Int32} {rr : Int32 × Dt} (H0 : L11 σ r0) (h : mX12_stretch r0 v1 v2 d = some rr) : CTv G yX12_stretch cX12_stretch 3 (some .int) 3 [.ref (gB G + r0), .int v1, .int v2] σ d [.int rr.1] rr.2 := by
  refine CT_of pn_RX12 (Nat.le_of_ble_eq_true rfl) ?_
  rw [mX12_stretch] at h
  refine V_aload_n (pc := 0) 0 dX12_stretch_0 rfl rfl ?_
  refine V_aload_n (pc := 1) 0 dX12_stretch_1 rfl rfl ?_
  refine V_iload_n (pc := 2) 1 dX12_stretch_2 rfl rfl ?_
  obtain ⟨x2, h1, h⟩ := bnd h
  refine V_cV1 (pc := 3) dX12_stretch_3 kw1570 calX12_isBundle kw1572 ks88 (L11_0 H0) rfl (by decide) (Nat.le_of_ble_eq_true rfl) (ctX12_isBundle H0 h1) ?_
  refine V_ifB_ne (pc := 6) (tgt := 13) dX12_stretch_6 (by decide) (fun c3 => ?_) (fun c3 => ?_)
  · have h := ite_p c3 h
    refine V_iload_n (pc := 13) 2 dX12_stretch_13 rfl rfl ?_
    refine V_iconst (pc := 14) (x := 1) dX12_stretch_14 (by decide) ?_
    refine V_sipush (pc := 15) (x := 999) dX12_stretch_15 (by decide) ?_
    refine V_cS3 (pc := 18) dX12_stretch_18 kw1365 calX12_in kw1366 (by decide) (Nat.le_of_ble_eq_true rfl) (ctX12_in) ?_
    refine V_ifB_eq (pc := 21) (tgt := 28) dX12_stretch_21 (by decide) (fun c6 => ?_) (fun c6 => ?_)
    · have h := ite_f c6 h
      refine V_iconst (pc := 28) (x := 2) dX12_stretch_28 (by decide) ?_
      exact V_sub [0, 1, 2] rfl (wX12_stretch_29 H0 H0 h)
    · have h := ite_p c6 h
      refine V_iconst (pc := 24) (x := 0) dX12_stretch_24 (by decide) ?_
      refine V_goto (pc := 25) (tgt := 29) dX12_stretch_25 (by decide) ?_
      exact V_sub [0, 1, 2] rfl (wX12_stretch_29 H0 H0 h)
  · have h := ite_f c3 h
    refine V_iconst (pc := 9) (x := 1) dX12_stretch_9 (by decide) ?_
    refine V_goto (pc := 10) (tgt := 29) dX12_stretch_10 (by decide) ?_
    exact V_sub [0, 1, 2] rfl (wX12_stretch_29 H0 H0 h)
theorem wX12_thickest_20 {G : Gl} {σ : Sg} {r0 : Nat} {v1 : Int32} {rr : Int32 × Dt} (H0 : L11 σ r0) : ∀ (n : Nat) (v2 : Int32) (v3 : Int32) (d : Dt), mX12_thickest_20 r0 v1 n v2 v3 d = some rr → V G yX12_thickest cX12_thickest 4 (some .int) 7 0 0 (PH [.int rr.1] σ rr.2) 20 [(0, .ref (gB G + r0)), (1, .int v1), (2, .int v2), (3, .int v3)] [] σ d := by
  intro n
  induction n with
  | zero =>
    intro v2 v3 d
    intros
    rename_i h
    exact absurd h (by rw [mX12_thickest_20]; exact fun q => nomatch q)
  | succ n ih =>
    intro v2 v3 d h
    rw [mX12_thickest_20] at h
    refine V_iload_n (pc := 20) 3 dX12_thickest_20 rfl rfl ?_
    refine V_aload_n (pc := 21) 0 dX12_thickest_21 rfl rfl ?_
    refine V_getR (pc := 22) (c := 11) (k := 6) dX12_thickest_22 (by decide) (by decide) kw1249 rfl rfl (L11_0 H0) (L11_r6 H0) ?_
    refine V_iconst (pc := 25) (x := 2) dX12_thickest_25 (by decide) ?_
    obtain ⟨b6, h⟩ := ite_o h
    refine V_iald (pc := 26) dX12_thickest_26 (L11_s6 H0) (inB_vp b6) ?_
    refine V_icmp_ge (pc := 27) (tgt := 63) dX12_thickest_27 (by decide) (fun c7 => ?_) (fun c7 => ?_)
    · have h := ite_p c7 h
      refine V_iload_n (pc := 63) 2 dX12_thickest_63 rfl rfl ?_
      cases h
      exact V_ret (pc := 64) dX12_thickest_64 ⟨rfl, _, rfl⟩ ⟨rfl, rfl, rfl⟩
    · have h := ite_n c7 h
      refine V_iload_n (pc := 30) 2 dX12_thickest_30 rfl rfl ?_
      refine V_bipush (pc := 31) (x := (-2)) dX12_thickest_31 (by decide) ?_
      refine V_icmp_eq (pc := 33) (tgt := 51) dX12_thickest_33 (by decide) (fun c8 => ?_) (fun c8 => ?_)
      · have h := ite_p c8 h
        refine V_iload_n (pc := 51) 3 dX12_thickest_51 rfl rfl ?_
        refine V_goto (pc := 52) (tgt := 56) dX12_thickest_52 (by decide) ?_
        refine V_istore_n (pc := 56) (lv1 := [(2, _), (0, _), (1, _), (3, _)]) dX12_thickest_56 rfl (by decide) rfl ?_
        refine V_iinc (pc := 57) (lv1 := [(3, _), (2, _), (0, _), (1, _)]) (z := _ + (1 : Int32)) 3 dX12_thickest_57 rfl rfl (by decide) rfl ?_
        refine V_goto (pc := 60) (tgt := 20) dX12_thickest_60 (by decide) ?_
        exact V_sub [2, 3, 1, 0] rfl (ih v3 (v3 + (1 : Int32)) d h)
      · have h := ite_n c8 h
        refine V_aload_n (pc := 36) 0 dX12_thickest_36 rfl rfl ?_
        refine V_iload_n (pc := 37) 1 dX12_thickest_37 rfl rfl ?_
        refine V_iload_n (pc := 38) 3 dX12_thickest_38 rfl rfl ?_
        obtain ⟨x10, h9, h⟩ := bnd h
        refine V_cV2 (pc := 39) dX12_thickest_39 kw1727 calX12_bodyOf kw1729 ks105 (L11_0 H0) rfl (by decide) (Nat.le_of_ble_eq_true rfl) (ctX12_bodyOf H0 h9) ?_
        refine V_aload_n (pc := 42) 0 dX12_thickest_42 rfl rfl ?_
        refine V_iload_n (pc := 43) 1 dX12_thickest_43 rfl rfl ?_
        refine V_iload_n (pc := 44) 2 dX12_thickest_44 rfl rfl ?_
        obtain ⟨x12, h11, h⟩ := bnd h
        refine V_cV2 (pc := 45) dX12_thickest_45 kw1727 calX12_bodyOf kw1729 ks105 (L11_0 H0) rfl (by decide) (Nat.le_of_ble_eq_true rfl) (ctX12_bodyOf H0 h11) ?_
        refine V_icmp_le (pc := 48) (tgt := 55) dX12_thickest_48 (by decide) (fun c13 => ?_) (fun c13 => ?_)
        · have h := ite_p c13 h
          refine V_iload_n (pc := 55) 2 dX12_thickest_55 rfl rfl ?_
          refine V_istore_n (pc := 56) (lv1 := [(2, _), (0, _), (1, _), (3, _)]) dX12_thickest_56 rfl (by decide) rfl ?_
          refine V_iinc (pc := 57) (lv1 := [(3, _), (2, _), (0, _), (1, _)]) (z := _ + (1 : Int32)) 3 dX12_thickest_57 rfl rfl (by decide) rfl ?_
          refine V_goto (pc := 60) (tgt := 20) dX12_thickest_60 (by decide) ?_
          exact V_sub [2, 3, 1, 0] rfl (ih v2 (v3 + (1 : Int32)) d h)
        · have h := ite_n c13 h
          refine V_iload_n (pc := 51) 3 dX12_thickest_51 rfl rfl ?_
          refine V_goto (pc := 52) (tgt := 56) dX12_thickest_52 (by decide) ?_
          refine V_istore_n (pc := 56) (lv1 := [(2, _), (0, _), (1, _), (3, _)]) dX12_thickest_56 rfl (by decide) rfl ?_
          refine V_iinc (pc := 57) (lv1 := [(3, _), (2, _), (0, _), (1, _)]) (z := _ + (1 : Int32)) 3 dX12_thickest_57 rfl rfl (by decide) rfl ?_
          refine V_goto (pc := 60) (tgt := 20) dX12_thickest_60 (by decide) ?_
          exact V_sub [2, 3, 1, 0] rfl (ih v3 (v3 + (1 : Int32)) d h)
theorem calX12_thickest : Cal yX12_thickest cX12_thickest 4 (some .int) 1 := ⟨kw1738, kw11, by decide +kernel⟩
theorem ctX12_thickest {G : Gl} {σ : Sg} {d : Dt} {r0 : Nat} {v1 : Int32} {rr : Int32 × Dt} (H0 : L11 σ r0) (h : mX12_thickest r0 v1 d = some rr) : CTv G yX12_thickest cX12_thickest 4 (some .int) 7 [.ref (gB G + r0), .int v1] σ d [.int rr.1] rr.2 := by
  refine CT_of pn_RX12 (Nat.le_of_ble_eq_true rfl) ?_
  rw [mX12_thickest] at h
  refine V_aload_n (pc := 0) 0 dX12_thickest_0 rfl rfl ?_
  refine V_aload_n (pc := 1) 0 dX12_thickest_1 rfl rfl ?_
  refine V_iconst (pc := 2) (x := 1) dX12_thickest_2 (by decide) ?_
  refine V_iload_n (pc := 3) 1 dX12_thickest_3 rfl rfl ?_
  obtain ⟨x2, h1, h⟩ := bnd h
  refine V_cV2 (pc := 4) dX12_thickest_4 kw1652 calX12_variantWhy kw1654 ks97 (L11_0 H0) rfl (by decide) (Nat.le_of_ble_eq_true rfl) (ctX12_variantWhy H0 h1) ?_
  refine V_cV1 (pc := 7) dX12_thickest_7 kw1368 calX12_isRefused kw1370 ks54 (L11_0 H0) rfl (by decide) (Nat.le_of_ble_eq_true rfl) (ctX12_isRefused H0) ?_
  refine V_ifB_eq (pc := 10) (tgt := 15) dX12_thickest_10 (by decide) (fun c5 => ?_) (fun c5 => ?_)
  · have h := ite_f c5 h
    refine V_bipush (pc := 15) (x := (-2)) dX12_thickest_15 (by decide) ?_
    refine V_istore_n (pc := 17) (lv1 := [(2, _), (0, _), (1, _)]) dX12_thickest_17 rfl (by decide) rfl ?_
    refine V_iconst (pc := 18) (x := 1) dX12_thickest_18 (by decide) ?_
    refine V_istore_n (pc := 19) (lv1 := [(3, _), (2, _), (0, _), (1, _)]) dX12_thickest_19 rfl (by decide) rfl ?_
    exact V_sub [2, 3, 1, 0] rfl (wX12_thickest_20 H0 FUEL (-2 : Int32) (1 : Int32) ((mX12_isRefused r0 x2 d).2) h)
  · have h := ite_p c5 h
    refine V_iconst (pc := 13) (x := (-1)) dX12_thickest_13 (by decide) ?_
    cases h
    exact V_ret (pc := 14) dX12_thickest_14 ⟨rfl, _, rfl⟩ ⟨rfl, rfl, rfl⟩
theorem wX12_through_24 {G : Gl} {σ : Sg} {r0 : Nat} {v1 : Int32} {v2 : Int32} {rr : Int32 × Dt} (H0 : L11 σ r0) : ∀ (n : Nat) (v3 : Int32) (v4 : Int32) (d : Dt), mX12_through_24 r0 v1 v2 n v3 v4 d = some rr → V G yX12_through cX12_through 5 (some .int) 6 0 0 (PH [.int rr.1] σ rr.2) 24 [(0, .ref (gB G + r0)), (1, .int v1), (2, .int v2), (3, .int v3), (4, .int v4)] [] σ d := by
  intro n
  induction n with
  | zero =>
    intro v3 v4 d
    intros
    rename_i h
    exact absurd h (by rw [mX12_through_24]; exact fun q => nomatch q)
  | succ n ih =>
    intro v3 v4 d h
    rw [mX12_through_24] at h
    refine V_iload (pc := 24) 4 dX12_through_24 rfl ?_
    refine V_aload_n (pc := 26) 0 dX12_through_26 rfl rfl ?_
    refine V_getR (pc := 27) (c := 11) (k := 6) dX12_through_27 (by decide) (by decide) kw1249 rfl rfl (L11_0 H0) (L11_r6 H0) ?_
    refine V_iconst (pc := 30) (x := 5) dX12_through_30 (by decide) ?_
    obtain ⟨b8, h⟩ := ite_o h
    refine V_iald (pc := 31) dX12_through_31 (L11_s6 H0) (inB_vp b8) ?_
    refine V_icmp_ge (pc := 32) (tgt := 69) dX12_through_32 (by decide) (fun c9 => ?_) (fun c9 => ?_)
    · have h := ite_p c9 h
      refine V_iload_n (pc := 69) 3 dX12_through_69 rfl rfl ?_
      cases h
      exact V_ret (pc := 70) dX12_through_70 ⟨rfl, _, rfl⟩ ⟨rfl, rfl, rfl⟩
    · have h := ite_n c9 h
      refine V_iload_n (pc := 35) 3 dX12_through_35 rfl rfl ?_
      refine V_aload_n (pc := 36) 0 dX12_through_36 rfl rfl ?_
      refine V_iload (pc := 37) 4 dX12_through_37 rfl ?_
      refine V_aload_n (pc := 39) 0 dX12_through_39 rfl rfl ?_
      refine V_iload_n (pc := 40) 1 dX12_through_40 rfl rfl ?_
      refine V_iload (pc := 41) 4 dX12_through_41 rfl ?_
      obtain ⟨x11, h10, h⟩ := bnd h
      refine V_cV2 (pc := 43) dX12_through_43 kw1667 calX12_pinsOf kw1669 ks99 (L11_0 H0) rfl (by decide) (Nat.le_of_ble_eq_true rfl) (ctX12_pinsOf H0 h10) ?_
      refine V_iload_n (pc := 46) 2 dX12_through_46 rfl rfl ?_
      obtain ⟨x13, h12, h⟩ := bnd h
      refine V_cV3 (pc := 47) dX12_through_47 kw1731 calX12_countOf kw1733 ks106 (L11_0 H0) rfl (by decide) (Nat.le_of_ble_eq_true rfl) (ctX12_countOf H0 h12) ?_
      refine V_if_le (pc := 50) (tgt := 60) dX12_through_50 (by decide) (fun c14 => ?_) (fun c14 => ?_)
      · have h := ite_p c14 h
        refine V_iconst (pc := 60) (x := 0) dX12_through_60 (by decide) ?_
        refine V_ior (pc := 61) dX12_through_61 ?_
        refine V_istore_n (pc := 62) (lv1 := [(3, _), (0, _), (1, _), (2, _), (4, _)]) dX12_through_62 rfl (by decide) rfl ?_
        refine V_iinc (pc := 63) (lv1 := [(4, _), (3, _), (0, _), (1, _), (2, _)]) (z := _ + (1 : Int32)) 4 dX12_through_63 rfl rfl (by decide) rfl ?_
        refine V_goto (pc := 66) (tgt := 24) dX12_through_66 (by decide) ?_
        exact V_sub [2, 3, 4, 1, 0] rfl (ih (v3 ||| (0 : Int32)) (v4 + (1 : Int32)) d h)
      · have h := ite_n c14 h
        refine V_iconst (pc := 53) (x := 1) dX12_through_53 (by decide) ?_
        refine V_iload (pc := 54) 4 dX12_through_54 rfl ?_
        refine V_ishl (pc := 56) dX12_through_56 ?_
        refine V_goto (pc := 57) (tgt := 61) dX12_through_57 (by decide) ?_
        refine V_ior (pc := 61) dX12_through_61 ?_
        refine V_istore_n (pc := 62) (lv1 := [(3, _), (0, _), (1, _), (2, _), (4, _)]) dX12_through_62 rfl (by decide) rfl ?_
        refine V_iinc (pc := 63) (lv1 := [(4, _), (3, _), (0, _), (1, _), (2, _)]) (z := _ + (1 : Int32)) 4 dX12_through_63 rfl rfl (by decide) rfl ?_
        refine V_goto (pc := 66) (tgt := 24) dX12_through_66 (by decide) ?_
        exact V_sub [2, 3, 4, 1, 0] rfl (ih (v3 ||| ((1 : Int32) <<< (v4 &&& 31))) (v4 + (1 : Int32)) d h)
theorem calX12_through : Cal yX12_through cX12_through 5 (some .int) 2 := ⟨kw1742, kw11, by decide +kernel⟩
theorem ctX12_through {G : Gl} {σ : Sg} {d : Dt} {r0 : Nat} {v1 : Int32} {v2 : Int32} {rr : Int32 × Dt} (H0 : L11 σ r0) (h : mX12_through r0 v1 v2 d = some rr) : CTv G yX12_through cX12_through 5 (some .int) 6 [.ref (gB G + r0), .int v1, .int v2] σ d [.int rr.1] rr.2 := by
  refine CT_of pn_RX12 (Nat.le_of_ble_eq_true rfl) ?_
  rw [mX12_through] at h
  refine V_aload_n (pc := 0) 0 dX12_through_0 rfl rfl ?_
  refine V_aload_n (pc := 1) 0 dX12_through_1 rfl rfl ?_
  refine V_aload_n (pc := 2) 0 dX12_through_2 rfl rfl ?_
  refine V_iload_n (pc := 3) 2 dX12_through_3 rfl rfl ?_
  obtain ⟨x2, h1, h⟩ := bnd h
  refine V_cV1 (pc := 4) dX12_through_4 kw1570 calX12_isBundle kw1572 ks88 (L11_0 H0) rfl (by decide) (Nat.le_of_ble_eq_true rfl) (ctX12_isBundle H0 h1) ?_
  refine V_iload_n (pc := 7) 1 dX12_through_7 rfl rfl ?_
  obtain ⟨x4, h3, h⟩ := bnd h
  refine V_cV2 (pc := 8) dX12_through_8 kw1652 calX12_variantWhy kw1654 ks97 (L11_0 H0) rfl (by decide) (Nat.le_of_ble_eq_true rfl) (ctX12_variantWhy H0 h3) ?_
  refine V_cV1 (pc := 11) dX12_through_11 kw1368 calX12_isRefused kw1370 ks54 (L11_0 H0) rfl (by decide) (Nat.le_of_ble_eq_true rfl) (ctX12_isRefused H0) ?_
  refine V_ifB_eq (pc := 14) (tgt := 19) dX12_through_14 (by decide) (fun c7 => ?_) (fun c7 => ?_)
  · have h := ite_f c7 h
    refine V_iconst (pc := 19) (x := 0) dX12_through_19 (by decide) ?_
    refine V_istore_n (pc := 20) (lv1 := [(3, _), (0, _), (1, _), (2, _)]) dX12_through_20 rfl (by decide) rfl ?_
    refine V_iconst (pc := 21) (x := 0) dX12_through_21 (by decide) ?_
    refine V_istore (pc := 22) (lv1 := [(4, _), (3, _), (0, _), (1, _), (2, _)]) dX12_through_22 (by decide) rfl ?_
    exact V_sub [2, 3, 4, 1, 0] rfl (wX12_through_24 H0 FUEL (0 : Int32) (0 : Int32) ((mX12_isRefused r0 x4 d).2) h)
  · have h := ite_p c7 h
    refine V_iconst (pc := 17) (x := (-1)) dX12_through_17 (by decide) ?_
    cases h
    exact V_ret (pc := 18) dX12_through_18 ⟨rfl, _, rfl⟩ ⟨rfl, rfl, rfl⟩
theorem calX12_thrown : Cal yX12_thrown cX12_thrown 1 (some .int) 0 := ⟨kw1352, kw11, by decide +kernel⟩
theorem ctX12_thrown {G : Gl} {σ : Sg} {d : Dt} {r0 : Nat} (H0 : L11 σ r0) : CTv G yX12_thrown cX12_thrown 1 (some .int) 0 [.ref (gB G + r0)] σ d [.int (mX12_thrown r0 d)] d := by
  refine CT_of pn_RX12 (Nat.le_of_ble_eq_true rfl) ?_
  generalize h : mX12_thrown r0 d = rr
  rw [mX12_thrown] at h
  refine V_aload_n (pc := 0) 0 dX12_thrown_0 rfl rfl ?_
  refine V_getI (pc := 1) (c := 11) (k := 0) dX12_thrown_1 (by decide) (by decide) kw1243 rfl rfl (L11_0 H0) ?_
  subst h
  exact V_ret (pc := 4) dX12_thrown_4 ⟨rfl, _, rfl⟩ ⟨rfl, rfl, rfl⟩
theorem wX12_total_53 {G : Gl} {σ : Sg} {d : Dt} {g26 : Int32 → Int32 → Dt → Option (Int32 × Dt)} {r0 : Nat} {v1 : Int32} {v2 : Int32} {v4 : Int32} {vs0 : Int32} {rr : Int32 × Dt} (H0 : L11 σ r0) (hg26 : ∀ (v3 : Int32) (v4 : Int32) (d : Dt), g26 v3 v4 d = some rr → V G yX12_total cX12_total 5 (some .int) 6 0 0 (PH [.int rr.1] σ rr.2) 26 [(0, .ref (gB G + r0)), (1, .int v1), (2, .int v2), (3, .int v3), (4, .int v4)] [] σ d) (h : mX12_total_53 g26 r0 v1 v2 v4 vs0 d = some rr) : V G yX12_total cX12_total 5 (some .int) 6 0 0 (PH [.int rr.1] σ rr.2) 53 [(0, .ref (gB G + r0)), (1, .int v1), (2, .int v2), (4, .int v4)] [.int vs0] σ d := by
  rw [mX12_total_53] at h
  refine V_aload_n (pc := 53) 0 dX12_total_53 rfl rfl ?_
  refine V_iload (pc := 54) 3 dX12_total_54 rfl ?_
  refine V_aload_n (pc := 56) 0 dX12_total_56 rfl rfl ?_
  refine V_iload_n (pc := 57) 1 dX12_total_57 rfl rfl ?_
  refine V_iload (pc := 58) 3 dX12_total_58 rfl ?_
  obtain ⟨x15, h14, h⟩ := bnd h
  refine V_cV2 (pc := 60) dX12_total_60 kw1667 calX12_pinsOf kw1669 ks99 (L11_0 H0) rfl (by decide) (Nat.le_of_ble_eq_true rfl) (ctX12_pinsOf H0 h14) ?_
  obtain ⟨x17, h16, h⟩ := bnd h
  refine V_cV2 (pc := 63) dX12_total_63 kw1708 calX12_lengthOf kw1710 ks104 (L11_0 H0) rfl (by decide) (Nat.le_of_ble_eq_true rfl) (ctX12_lengthOf H0 h16) ?_
  refine V_goto (pc := 66) (tgt := 70) dX12_total_66 (by decide) ?_
  refine V_iadd (pc := 70) dX12_total_70 ?_
  refine V_istore_n (pc := 71) (lv1 := [(3, _), (0, _), (1, _), (2, _), (4, _)]) dX12_total_71 rfl (by decide) rfl ?_
  refine V_iinc (pc := 72) (lv1 := [(4, _), (3, _), (0, _), (1, _), (2, _)]) (z := _ + (1 : Int32)) 4 dX12_total_72 rfl rfl (by decide) rfl ?_
  refine V_goto (pc := 75) (tgt := 26) dX12_total_75 (by decide) ?_
  exact V_sub [2, 3, 4, 1, 0] rfl (hg26 (vs0 + x17) (v4 + (1 : Int32)) d h)
theorem wX12_total_26 {G : Gl} {σ : Sg} {r0 : Nat} {v1 : Int32} {v2 : Int32} {rr : Int32 × Dt} (H0 : L11 σ r0) : ∀ (n : Nat) (v3 : Int32) (v4 : Int32) (d : Dt), mX12_total_26 r0 v1 v2 n v3 v4 d = some rr → V G yX12_total cX12_total 5 (some .int) 6 0 0 (PH [.int rr.1] σ rr.2) 26 [(0, .ref (gB G + r0)), (1, .int v1), (2, .int v2), (3, .int v3), (4, .int v4)] [] σ d := by
  intro n
  induction n with
  | zero =>
    intro v3 v4 d
    intros
    rename_i h
    exact absurd h (by rw [mX12_total_26]; exact fun q => nomatch q)
  | succ n ih =>
    intro v3 v4 d h
    rw [mX12_total_26] at h
    refine V_iload (pc := 26) 4 dX12_total_26 rfl ?_
    refine V_aload_n (pc := 28) 0 dX12_total_28 rfl rfl ?_
    refine V_getR (pc := 29) (c := 11) (k := 6) dX12_total_29 (by decide) (by decide) kw1249 rfl rfl (L11_0 H0) (L11_r6 H0) ?_
    refine V_iconst (pc := 32) (x := 5) dX12_total_32 (by decide) ?_
    obtain ⟨b8, h⟩ := ite_o h
    refine V_iald (pc := 33) dX12_total_33 (L11_s6 H0) (inB_vp b8) ?_
    refine V_icmp_ge (pc := 34) (tgt := 78) dX12_total_34 (by decide) (fun c9 => ?_) (fun c9 => ?_)
    · have h := ite_p c9 h
      refine V_iload_n (pc := 78) 3 dX12_total_78 rfl rfl ?_
      cases h
      exact V_ret (pc := 79) dX12_total_79 ⟨rfl, _, rfl⟩ ⟨rfl, rfl, rfl⟩
    · have h := ite_n c9 h
      refine V_iload_n (pc := 37) 3 dX12_total_37 rfl rfl ?_
      refine V_iload_n (pc := 38) 2 dX12_total_38 rfl rfl ?_
      refine V_if_eq (pc := 39) (tgt := 53) dX12_total_39 (by decide) (fun c10 => ?_) (fun c10 => ?_)
      · have h := ite_p c10 h
        exact V_sub [0, 1, 2, 4] rfl (wX12_total_53 H0 ih h)
      · have h := ite_n c10 h
        refine V_aload_n (pc := 42) 0 dX12_total_42 rfl rfl ?_
        refine V_iload (pc := 43) 4 dX12_total_43 rfl ?_
        refine V_iconst (pc := 45) (x := 1) dX12_total_45 (by decide) ?_
        obtain ⟨x12, h11, h⟩ := bnd h
        refine V_cV2 (pc := 46) dX12_total_46 kw1636 calX12_netOf kw1638 ks95 (L11_0 H0) rfl (by decide) (Nat.le_of_ble_eq_true rfl) (ctX12_netOf H0 h11) ?_
        refine V_iload_n (pc := 49) 2 dX12_total_49 rfl rfl ?_
        refine V_icmp_ne (pc := 50) (tgt := 69) dX12_total_50 (by decide) (fun c13 => ?_) (fun c13 => ?_)
        · have h := ite_n c13 h
          refine V_iconst (pc := 69) (x := 0) dX12_total_69 (by decide) ?_
          refine V_iadd (pc := 70) dX12_total_70 ?_
          refine V_istore_n (pc := 71) (lv1 := [(3, _), (0, _), (1, _), (2, _), (4, _)]) dX12_total_71 rfl (by decide) rfl ?_
          refine V_iinc (pc := 72) (lv1 := [(4, _), (3, _), (0, _), (1, _), (2, _)]) (z := _ + (1 : Int32)) 4 dX12_total_72 rfl rfl (by decide) rfl ?_
          refine V_goto (pc := 75) (tgt := 26) dX12_total_75 (by decide) ?_
          exact V_sub [2, 3, 4, 1, 0] rfl (ih (v3 + (0 : Int32)) (v4 + (1 : Int32)) d h)
        · have h := ite_p c13 h
          exact V_sub [0, 1, 2, 4] rfl (wX12_total_53 H0 ih h)
theorem calX12_total : Cal yX12_total cX12_total 5 (some .int) 2 := ⟨kw1722, kw11, by decide +kernel⟩
theorem ctX12_total {G : Gl} {σ : Sg} {d : Dt} {r0 : Nat} {v1 : Int32} {v2 : Int32} {rr : Int32 × Dt} (H0 : L11 σ r0) (h : mX12_total r0 v1 v2 d = some rr) : CTv G yX12_total cX12_total 5 (some .int) 6 [.ref (gB G + r0), .int v1, .int v2] σ d [.int rr.1] rr.2 := by
  refine CT_of pn_RX12 (Nat.le_of_ble_eq_true rfl) ?_
  rw [mX12_total] at h
  refine V_aload_n (pc := 0) 0 dX12_total_0 rfl rfl ?_
  refine V_aload_n (pc := 1) 0 dX12_total_1 rfl rfl ?_
  refine V_iload_n (pc := 2) 2 dX12_total_2 rfl rfl ?_
  refine V_iconst (pc := 3) (x := 0) dX12_total_3 (by decide) ?_
  refine V_bipush (pc := 4) (x := 9) dX12_total_4 (by decide) ?_
  refine V_cS3 (pc := 6) dX12_total_6 kw1365 calX12_in kw1366 (by decide) (Nat.le_of_ble_eq_true rfl) (ctX12_in) ?_
  refine V_iload_n (pc := 9) 1 dX12_total_9 rfl rfl ?_
  obtain ⟨x4, h3, h⟩ := bnd h
  refine V_cV2 (pc := 10) dX12_total_10 kw1652 calX12_variantWhy kw1654 ks97 (L11_0 H0) rfl (by decide) (Nat.le_of_ble_eq_true rfl) (ctX12_variantWhy H0 h3) ?_
  refine V_cV1 (pc := 13) dX12_total_13 kw1368 calX12_isRefused kw1370 ks54 (L11_0 H0) rfl (by decide) (Nat.le_of_ble_eq_true rfl) (ctX12_isRefused H0) ?_
  refine V_ifB_eq (pc := 16) (tgt := 21) dX12_total_16 (by decide) (fun c7 => ?_) (fun c7 => ?_)
  · have h := ite_f c7 h
    refine V_iconst (pc := 21) (x := 0) dX12_total_21 (by decide) ?_
    refine V_istore_n (pc := 22) (lv1 := [(3, _), (0, _), (1, _), (2, _)]) dX12_total_22 rfl (by decide) rfl ?_
    refine V_iconst (pc := 23) (x := 0) dX12_total_23 (by decide) ?_
    refine V_istore (pc := 24) (lv1 := [(4, _), (3, _), (0, _), (1, _), (2, _)]) dX12_total_24 (by decide) rfl ?_
    exact V_sub [2, 3, 4, 1, 0] rfl (wX12_total_26 H0 FUEL (0 : Int32) (0 : Int32) ((mX12_isRefused r0 x4 d).2) h)
  · have h := ite_p c7 h
    refine V_iconst (pc := 19) (x := (-1)) dX12_total_19 (by decide) ?_
    cases h
    exact V_ret (pc := 20) dX12_total_20 ⟨rfl, _, rfl⟩ ⟨rfl, rfl, rfl⟩
theorem calX12_trouble : Cal yX12_trouble cX12_trouble 1 (some .int) 0 := ⟨kw1890, kw11, by decide +kernel⟩
theorem ctX12_trouble {G : Gl} {σ : Sg} {d : Dt} {r0 : Nat} (H0 : L11 σ r0) : CTv G yX12_trouble cX12_trouble 1 (some .int) 0 [.ref (gB G + r0)] σ d [.int (mX12_trouble r0 d).1] (mX12_trouble r0 d).2 := by
  refine CT_of pn_RX12 (Nat.le_of_ble_eq_true rfl) ?_
  generalize h : mX12_trouble r0 d = rr
  rw [mX12_trouble] at h
  refine V_aload_n (pc := 0) 0 dX12_trouble_0 rfl rfl ?_
  refine V_iconst (pc := 1) (x := 0) dX12_trouble_1 (by decide) ?_
  refine V_putI (pc := 2) (c := 11) (k := 0) dX12_trouble_2 (by decide) (by decide) kw1243 rfl rfl rfl ⟨rfl, rfl⟩ (L11_0 H0) ?_
  refine V_aload_n (pc := 5) 0 dX12_trouble_5 rfl rfl ?_
  refine V_getI (pc := 6) (c := 11) (k := 1) dX12_trouble_6 (by decide) (by decide) kw1244 rfl rfl (L11_0 H0) ?_
  subst h
  exact V_ret (pc := 9) dX12_trouble_9 ⟨rfl, _, rfl⟩ ⟨rfl, rfl, rfl⟩
theorem wX12_undo_13 {G : Gl} {σ : Sg} {d : Dt} {r0 : Nat} {vs0 : Int32} {rs1 : Nat} {rr : Bool × Dt} (H0 : L11 σ r0) (Hs1 : L11 σ rs1) (h : mX12_undo_13 r0 vs0 rs1 d = some rr) : V G yX12_undo cX12_undo 1 (some .boolean) 1 0 0 (PH [.int (b2i rr.1)] σ rr.2) 13 [(0, .ref (gB G + r0))] [.int vs0, .ref (gB G + rs1)] σ d := by
  rw [mX12_undo_13] at h
  refine V_cS1 (pc := 13) dX12_undo_13 kw1523 calX12_unless kw1524 (by decide) (Nat.le_of_ble_eq_true rfl) (ctX12_unless) ?_
  refine V_cV1 (pc := 16) dX12_undo_16 kw1368 calX12_isRefused kw1370 ks54 (L11_0 Hs1) rfl (by decide) (Nat.le_of_ble_eq_true rfl) (ctX12_isRefused Hs1) ?_
  refine V_ifB_eq (pc := 19) (tgt := 24) dX12_undo_19 (by decide) (fun c6 => ?_) (fun c6 => ?_)
  · have h := ite_f c6 h
    refine V_aload_n (pc := 24) 0 dX12_undo_24 rfl rfl ?_
    refine V_dup (pc := 25) dX12_undo_25 rfl ?_
    refine V_getI (pc := 26) (c := 11) (k := 34) dX12_undo_26 (by decide) (by decide) kw1277 rfl rfl (L11_0 H0) ?_
    refine V_iconst (pc := 29) (x := 1) dX12_undo_29 (by decide) ?_
    refine V_isub (pc := 30) dX12_undo_30 ?_
    refine V_putI (pc := 31) (c := 11) (k := 34) dX12_undo_31 (by decide) (by decide) kw1277 rfl rfl rfl ⟨rfl, rfl⟩ (L11_0 H0) ?_
    refine V_aload_n (pc := 34) 0 dX12_undo_34 rfl rfl ?_
    refine V_getR (pc := 35) (c := 11) (k := 6) dX12_undo_35 (by decide) (by decide) kw1249 rfl rfl (L11_0 H0) (L11_r6 H0) ?_
    refine V_aload_n (pc := 38) 0 dX12_undo_38 rfl rfl ?_
    refine V_getR (pc := 39) (c := 11) (k := 32) dX12_undo_39 (by decide) (by decide) kw1275 rfl rfl (L11_0 H0) (L11_r32 H0) ?_
    refine V_aload_n (pc := 42) 0 dX12_undo_42 rfl rfl ?_
    refine V_getI (pc := 43) (c := 11) (k := 34) dX12_undo_43 (by decide) (by decide) kw1277 rfl rfl (L11_0 H0) ?_
    obtain ⟨b7, h⟩ := ite_o h
    refine V_iald (pc := 46) dX12_undo_46 (L11_s32 H0) (inB_vp b7) ?_
    refine V_aload_n (pc := 47) 0 dX12_undo_47 rfl rfl ?_
    refine V_getR (pc := 48) (c := 11) (k := 33) dX12_undo_48 (by decide) (by decide) kw1276 rfl rfl (L11_0 H0) (L11_r33 H0) ?_
    refine V_aload_n (pc := 51) 0 dX12_undo_51 rfl rfl ?_
    refine V_getI (pc := 52) (c := 11) (k := 34) dX12_undo_52 (by decide) (by decide) kw1277 rfl rfl (L11_0 H0) ?_
    obtain ⟨b8, h⟩ := ite_o h
    refine V_iald (pc := 55) dX12_undo_55 (L11_s33 H0) (inB_vp b8) ?_
    obtain ⟨b9, h⟩ := ite_o h
    refine V_iast (pc := 56) dX12_undo_56 (L11_s6 H0) (inB_vp b9) ?_
    refine V_iconst (pc := 57) (x := 1) dX12_undo_57 (by decide) ?_
    cases h
    exact V_ret (pc := 58) dX12_undo_58 ⟨rfl, _, rfl, rfl⟩ ⟨rfl, rfl, rfl⟩
  · have h := ite_p c6 h
    refine V_iconst (pc := 22) (x := 0) dX12_undo_22 (by decide) ?_
    cases h
    exact V_ret (pc := 23) dX12_undo_23 ⟨rfl, _, rfl, rfl⟩ ⟨rfl, rfl, rfl⟩
theorem calX12_undo : Cal yX12_undo cX12_undo 1 (some .boolean) 0 := ⟨kw1870, kw11, by decide +kernel⟩
theorem ctX12_undo {G : Gl} {σ : Sg} {d : Dt} {r0 : Nat} {rr : Bool × Dt} (H0 : L11 σ r0) (h : mX12_undo r0 d = some rr) : CTv G yX12_undo cX12_undo 1 (some .boolean) 1 [.ref (gB G + r0)] σ d [.int (b2i rr.1)] rr.2 := by
  refine CT_of pn_RX12 (Nat.le_of_ble_eq_true rfl) ?_
  rw [mX12_undo] at h
  refine V_aload_n (pc := 0) 0 dX12_undo_0 rfl rfl ?_
  refine V_aload_n (pc := 1) 0 dX12_undo_1 rfl rfl ?_
  refine V_getI (pc := 2) (c := 11) (k := 34) dX12_undo_2 (by decide) (by decide) kw1277 rfl rfl (L11_0 H0) ?_
  refine V_if_le (pc := 5) (tgt := 12) dX12_undo_5 (by decide) (fun c1 => ?_) (fun c1 => ?_)
  · have h := ite_p c1 h
    refine V_iconst (pc := 12) (x := 0) dX12_undo_12 (by decide) ?_
    exact V_sub [0] rfl (wX12_undo_13 H0 H0 h)
  · have h := ite_n c1 h
    refine V_iconst (pc := 8) (x := 1) dX12_undo_8 (by decide) ?_
    refine V_goto (pc := 9) (tgt := 13) dX12_undo_9 (by decide) ?_
    exact V_sub [0] rfl (wX12_undo_13 H0 H0 h)
theorem wX12_unused_9 {G : Gl} {σ : Sg} {r0 : Nat} {v1 : Int32} {rr : Int32 × Dt} (H0 : L11 σ r0) : ∀ (n : Nat) (v2 : Int32) (v3 : Int32) (d : Dt), mX12_unused_9 r0 v1 n v2 v3 d = some rr → V G yX12_unused cX12_unused 4 (some .int) 4 0 0 (PH [.int rr.1] σ rr.2) 9 [(0, .ref (gB G + r0)), (1, .int v1), (2, .int v2), (3, .int v3)] [] σ d := by
  intro n
  induction n with
  | zero =>
    intro v2 v3 d
    intros
    rename_i h
    exact absurd h (by rw [mX12_unused_9]; exact fun q => nomatch q)
  | succ n ih =>
    intro v2 v3 d h
    rw [mX12_unused_9] at h
    refine V_aload_n (pc := 9) 0 dX12_unused_9 rfl rfl ?_
    refine V_getI (pc := 10) (c := 11) (k := 14) dX12_unused_10 (by decide) (by decide) kw1257 rfl rfl (L11_0 H0) ?_
    refine V_if_eq (pc := 13) (tgt := 50) dX12_unused_13 (by decide) (fun c1 => ?_) (fun c1 => ?_)
    · have h := ite_p c1 h
      refine V_aload_n (pc := 50) 0 dX12_unused_50 rfl rfl ?_
      refine V_iconst (pc := 51) (x := 1) dX12_unused_51 (by decide) ?_
      refine V_putI (pc := 52) (c := 11) (k := 0) dX12_unused_52 (by decide) (by decide) kw1243 rfl rfl rfl ⟨rfl, rfl⟩ (L11_0 H0) ?_
      refine V_iconst (pc := 55) (x := 0) dX12_unused_55 (by decide) ?_
      cases h
      exact V_ret (pc := 56) dX12_unused_56 ⟨rfl, _, rfl⟩ ⟨rfl, rfl, rfl⟩
    · have h := ite_n c1 h
      refine V_iload_n (pc := 16) 3 dX12_unused_16 rfl rfl ?_
      refine V_aload_n (pc := 17) 0 dX12_unused_17 rfl rfl ?_
      refine V_getR (pc := 18) (c := 11) (k := 6) dX12_unused_18 (by decide) (by decide) kw1249 rfl rfl (L11_0 H0) (L11_r6 H0) ?_
      refine V_iconst (pc := 21) (x := 5) dX12_unused_21 (by decide) ?_
      obtain ⟨b2, h⟩ := ite_o h
      refine V_iald (pc := 22) dX12_unused_22 (L11_s6 H0) (inB_vp b2) ?_
      refine V_icmp_ge (pc := 23) (tgt := 50) dX12_unused_23 (by decide) (fun c3 => ?_) (fun c3 => ?_)
      · have h := ite_p c3 h
        refine V_aload_n (pc := 50) 0 dX12_unused_50 rfl rfl ?_
        refine V_iconst (pc := 51) (x := 1) dX12_unused_51 (by decide) ?_
        refine V_putI (pc := 52) (c := 11) (k := 0) dX12_unused_52 (by decide) (by decide) kw1243 rfl rfl rfl ⟨rfl, rfl⟩ (L11_0 H0) ?_
        refine V_iconst (pc := 55) (x := 0) dX12_unused_55 (by decide) ?_
        cases h
        exact V_ret (pc := 56) dX12_unused_56 ⟨rfl, _, rfl⟩ ⟨rfl, rfl, rfl⟩
      · have h := ite_n c3 h
        refine V_aload_n (pc := 26) 0 dX12_unused_26 rfl rfl ?_
        refine V_iload_n (pc := 27) 3 dX12_unused_27 rfl rfl ?_
        obtain ⟨x5, h4, h⟩ := bnd h
        refine V_cV1 (pc := 28) dX12_unused_28 kw1875 calX12_isUnused kw1877 ks125 (L11_0 H0) rfl (by decide) (Nat.le_of_ble_eq_true rfl) (ctX12_isUnused H0 h4) ?_
        refine V_ifB_eq (pc := 31) (tgt := 44) dX12_unused_31 (by decide) (fun c6 => ?_) (fun c6 => ?_)
        · have h := ite_f c6 h
          refine V_iinc (pc := 44) (lv1 := [(3, _), (0, _), (1, _), (2, _)]) (z := _ + (1 : Int32)) 3 dX12_unused_44 rfl rfl (by decide) rfl ?_
          refine V_goto (pc := 47) (tgt := 9) dX12_unused_47 (by decide) ?_
          exact V_sub [1, 2, 3, 0] rfl (ih v2 (v3 + (1 : Int32)) d h)
        · have h := ite_p c6 h
          refine V_iload_n (pc := 34) 2 dX12_unused_34 rfl rfl ?_
          refine V_iload_n (pc := 35) 1 dX12_unused_35 rfl rfl ?_
          refine V_icmp_ne (pc := 36) (tgt := 41) dX12_unused_36 (by decide) (fun c7 => ?_) (fun c7 => ?_)
          · have h := ite_n c7 h
            refine V_iinc (pc := 41) (lv1 := [(2, _), (0, _), (1, _), (3, _)]) (z := _ + (1 : Int32)) 2 dX12_unused_41 rfl rfl (by decide) rfl ?_
            refine V_iinc (pc := 44) (lv1 := [(3, _), (2, _), (0, _), (1, _)]) (z := _ + (1 : Int32)) 3 dX12_unused_44 rfl rfl (by decide) rfl ?_
            refine V_goto (pc := 47) (tgt := 9) dX12_unused_47 (by decide) ?_
            exact V_sub [2, 3, 1, 0] rfl (ih (v2 + (1 : Int32)) (v3 + (1 : Int32)) d h)
          · have h := ite_p c7 h
            refine V_iload_n (pc := 39) 3 dX12_unused_39 rfl rfl ?_
            cases h
            exact V_ret (pc := 40) dX12_unused_40 ⟨rfl, _, rfl⟩ ⟨rfl, rfl, rfl⟩
theorem calX12_unused : Cal yX12_unused cX12_unused 4 (some .int) 1 := ⟨kw1874, kw11, by decide +kernel⟩
theorem ctX12_unused {G : Gl} {σ : Sg} {d : Dt} {r0 : Nat} {v1 : Int32} {rr : Int32 × Dt} (H0 : L11 σ r0) (h : mX12_unused r0 v1 d = some rr) : CTv G yX12_unused cX12_unused 4 (some .int) 4 [.ref (gB G + r0), .int v1] σ d [.int rr.1] rr.2 := by
  refine CT_of pn_RX12 (Nat.le_of_ble_eq_true rfl) ?_
  rw [mX12_unused] at h
  refine V_aload_n (pc := 0) 0 dX12_unused_0 rfl rfl ?_
  refine V_iconst (pc := 1) (x := 0) dX12_unused_1 (by decide) ?_
  refine V_putI (pc := 2) (c := 11) (k := 0) dX12_unused_2 (by decide) (by decide) kw1243 rfl rfl rfl ⟨rfl, rfl⟩ (L11_0 H0) ?_
  refine V_iconst (pc := 5) (x := 0) dX12_unused_5 (by decide) ?_
  refine V_istore_n (pc := 6) (lv1 := [(2, _), (0, _), (1, _)]) dX12_unused_6 rfl (by decide) rfl ?_
  refine V_iconst (pc := 7) (x := 0) dX12_unused_7 (by decide) ?_
  refine V_istore_n (pc := 8) (lv1 := [(3, _), (2, _), (0, _), (1, _)]) dX12_unused_8 rfl (by decide) rfl ?_
  exact V_sub [2, 3, 1, 0] rfl (wX12_unused_9 H0 FUEL (0 : Int32) (0 : Int32) (uI d r0 0 (0 : Int32)) h)
theorem wX12_way_43 {G : Gl} {σ : Sg} {r0 : Nat} {v2 : Int32} {v3 : Int32} {rr : Int32 × Dt} (H0 : L11 σ r0) : ∀ (n : Nat) (v4 : Int32) (v5 : Int32) (d : Dt), mX12_way_43 r0 v2 v3 n v4 v5 d = some rr → V G yX12_way cX12_way 6 (some .int) 2 0 0 (PH [.int rr.1] σ rr.2) 43 [(0, .ref (gB G + r0)), (2, .int v2), (3, .int v3), (4, .int v4), (5, .int v5)] [] σ d := by
  intro n
  induction n with
  | zero =>
    intro v4 v5 d
    intros
    rename_i h
    exact absurd h (by rw [mX12_way_43]; exact fun q => nomatch q)
  | succ n ih =>
    intro v4 v5 d h
    rw [mX12_way_43] at h
    refine V_iload (pc := 43) 4 dX12_way_43 rfl ?_
    refine V_iload_n (pc := 45) 2 dX12_way_45 rfl rfl ?_
    refine V_icmp_ge (pc := 46) (tgt := 76) dX12_way_46 (by decide) (fun c13 => ?_) (fun c13 => ?_)
    · have h := ite_p c13 h
      refine V_iload (pc := 76) 3 dX12_way_76 rfl ?_
      cases h
      exact V_ret (pc := 78) dX12_way_78 ⟨rfl, _, rfl⟩ ⟨rfl, rfl, rfl⟩
    · have h := ite_n c13 h
      refine V_iload (pc := 49) 3 dX12_way_49 rfl ?_
      refine V_iload_n (pc := 51) 1 dX12_way_51 rfl rfl ?_
      refine V_icmp_ne (pc := 52) (tgt := 61) dX12_way_52 (by decide) (fun c14 => ?_) (fun c14 => ?_)
      · have h := ite_n c14 h
        refine V_aload_n (pc := 61) 0 dX12_way_61 rfl rfl ?_
        refine V_iload (pc := 62) 3 dX12_way_62 rfl ?_
        refine V_iload_n (pc := 64) 1 dX12_way_64 rfl rfl ?_
        obtain ⟨x16, h15, h⟩ := bnd h
        refine V_cV2 (pc := 65) dX12_way_65 kw1558 calX12_nextTo kw1560 ks87 (L11_0 H0) rfl (by decide) (Nat.le_of_ble_eq_true rfl) (ctX12_nextTo H0 h15) ?_
        refine V_istore (pc := 68) (lv1 := [(4, _), (0, _), (2, _), (3, _), (5, _)]) dX12_way_68 (by decide) rfl ?_
        refine V_iinc (pc := 70) (lv1 := [(5, _), (4, _), (0, _), (2, _), (3, _)]) (z := _ + (1 : Int32)) 4 dX12_way_70 rfl rfl (by decide) rfl ?_
        refine V_goto (pc := 73) (tgt := 43) dX12_way_73 (by decide) ?_
        exact V_sub [2, 3, 4, 1, 0] rfl (ih x16 (v5 + (1 : Int32)) d h)
      · have h := ite_p c14 h
        refine V_aload_n (pc := 55) 0 dX12_way_55 rfl rfl ?_
        refine V_iconst (pc := 56) (x := 1) dX12_way_56 (by decide) ?_
        refine V_cV1 (pc := 57) dX12_way_57 kw1507 calX12_no kw1509 ks82 (L11_0 H0) rfl (by decide) (Nat.le_of_ble_eq_true rfl) (ctX12_no H0) ?_
        cases h
        exact V_ret (pc := 60) dX12_way_60 ⟨rfl, _, rfl⟩ ⟨rfl, rfl, rfl⟩
theorem wX12_way_26 {G : Gl} {σ : Sg} {d : Dt} {r0 : Nat} {v1 : Int32} {v2 : Int32} {v3 : Int32} {vs0 : Int32} {rs1 : Nat} {rr : Int32 × Dt} (H0 : L11 σ r0) (Hs1 : L11 σ rs1) (h : mX12_way_26 r0 v1 v2 v3 vs0 rs1 d = some rr) : V G yX12_way cX12_way 6 (some .int) 2 0 0 (PH [.int rr.1] σ rr.2) 26 [(0, .ref (gB G + r0)), (1, .int v1), (2, .int v2), (3, .int v3)] [.int vs0, .ref (gB G + rs1)] σ d := by
  rw [mX12_way_26] at h
  refine V_cS1 (pc := 26) dX12_way_26 kw1523 calX12_unless kw1524 (by decide) (Nat.le_of_ble_eq_true rfl) (ctX12_unless) ?_
  refine V_cV1 (pc := 29) dX12_way_29 kw1368 calX12_isRefused kw1370 ks54 (L11_0 Hs1) rfl (by decide) (Nat.le_of_ble_eq_true rfl) (ctX12_isRefused Hs1) ?_
  refine V_ifB_eq (pc := 32) (tgt := 37) dX12_way_32 (by decide) (fun c12 => ?_) (fun c12 => ?_)
  · have h := ite_f c12 h
    refine V_iload_n (pc := 37) 1 dX12_way_37 rfl rfl ?_
    refine V_istore (pc := 38) (lv1 := [(4, _), (0, _), (1, _), (2, _), (3, _)]) dX12_way_38 (by decide) rfl ?_
    refine V_iconst (pc := 40) (x := 0) dX12_way_40 (by decide) ?_
    refine V_istore (pc := 41) (lv1 := [(5, _), (4, _), (0, _), (1, _), (2, _), (3, _)]) dX12_way_41 (by decide) rfl ?_
    exact V_sub [2, 4, 5, 1, 0] rfl (wX12_way_43 H0 FUEL v1 (0 : Int32) ((mX12_isRefused rs1 (mX12_unless vs0) d).2) h)
  · have h := ite_p c12 h
    refine V_iconst (pc := 35) (x := (-1)) dX12_way_35 (by decide) ?_
    cases h
    exact V_ret (pc := 36) dX12_way_36 ⟨rfl, _, rfl⟩ ⟨rfl, rfl, rfl⟩
theorem calX12_way : Cal yX12_way cX12_way 6 (some .int) 3 := ⟨kw1557, kw11, by decide +kernel⟩
theorem ctX12_way {G : Gl} {σ : Sg} {d : Dt} {r0 : Nat} {v1 : Int32} {v2 : Int32} {v3 : Int32} {rr : Int32 × Dt} (H0 : L11 σ r0) (h : mX12_way r0 v1 v2 v3 d = some rr) : CTv G yX12_way cX12_way 6 (some .int) 2 [.ref (gB G + r0), .int v1, .int v2, .int v3] σ d [.int rr.1] rr.2 := by
  refine CT_of pn_RX12 (Nat.le_of_ble_eq_true rfl) ?_
  rw [mX12_way] at h
  refine V_aload_n (pc := 0) 0 dX12_way_0 rfl rfl ?_
  refine V_aload_n (pc := 1) 0 dX12_way_1 rfl rfl ?_
  refine V_iload_n (pc := 2) 1 dX12_way_2 rfl rfl ?_
  obtain ⟨x2, h1, h⟩ := bnd h
  refine V_cV1 (pc := 3) dX12_way_3 kw1534 calX12_isNode kw1536 ks83 (L11_0 H0) rfl (by decide) (Nat.le_of_ble_eq_true rfl) (ctX12_isNode H0 h1) ?_
  refine V_ifB_eq (pc := 6) (tgt := 25) dX12_way_6 (by decide) (fun c3 => ?_) (fun c3 => ?_)
  · have h := ite_f c3 h
    refine V_iconst (pc := 25) (x := 0) dX12_way_25 (by decide) ?_
    exact V_sub [0, 1, 2, 3] rfl (wX12_way_26 H0 H0 h)
  · have h := ite_p c3 h
    refine V_aload_n (pc := 9) 0 dX12_way_9 rfl rfl ?_
    refine V_iload_n (pc := 10) 2 dX12_way_10 rfl rfl ?_
    obtain ⟨x5, h4, h⟩ := bnd h
    refine V_cV1 (pc := 11) dX12_way_11 kw1534 calX12_isNode kw1536 ks83 (L11_0 H0) rfl (by decide) (Nat.le_of_ble_eq_true rfl) (ctX12_isNode H0 h4) ?_
    refine V_ifB_eq (pc := 14) (tgt := 25) dX12_way_14 (by decide) (fun c6 => ?_) (fun c6 => ?_)
    · have h := ite_f c6 h
      refine V_iconst (pc := 25) (x := 0) dX12_way_25 (by decide) ?_
      exact V_sub [0, 1, 2, 3] rfl (wX12_way_26 H0 H0 h)
    · have h := ite_p c6 h
      refine V_iload_n (pc := 17) 3 dX12_way_17 rfl rfl ?_
      refine V_if_lt (pc := 18) (tgt := 25) dX12_way_18 (by decide) (fun c7 => ?_) (fun c7 => ?_)
      · have h := ite_p c7 h
        refine V_iconst (pc := 25) (x := 0) dX12_way_25 (by decide) ?_
        exact V_sub [0, 1, 2, 3] rfl (wX12_way_26 H0 H0 h)
      · have h := ite_n c7 h
        refine V_iconst (pc := 21) (x := 1) dX12_way_21 (by decide) ?_
        refine V_goto (pc := 22) (tgt := 26) dX12_way_22 (by decide) ?_
        exact V_sub [0, 1, 2, 3] rfl (wX12_way_26 H0 H0 h)
theorem calX12_where : Cal yX12_where cX12_where 1 (some .int) 0 := ⟨kw1518, kw11, by decide +kernel⟩
theorem ctX12_where {G : Gl} {σ : Sg} {d : Dt} {r0 : Nat} (H0 : L11 σ r0) : CTv G yX12_where cX12_where 1 (some .int) 0 [.ref (gB G + r0)] σ d [.int (mX12_where r0 d).1] (mX12_where r0 d).2 := by
  refine CT_of pn_RX12 (Nat.le_of_ble_eq_true rfl) ?_
  generalize h : mX12_where r0 d = rr
  rw [mX12_where] at h
  refine V_aload_n (pc := 0) 0 dX12_where_0 rfl rfl ?_
  refine V_iconst (pc := 1) (x := 0) dX12_where_1 (by decide) ?_
  refine V_putI (pc := 2) (c := 11) (k := 0) dX12_where_2 (by decide) (by decide) kw1243 rfl rfl rfl ⟨rfl, rfl⟩ (L11_0 H0) ?_
  refine V_aload_n (pc := 5) 0 dX12_where_5 rfl rfl ?_
  refine V_getI (pc := 6) (c := 11) (k := 1) dX12_where_6 (by decide) (by decide) kw1244 rfl rfl (L11_0 H0) ?_
  refine V_iconst (pc := 9) (x := 4) dX12_where_9 (by decide) ?_
  refine V_icmp_ne (pc := 10) (tgt := 20) dX12_where_10 (by decide) (fun c1 => ?_) (fun c1 => ?_)
  · have h := ite_n c1 h
    refine V_iconst (pc := 20) (x := (-1)) dX12_where_20 (by decide) ?_
    subst h
    exact V_ret (pc := 21) dX12_where_21 ⟨rfl, _, rfl⟩ ⟨rfl, rfl, rfl⟩
  · have h := ite_p c1 h
    refine V_aload_n (pc := 13) 0 dX12_where_13 rfl rfl ?_
    refine V_getI (pc := 14) (c := 11) (k := 3) dX12_where_14 (by decide) (by decide) kw1246 rfl rfl (L11_0 H0) ?_
    refine V_goto (pc := 17) (tgt := 21) dX12_where_17 (by decide) ?_
    subst h
    exact V_ret (pc := 21) dX12_where_21 ⟨rfl, _, rfl⟩ ⟨rfl, rfl, rfl⟩
theorem calX12_wire : Cal yX12_wire cX12_wire 5 (some .int) 3 := ⟨kw1707, kw11, by decide +kernel⟩
theorem ctX12_wire {G : Gl} {σ : Sg} {d : Dt} {r0 : Nat} {v1 : Int32} {v2 : Int32} {v3 : Int32} {rr : Int32 × Dt} (H0 : L11 σ r0) (h : mX12_wire r0 v1 v2 v3 d = some rr) : CTv G yX12_wire cX12_wire 5 (some .int) 6 [.ref (gB G + r0), .int v1, .int v2, .int v3] σ d [.int rr.1] rr.2 := by
  refine CT_of pn_RX12 (Nat.le_of_ble_eq_true rfl) ?_
  rw [mX12_wire] at h
  refine V_aload_n (pc := 0) 0 dX12_wire_0 rfl rfl ?_
  refine V_aload_n (pc := 1) 0 dX12_wire_1 rfl rfl ?_
  refine V_aload_n (pc := 2) 0 dX12_wire_2 rfl rfl ?_
  refine V_iload_n (pc := 3) 2 dX12_wire_3 rfl rfl ?_
  refine V_iload_n (pc := 4) 3 dX12_wire_4 rfl rfl ?_
  obtain ⟨x2, h1, h⟩ := bnd h
  refine V_cV2 (pc := 5) dX12_wire_5 kw1644 calX12_isPin kw1646 ks96 (L11_0 H0) rfl (by decide) (Nat.le_of_ble_eq_true rfl) (ctX12_isPin H0 h1) ?_
  refine V_iload_n (pc := 8) 1 dX12_wire_8 rfl rfl ?_
  obtain ⟨x4, h3, h⟩ := bnd h
  refine V_cV2 (pc := 9) dX12_wire_9 kw1652 calX12_variantWhy kw1654 ks97 (L11_0 H0) rfl (by decide) (Nat.le_of_ble_eq_true rfl) (ctX12_variantWhy H0 h3) ?_
  refine V_cV1 (pc := 12) dX12_wire_12 kw1368 calX12_isRefused kw1370 ks54 (L11_0 H0) rfl (by decide) (Nat.le_of_ble_eq_true rfl) (ctX12_isRefused H0) ?_
  refine V_ifB_eq (pc := 15) (tgt := 20) dX12_wire_15 (by decide) (fun c7 => ?_) (fun c7 => ?_)
  · have h := ite_f c7 h
    refine V_aload_n (pc := 20) 0 dX12_wire_20 rfl rfl ?_
    refine V_iload_n (pc := 21) 1 dX12_wire_21 rfl rfl ?_
    refine V_iload_n (pc := 22) 2 dX12_wire_22 rfl rfl ?_
    obtain ⟨x9, h8, h⟩ := bnd h
    refine V_cV2 (pc := 23) dX12_wire_23 kw1667 calX12_pinsOf kw1669 ks99 (L11_0 H0) rfl (by decide) (Nat.le_of_ble_eq_true rfl) (ctX12_pinsOf H0 h8) ?_
    refine V_istore (pc := 26) (lv1 := [(4, _), (0, _), (1, _), (2, _), (3, _)]) dX12_wire_26 (by decide) rfl ?_
    refine V_iload (pc := 28) 0 dX12_wire_28 rfl ?_
    refine V_iload_n (pc := 30) 4 dX12_wire_30 rfl rfl ?_
    refine V_cS2 (pc := 31) dX12_wire_31 kw1690 calX12_has kw1691 (by decide) (Nat.le_of_ble_eq_true rfl) (ctX12_has) ?_
    refine V_ifB_eq (pc := 34) (tgt := 46) dX12_wire_34 (by decide) (fun c12 => ?_) (fun c12 => ?_)
    · have h := ite_f c12 h
      refine V_aload_n (pc := 46) 1 dX12_wire_46 rfl rfl ?_
      refine V_iconst (pc := 47) (x := 5) dX12_wire_47 (by decide) ?_
      refine V_cV1 (pc := 48) dX12_wire_48 kw1507 calX12_no kw1509 ks82 (L11_0 H0) rfl (by decide) (Nat.le_of_ble_eq_true rfl) (ctX12_no H0) ?_
      cases h
      exact V_ret (pc := 51) dX12_wire_51 ⟨rfl, _, rfl⟩ ⟨rfl, rfl, rfl⟩
    · have h := ite_p c12 h
      refine V_iload (pc := 37) 0 dX12_wire_37 rfl ?_
      obtain ⟨x16, h15, h⟩ := bnd h
      refine V_cS1 (pc := 39) dX12_wire_39 kw1683 calX12_bitsOf kw1684 (by decide) (Nat.le_of_ble_eq_true rfl) (ctX12_bitsOf h15) ?_
      refine V_iconst (pc := 42) (x := 2) dX12_wire_42 (by decide) ?_
      refine V_icmp_ge (pc := 43) (tgt := 52) dX12_wire_43 (by decide) (fun c17 => ?_) (fun c17 => ?_)
      · have h := ite_p c17 h
        refine V_iload (pc := 52) 0 dX12_wire_52 rfl ?_
        obtain ⟨x19, h18, h⟩ := bnd h
        refine V_cS1 (pc := 54) dX12_wire_54 kw1683 calX12_bitsOf kw1684 (by decide) (Nat.le_of_ble_eq_true rfl) (ctX12_bitsOf h18) ?_
        refine V_iconst (pc := 57) (x := 2) dX12_wire_57 (by decide) ?_
        refine V_icmp_ne (pc := 58) (tgt := 71) dX12_wire_58 (by decide) (fun c20 => ?_) (fun c20 => ?_)
        · have h := ite_n c20 h
          refine V_aload_n (pc := 71) 1 dX12_wire_71 rfl rfl ?_
          refine V_aload_n (pc := 72) 1 dX12_wire_72 rfl rfl ?_
          refine V_iload_n (pc := 73) 3 dX12_wire_73 rfl rfl ?_
          refine V_iload (pc := 74) 0 dX12_wire_74 rfl ?_
          obtain ⟨x22, h21, h⟩ := bnd h
          refine V_cV2 (pc := 76) dX12_wire_76 kw1679 calX12_spliceOf kw1681 ks101 (L11_0 H0) rfl (by decide) (Nat.le_of_ble_eq_true rfl) (ctX12_spliceOf H0 h21) ?_
          refine V_aload_n (pc := 79) 1 dX12_wire_79 rfl rfl ?_
          refine V_iload_n (pc := 80) 3 dX12_wire_80 rfl rfl ?_
          refine V_iload_n (pc := 81) 4 dX12_wire_81 rfl rfl ?_
          obtain ⟨x24, h23, h⟩ := bnd h
          refine V_cV2 (pc := 82) dX12_wire_82 kw1693 calX12_pinNode kw1695 ks103 (L11_0 H0) rfl (by decide) (Nat.le_of_ble_eq_true rfl) (ctX12_pinNode H0 h23) ?_
          obtain ⟨x26, h25, h⟩ := bnd h
          refine V_cV2 (pc := 85) dX12_wire_85 kw1542 calX12_farOf kw1544 ks84 (L11_0 H0) rfl (by decide) (Nat.le_of_ble_eq_true rfl) (ctX12_farOf H0 h25) ?_
          refine V_aload_n (pc := 88) 1 dX12_wire_88 rfl rfl ?_
          refine V_getR (pc := 89) (c := 11) (k := 6) dX12_wire_89 (by decide) (by decide) kw1249 rfl rfl (L11_0 H0) (L11_r6 H0) ?_
          refine V_iconst (pc := 92) (x := 0) dX12_wire_92 (by decide) ?_
          obtain ⟨b27, h⟩ := ite_o h
          refine V_iald (pc := 93) dX12_wire_93 (L11_s6 H0) (inB_vp b27) ?_
          refine V_iadd (pc := 94) dX12_wire_94 ?_
          refine V_aload_n (pc := 95) 1 dX12_wire_95 rfl rfl ?_
          refine V_getR (pc := 96) (c := 11) (k := 6) dX12_wire_96 (by decide) (by decide) kw1249 rfl rfl (L11_0 H0) (L11_r6 H0) ?_
          refine V_iconst (pc := 99) (x := 1) dX12_wire_99 (by decide) ?_
          obtain ⟨b28, h⟩ := ite_o h
          refine V_iald (pc := 100) dX12_wire_100 (L11_s6 H0) (inB_vp b28) ?_
          refine V_iadd (pc := 101) dX12_wire_101 ?_
          cases h
          exact V_ret (pc := 102) dX12_wire_102 ⟨rfl, _, rfl⟩ ⟨rfl, rfl, rfl⟩
        · have h := ite_p c20 h
          refine V_aload_n (pc := 61) 1 dX12_wire_61 rfl rfl ?_
          refine V_iload_n (pc := 62) 3 dX12_wire_62 rfl rfl ?_
          refine V_iload (pc := 63) 0 dX12_wire_63 rfl ?_
          obtain ⟨x30, h29, h⟩ := bnd h
          refine V_cV2 (pc := 65) dX12_wire_65 kw1708 calX12_lengthOf kw1710 ks104 (L11_0 H0) rfl (by decide) (Nat.le_of_ble_eq_true rfl) (ctX12_lengthOf H0 h29) ?_
          refine V_goto (pc := 68) (tgt := 102) dX12_wire_68 (by decide) ?_
          cases h
          exact V_ret (pc := 102) dX12_wire_102 ⟨rfl, _, rfl⟩ ⟨rfl, rfl, rfl⟩
      · have h := ite_n c17 h
        refine V_aload_n (pc := 46) 1 dX12_wire_46 rfl rfl ?_
        refine V_iconst (pc := 47) (x := 5) dX12_wire_47 (by decide) ?_
        refine V_cV1 (pc := 48) dX12_wire_48 kw1507 calX12_no kw1509 ks82 (L11_0 H0) rfl (by decide) (Nat.le_of_ble_eq_true rfl) (ctX12_no H0) ?_
        cases h
        exact V_ret (pc := 51) dX12_wire_51 ⟨rfl, _, rfl⟩ ⟨rfl, rfl, rfl⟩
  · have h := ite_p c7 h
    refine V_iconst (pc := 18) (x := (-1)) dX12_wire_18 (by decide) ?_
    cases h
    exact V_ret (pc := 19) dX12_wire_19 ⟨rfl, _, rfl⟩ ⟨rfl, rfl, rfl⟩
theorem calX12_wires : Cal yX12_wires cX12_wires 3 (some .int) 2 := ⟨kw1700, kw11, by decide +kernel⟩
theorem ctX12_wires {G : Gl} {σ : Sg} {d : Dt} {r0 : Nat} {v1 : Int32} {v2 : Int32} {rr : Int32 × Dt} (H0 : L11 σ r0) (h : mX12_wires r0 v1 v2 d = some rr) : CTv G yX12_wires cX12_wires 3 (some .int) 3 [.ref (gB G + r0), .int v1, .int v2] σ d [.int rr.1] rr.2 := by
  refine CT_of pn_RX12 (Nat.le_of_ble_eq_true rfl) ?_
  rw [mX12_wires] at h
  refine V_aload_n (pc := 0) 0 dX12_wires_0 rfl rfl ?_
  refine V_aload_n (pc := 1) 0 dX12_wires_1 rfl rfl ?_
  refine V_aload_n (pc := 2) 0 dX12_wires_2 rfl rfl ?_
  refine V_iload_n (pc := 3) 2 dX12_wires_3 rfl rfl ?_
  obtain ⟨x2, h1, h⟩ := bnd h
  refine V_cV1 (pc := 4) dX12_wires_4 kw1632 calX12_isNet kw1634 ks94 (L11_0 H0) rfl (by decide) (Nat.le_of_ble_eq_true rfl) (ctX12_isNet H0 h1) ?_
  refine V_iload_n (pc := 7) 1 dX12_wires_7 rfl rfl ?_
  obtain ⟨x4, h3, h⟩ := bnd h
  refine V_cV2 (pc := 8) dX12_wires_8 kw1652 calX12_variantWhy kw1654 ks97 (L11_0 H0) rfl (by decide) (Nat.le_of_ble_eq_true rfl) (ctX12_variantWhy H0 h3) ?_
  refine V_cV1 (pc := 11) dX12_wires_11 kw1368 calX12_isRefused kw1370 ks54 (L11_0 H0) rfl (by decide) (Nat.le_of_ble_eq_true rfl) (ctX12_isRefused H0) ?_
  refine V_ifB_eq (pc := 14) (tgt := 21) dX12_wires_14 (by decide) (fun c7 => ?_) (fun c7 => ?_)
  · have h := ite_f c7 h
    refine V_aload_n (pc := 21) 0 dX12_wires_21 rfl rfl ?_
    refine V_iload_n (pc := 22) 1 dX12_wires_22 rfl rfl ?_
    refine V_iload_n (pc := 23) 2 dX12_wires_23 rfl rfl ?_
    obtain ⟨x9, h8, h⟩ := bnd h
    refine V_cV2 (pc := 24) dX12_wires_24 kw1667 calX12_pinsOf kw1669 ks99 (L11_0 H0) rfl (by decide) (Nat.le_of_ble_eq_true rfl) (ctX12_pinsOf H0 h8) ?_
    obtain ⟨x11, h10, h⟩ := bnd h
    refine V_cS1 (pc := 27) dX12_wires_27 kw1701 calX12_wiresOf kw1702 (by decide) (Nat.le_of_ble_eq_true rfl) (ctX12_wiresOf h10) ?_
    cases h
    exact V_ret (pc := 30) dX12_wires_30 ⟨rfl, _, rfl⟩ ⟨rfl, rfl, rfl⟩
  · have h := ite_p c7 h
    refine V_iconst (pc := 17) (x := (-1)) dX12_wires_17 (by decide) ?_
    refine V_goto (pc := 18) (tgt := 30) dX12_wires_18 (by decide) ?_
    cases h
    exact V_ret (pc := 30) dX12_wires_30 ⟨rfl, _, rfl⟩ ⟨rfl, rfl, rfl⟩
