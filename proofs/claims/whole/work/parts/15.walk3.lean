theorem wX0_keep_13 {G : Gl} {σ : Sg} {d : Dt} {r0 : Nat} {v1 : Int32} {v2 : Int32} {v3 : Int32} {rr : Dt} (H0 : L0 σ r0) (h : mX0_keep_13 r0 v1 v2 v3 d = some rr) : V G yX0_keep cX0_keep 4 none 1 0 0 (PH [] σ rr) 13 [(0, .ref (gB G + r0)), (1, .int v1), (2, .int v2), (3, .int v3)] [] σ d := by
  rw [mX0_keep_13] at h
  refine V_aload_n (pc := 13) 0 dX0_keep_13 rfl rfl ?_
  refine V_getR (pc := 14) (c := 0) (k := 1) dX0_keep_14 (by decide) (by decide) kw302 rfl rfl (L0_0 H0) (L0_r1 H0) ?_
  refine V_aload_n (pc := 17) 0 dX0_keep_17 rfl rfl ?_
  refine V_getI (pc := 18) (c := 0) (k := 0) dX0_keep_18 (by decide) (by decide) kw300 rfl rfl (L0_0 H0) ?_
  refine V_iload_n (pc := 21) 1 dX0_keep_21 rfl rfl ?_
  obtain ⟨b4, h⟩ := ite_o h
  refine V_iast (pc := 22) dX0_keep_22 (L0_s1 H0) (inB_vp b4) ?_
  refine V_aload_n (pc := 23) 0 dX0_keep_23 rfl rfl ?_
  refine V_getR (pc := 24) (c := 0) (k := 2) dX0_keep_24 (by decide) (by decide) kw304 rfl rfl (L0_0 H0) (L0_r2 H0) ?_
  refine V_aload_n (pc := 27) 0 dX0_keep_27 rfl rfl ?_
  refine V_getI (pc := 28) (c := 0) (k := 0) dX0_keep_28 (by decide) (by decide) kw300 rfl rfl (L0_0 H0) ?_
  refine V_iload_n (pc := 31) 2 dX0_keep_31 rfl rfl ?_
  obtain ⟨b5, h⟩ := ite_o h
  refine V_iast (pc := 32) dX0_keep_32 (L0_s2 H0) (inB_vp b5) ?_
  refine V_aload_n (pc := 33) 0 dX0_keep_33 rfl rfl ?_
  refine V_getR (pc := 34) (c := 0) (k := 3) dX0_keep_34 (by decide) (by decide) kw306 rfl rfl (L0_0 H0) (L0_r3 H0) ?_
  refine V_aload_n (pc := 37) 0 dX0_keep_37 rfl rfl ?_
  refine V_getI (pc := 38) (c := 0) (k := 0) dX0_keep_38 (by decide) (by decide) kw300 rfl rfl (L0_0 H0) ?_
  refine V_iload_n (pc := 41) 3 dX0_keep_41 rfl rfl ?_
  obtain ⟨b6, h⟩ := ite_o h
  refine V_iast (pc := 42) dX0_keep_42 (L0_s3 H0) (inB_vp b6) ?_
  refine V_aload_n (pc := 43) 0 dX0_keep_43 rfl rfl ?_
  refine V_dup (pc := 44) dX0_keep_44 rfl ?_
  refine V_getI (pc := 45) (c := 0) (k := 0) dX0_keep_45 (by decide) (by decide) kw300 rfl rfl (L0_0 H0) ?_
  refine V_iconst (pc := 48) (x := 1) dX0_keep_48 (by decide) ?_
  refine V_iadd (pc := 49) dX0_keep_49 ?_
  refine V_putI (pc := 50) (c := 0) (k := 0) dX0_keep_50 (by decide) (by decide) kw300 rfl rfl rfl ⟨rfl, rfl⟩ (L0_0 H0) ?_
  cases h
  exact V_ret (pc := 53) dX0_keep_53 ⟨rfl, rfl⟩ ⟨rfl, rfl, rfl⟩
theorem calX0_keep : Cal yX0_keep cX0_keep 4 none 3 := ⟨kw1131, kw8, by decide +kernel⟩
theorem ctX0_keep {G : Gl} {σ : Sg} {d : Dt} {r0 : Nat} {v1 : Int32} {v2 : Int32} {v3 : Int32} {rr : Dt} (H0 : L0 σ r0) (h : mX0_keep r0 v1 v2 v3 d = some rr) : CTv G yX0_keep cX0_keep 4 none 1 [.ref (gB G + r0), .int v1, .int v2, .int v3] σ d [] rr := by
  refine CT_of pn_RX0 (Nat.le_of_ble_eq_true rfl) ?_
  rw [mX0_keep] at h
  refine V_aload_n (pc := 0) 0 dX0_keep_0 rfl rfl ?_
  refine V_getI (pc := 1) (c := 0) (k := 0) dX0_keep_1 (by decide) (by decide) kw300 rfl rfl (L0_0 H0) ?_
  refine V_bipush (pc := 4) (x := 10) dX0_keep_4 (by decide) ?_
  refine V_icmp_lt (pc := 6) (tgt := 13) dX0_keep_6 (by decide) (fun c1 => ?_) (fun c1 => ?_)
  · have h := ite_p c1 h
    exact V_sub [0, 1, 2, 3] rfl (wX0_keep_13 H0 h)
  · have h := ite_n c1 h
    refine V_aload_n (pc := 9) 0 dX0_keep_9 rfl rfl ?_
    obtain ⟨x3, h2, h⟩ := bnd h
    refine V_cV0 (pc := 10) dX0_keep_10 kw1132 calX0_dropOldest kw1134 ks51 (L0_0 H0) rfl (by decide) (Nat.le_of_ble_eq_true rfl) (ctX0_dropOldest H0 h2) ?_
    exact V_sub [0, 1, 2, 3] rfl (wX0_keep_13 H0 h)
theorem wX11_splices_33 {G : Gl} {σ : Sg} {d : Dt} {r0 : Nat} {r0h : Nat} {r0p : Nat} {v1 : Int32} {v2 : Int32} {rr : Int32 × Dt} (H0 : L10 σ r0 r0h r0p) (h : mX11_splices_33 r0 r0h r0p v1 v2 d = some rr) : V G yX11_splices cX11_splices 4 (some .int) 2 0 0 (PH [.int rr.1] σ rr.2) 33 [(0, .ref (gB G + r0)), (1, .int v1), (2, .int v2)] [] σ d := by
  rw [mX11_splices_33] at h
  refine V_aload_n (pc := 33) 0 dX11_splices_33 rfl rfl ?_
  refine V_getR (pc := 34) (c := 10) (k := 2) dX11_splices_34 (by decide) (by decide) kw356 rfl rfl (L10_0 H0) (L10_r2 H0) ?_
  refine V_getR (pc := 37) (c := 4) (k := 8) dX11_splices_37 (by decide) (by decide) kw244 rfl rfl (L4_0 (L10_o2 H0)) (L4_r8 (L10_o2 H0)) ?_
  refine V_getR (pc := 40) (c := 5) (k := 6) dX11_splices_40 (by decide) (by decide) kw163 rfl rfl (L5_0 (L4_o8 (L10_o2 H0))) (L5_r6 (L4_o8 (L10_o2 H0))) ?_
  refine V_iload_n (pc := 43) 1 dX11_splices_43 rfl rfl ?_
  obtain ⟨b12, h⟩ := ite_o h
  refine V_iald (pc := 44) dX11_splices_44 (L5_s6 (L4_o8 (L10_o2 H0))) (inB_vp b12) ?_
  refine V_istore_n (pc := 45) (lv1 := [(3, _), (0, _), (1, _), (2, _)]) dX11_splices_45 rfl (by decide) rfl ?_
  refine V_aload_n (pc := 46) 1 dX11_splices_46 rfl rfl ?_
  refine V_getR (pc := 47) (c := 10) (k := 6) dX11_splices_47 (by decide) (by decide) kw360 rfl rfl (L10_0 H0) (L10_r6 H0) ?_
  refine V_iconst (pc := 50) (x := 0) dX11_splices_50 (by decide) ?_
  refine V_iload_n (pc := 51) 2 dX11_splices_51 rfl rfl ?_
  refine V_iload_n (pc := 52) 0 dX11_splices_52 rfl rfl ?_
  obtain ⟨x14, h13, h⟩ := bnd h
  refine V_cV3 (pc := 53) dX11_splices_53 kw1128 calX0_keep kw1129 kw1130 (L0_0 (L10_o6 H0)) rfl (by decide) (Nat.le_of_ble_eq_true rfl) (ctX0_keep (L10_o6 H0) h13) ?_
  refine V_aload_n (pc := 56) 1 dX11_splices_56 rfl rfl ?_
  refine V_getR (pc := 57) (c := 10) (k := 2) dX11_splices_57 (by decide) (by decide) kw356 rfl rfl (L10_0 H0) (L10_r2 H0) ?_
  refine V_getR (pc := 60) (c := 4) (k := 8) dX11_splices_60 (by decide) (by decide) kw244 rfl rfl (L4_0 (L10_o2 H0)) (L4_r8 (L10_o2 H0)) ?_
  refine V_getR (pc := 63) (c := 5) (k := 6) dX11_splices_63 (by decide) (by decide) kw163 rfl rfl (L5_0 (L4_o8 (L10_o2 H0))) (L5_r6 (L4_o8 (L10_o2 H0))) ?_
  refine V_iload_n (pc := 66) 2 dX11_splices_66 rfl rfl ?_
  refine V_iload_n (pc := 67) 3 dX11_splices_67 rfl rfl ?_
  refine V_iconst (pc := 68) (x := (-1)) dX11_splices_68 (by decide) ?_
  refine V_icmp_ne (pc := 69) (tgt := 77) dX11_splices_69 (by decide) (fun c15 => ?_) (fun c15 => ?_)
  · have h := ite_n c15 h
    refine V_iload_n (pc := 77) 3 dX11_splices_77 rfl rfl ?_
    obtain ⟨b16, h⟩ := ite_o h
    refine V_iast (pc := 78) dX11_splices_78 (L5_s6 (L4_o8 (L10_o2 H0))) (inB_vp b16) ?_
    refine V_aload_n (pc := 79) 1 dX11_splices_79 rfl rfl ?_
    refine V_iload_n (pc := 80) 0 dX11_splices_80 rfl rfl ?_
    refine V_cV1 (pc := 81) dX11_splices_81 kw720 calX11_answer kw722 ks29 (L10_0 H0) rfl (by decide) (Nat.le_of_ble_eq_true rfl) (ctX11_answer H0) ?_
    cases h
    exact V_ret (pc := 84) dX11_splices_84 ⟨rfl, _, rfl⟩ ⟨rfl, rfl, rfl⟩
  · have h := ite_p c15 h
    refine V_bipush (pc := 72) (x := (-2)) dX11_splices_72 (by decide) ?_
    refine V_goto (pc := 74) (tgt := 78) dX11_splices_74 (by decide) ?_
    obtain ⟨b19, h⟩ := ite_o h
    refine V_iast (pc := 78) dX11_splices_78 (L5_s6 (L4_o8 (L10_o2 H0))) (inB_vp b19) ?_
    refine V_aload_n (pc := 79) 1 dX11_splices_79 rfl rfl ?_
    refine V_iload_n (pc := 80) 0 dX11_splices_80 rfl rfl ?_
    refine V_cV1 (pc := 81) dX11_splices_81 kw720 calX11_answer kw722 ks29 (L10_0 H0) rfl (by decide) (Nat.le_of_ble_eq_true rfl) (ctX11_answer H0) ?_
    cases h
    exact V_ret (pc := 84) dX11_splices_84 ⟨rfl, _, rfl⟩ ⟨rfl, rfl, rfl⟩
theorem calX11_splices : Cal yX11_splices cX11_splices 4 (some .int) 2 := ⟨kw1127, kw1, by decide +kernel⟩
theorem ctX11_splices {G : Gl} {σ : Sg} {d : Dt} {r0 : Nat} {r0h : Nat} {r0p : Nat} {v1 : Int32} {v2 : Int32} {rr : Int32 × Dt} (H0 : L10 σ r0 r0h r0p) (h : mX11_splices r0 r0h r0p v1 v2 d = some rr) : CTv G yX11_splices cX11_splices 4 (some .int) 2 [.ref (gB G + r0), .int v1, .int v2] σ d [.int rr.1] rr.2 := by
  refine CT_of pn_RX11 (Nat.le_of_ble_eq_true rfl) ?_
  rw [mX11_splices] at h
  refine V_aload_n (pc := 0) 0 dX11_splices_0 rfl rfl ?_
  refine V_iload_n (pc := 1) 1 dX11_splices_1 rfl rfl ?_
  refine V_cV1 (pc := 2) dX11_splices_2 kw859 calX11_isNet kw861 ks36 (L10_0 H0) rfl (by decide) (Nat.le_of_ble_eq_true rfl) (ctX11_isNet H0) ?_
  refine V_ifB_ne (pc := 5) (tgt := 14) dX11_splices_5 (by decide) (fun c3 => ?_) (fun c3 => ?_)
  · have h := ite_p c3 h
    refine V_iload_n (pc := 14) 2 dX11_splices_14 rfl rfl ?_
    refine V_iconst (pc := 15) (x := (-1)) dX11_splices_15 (by decide) ?_
    refine V_icmp_eq (pc := 16) (tgt := 33) dX11_splices_16 (by decide) (fun c4 => ?_) (fun c4 => ?_)
    · have h := ite_p c4 h
      exact V_sub [0, 1, 2] rfl (wX11_splices_33 H0 h)
    · have h := ite_n c4 h
      refine V_aload_n (pc := 19) 0 dX11_splices_19 rfl rfl ?_
      refine V_iload_n (pc := 20) 2 dX11_splices_20 rfl rfl ?_
      refine V_cV1 (pc := 21) dX11_splices_21 kw745 calX11_isNode kw747 ks30 (L10_0 H0) rfl (by decide) (Nat.le_of_ble_eq_true rfl) (ctX11_isNode H0) ?_
      refine V_ifB_ne (pc := 24) (tgt := 33) dX11_splices_24 (by decide) (fun c7 => ?_) (fun c7 => ?_)
      · have h := ite_p c7 h
        exact V_sub [0, 1, 2] rfl (wX11_splices_33 H0 h)
      · have h := ite_f c7 h
        refine V_aload_n (pc := 27) 0 dX11_splices_27 rfl rfl ?_
        refine V_iconst (pc := 28) (x := 2) dX11_splices_28 (by decide) ?_
        refine V_cV1 (pc := 29) dX11_splices_29 kw403 calX11_refuse kw405 ks1 (L10_0 H0) rfl (by decide) (Nat.le_of_ble_eq_true rfl) (ctX11_refuse H0) ?_
        cases h
        exact V_ret (pc := 32) dX11_splices_32 ⟨rfl, _, rfl⟩ ⟨rfl, rfl, rfl⟩
  · have h := ite_f c3 h
    refine V_aload_n (pc := 8) 0 dX11_splices_8 rfl rfl ?_
    refine V_iconst (pc := 9) (x := 1) dX11_splices_9 (by decide) ?_
    refine V_cV1 (pc := 10) dX11_splices_10 kw403 calX11_refuse kw405 ks1 (L10_0 H0) rfl (by decide) (Nat.le_of_ble_eq_true rfl) (ctX11_refuse H0) ?_
    cases h
    exact V_ret (pc := 13) dX11_splices_13 ⟨rfl, _, rfl⟩ ⟨rfl, rfl, rfl⟩
theorem calX9_setLength : Cal yX9_setLength cX9_setLength 3 none 2 := ⟨kw1143, kw3, by decide +kernel⟩
theorem ctX9_setLength {G : Gl} {σ : Sg} {d : Dt} {r0 : Nat} {v1 : Int32} {v2 : Int32} {rr : Dt} (H0 : L9 σ r0) (h : mX9_setLength r0 v1 v2 d = some rr) : CTv G yX9_setLength cX9_setLength 3 none 2 [.ref (gB G + r0), .int v1, .int v2] σ d [] rr := by
  refine CT_of pn_RX9 (Nat.le_of_ble_eq_true rfl) ?_
  rw [mX9_setLength] at h
  refine V_aload_n (pc := 0) 0 dX9_setLength_0 rfl rfl ?_
  refine V_getR (pc := 1) (c := 9) (k := 2) dX9_setLength_1 (by decide) (by decide) kw54 rfl rfl (L9_0 H0) (L9_r2 H0) ?_
  refine V_iload_n (pc := 4) 1 dX9_setLength_4 rfl rfl ?_
  refine V_iload_n (pc := 5) 2 dX9_setLength_5 rfl rfl ?_
  obtain ⟨b1, h⟩ := ite_o h
  refine V_iast (pc := 6) dX9_setLength_6 (L9_s2 H0) (inB_vp b1) ?_
  refine V_aload_n (pc := 7) 0 dX9_setLength_7 rfl rfl ?_
  obtain ⟨x3, h2, h⟩ := bnd h
  refine V_cV0 (pc := 8) dX9_setLength_8 kw1144 calX9_measure kw709 kw710 (L9_0 H0) rfl (by decide) (Nat.le_of_ble_eq_true rfl) (ctX9_measure H0 h2) ?_
  cases h
  exact V_ret (pc := 11) dX9_setLength_11 ⟨rfl, rfl⟩ ⟨rfl, rfl, rfl⟩
theorem calX11_stretch : Cal yX11_stretch cX11_stretch 4 (some .int) 2 := ⟨kw1139, kw1, by decide +kernel⟩
theorem ctX11_stretch {G : Gl} {σ : Sg} {d : Dt} {r0 : Nat} {r0h : Nat} {r0p : Nat} {v1 : Int32} {v2 : Int32} {rr : Int32 × Dt} (H0 : L10 σ r0 r0h r0p) (h : mX11_stretch r0 r0h r0p v1 v2 d = some rr) : CTv G yX11_stretch cX11_stretch 4 (some .int) 3 [.ref (gB G + r0), .int v1, .int v2] σ d [.int rr.1] rr.2 := by
  refine CT_of pn_RX11 (Nat.le_of_ble_eq_true rfl) ?_
  rw [mX11_stretch] at h
  refine V_aload_n (pc := 0) 0 dX11_stretch_0 rfl rfl ?_
  refine V_iload_n (pc := 1) 1 dX11_stretch_1 rfl rfl ?_
  refine V_cV1 (pc := 2) dX11_stretch_2 kw777 calX11_isBundle kw779 ks32 (L10_0 H0) rfl (by decide) (Nat.le_of_ble_eq_true rfl) (ctX11_isBundle H0) ?_
  refine V_ifB_ne (pc := 5) (tgt := 14) dX11_stretch_5 (by decide) (fun c3 => ?_) (fun c3 => ?_)
  · have h := ite_p c3 h
    refine V_iload_n (pc := 14) 2 dX11_stretch_14 rfl rfl ?_
    refine V_iconst (pc := 15) (x := 1) dX11_stretch_15 (by decide) ?_
    refine V_icmp_lt (pc := 16) (tgt := 26) dX11_stretch_16 (by decide) (fun c4 => ?_) (fun c4 => ?_)
    · have h := ite_p c4 h
      refine V_aload_n (pc := 26) 0 dX11_stretch_26 rfl rfl ?_
      refine V_iconst (pc := 27) (x := 2) dX11_stretch_27 (by decide) ?_
      refine V_cV1 (pc := 28) dX11_stretch_28 kw403 calX11_refuse kw405 ks1 (L10_0 H0) rfl (by decide) (Nat.le_of_ble_eq_true rfl) (ctX11_refuse H0) ?_
      cases h
      exact V_ret (pc := 31) dX11_stretch_31 ⟨rfl, _, rfl⟩ ⟨rfl, rfl, rfl⟩
    · have h := ite_n c4 h
      refine V_iload_n (pc := 19) 2 dX11_stretch_19 rfl rfl ?_
      refine V_sipush (pc := 20) (x := 999) dX11_stretch_20 (by decide) ?_
      refine V_icmp_le (pc := 23) (tgt := 32) dX11_stretch_23 (by decide) (fun c7 => ?_) (fun c7 => ?_)
      · have h := ite_p c7 h
        refine V_aload_n (pc := 32) 0 dX11_stretch_32 rfl rfl ?_
        refine V_getR (pc := 33) (c := 10) (k := 2) dX11_stretch_33 (by decide) (by decide) kw356 rfl rfl (L10_0 H0) (L10_r2 H0) ?_
        refine V_getR (pc := 36) (c := 4) (k := 6) dX11_stretch_36 (by decide) (by decide) kw233 rfl rfl (L4_0 (L10_o2 H0)) (L4_r6 (L10_o2 H0)) ?_
        refine V_getR (pc := 39) (c := 9) (k := 2) dX11_stretch_39 (by decide) (by decide) kw55 rfl rfl (L9_0 (L4_o6 (L10_o2 H0))) (L9_r2 (L4_o6 (L10_o2 H0))) ?_
        refine V_iload_n (pc := 42) 1 dX11_stretch_42 rfl rfl ?_
        obtain ⟨b8, h⟩ := ite_o h
        refine V_iald (pc := 43) dX11_stretch_43 (L9_s2 (L4_o6 (L10_o2 H0))) (inB_vp b8) ?_
        refine V_istore_n (pc := 44) (lv1 := [(3, _), (0, _), (1, _), (2, _)]) dX11_stretch_44 rfl (by decide) rfl ?_
        refine V_aload_n (pc := 45) 1 dX11_stretch_45 rfl rfl ?_
        refine V_getR (pc := 46) (c := 10) (k := 6) dX11_stretch_46 (by decide) (by decide) kw360 rfl rfl (L10_0 H0) (L10_r6 H0) ?_
        refine V_iconst (pc := 49) (x := 1) dX11_stretch_49 (by decide) ?_
        refine V_iload_n (pc := 50) 2 dX11_stretch_50 rfl rfl ?_
        refine V_iload_n (pc := 51) 0 dX11_stretch_51 rfl rfl ?_
        obtain ⟨x10, h9, h⟩ := bnd h
        refine V_cV3 (pc := 52) dX11_stretch_52 kw1128 calX0_keep kw1129 kw1130 (L0_0 (L10_o6 H0)) rfl (by decide) (Nat.le_of_ble_eq_true rfl) (ctX0_keep (L10_o6 H0) h9) ?_
        refine V_aload_n (pc := 55) 1 dX11_stretch_55 rfl rfl ?_
        refine V_getR (pc := 56) (c := 10) (k := 2) dX11_stretch_56 (by decide) (by decide) kw356 rfl rfl (L10_0 H0) (L10_r2 H0) ?_
        refine V_getR (pc := 59) (c := 4) (k := 6) dX11_stretch_59 (by decide) (by decide) kw233 rfl rfl (L4_0 (L10_o2 H0)) (L4_r6 (L10_o2 H0)) ?_
        refine V_iload_n (pc := 62) 2 dX11_stretch_62 rfl rfl ?_
        refine V_iload_n (pc := 63) 3 dX11_stretch_63 rfl rfl ?_
        obtain ⟨x12, h11, h⟩ := bnd h
        refine V_cV2 (pc := 64) dX11_stretch_64 kw1140 calX9_setLength kw1141 kw1142 (L9_0 (L4_o6 (L10_o2 H0))) rfl (by decide) (Nat.le_of_ble_eq_true rfl) (ctX9_setLength (L4_o6 (L10_o2 H0)) h11) ?_
        refine V_aload_n (pc := 67) 1 dX11_stretch_67 rfl rfl ?_
        refine V_iload_n (pc := 68) 0 dX11_stretch_68 rfl rfl ?_
        refine V_cV1 (pc := 69) dX11_stretch_69 kw720 calX11_answer kw722 ks29 (L10_0 H0) rfl (by decide) (Nat.le_of_ble_eq_true rfl) (ctX11_answer H0) ?_
        cases h
        exact V_ret (pc := 72) dX11_stretch_72 ⟨rfl, _, rfl⟩ ⟨rfl, rfl, rfl⟩
      · have h := ite_n c7 h
        refine V_aload_n (pc := 26) 0 dX11_stretch_26 rfl rfl ?_
        refine V_iconst (pc := 27) (x := 2) dX11_stretch_27 (by decide) ?_
        refine V_cV1 (pc := 28) dX11_stretch_28 kw403 calX11_refuse kw405 ks1 (L10_0 H0) rfl (by decide) (Nat.le_of_ble_eq_true rfl) (ctX11_refuse H0) ?_
        cases h
        exact V_ret (pc := 31) dX11_stretch_31 ⟨rfl, _, rfl⟩ ⟨rfl, rfl, rfl⟩
  · have h := ite_f c3 h
    refine V_aload_n (pc := 8) 0 dX11_stretch_8 rfl rfl ?_
    refine V_iconst (pc := 9) (x := 1) dX11_stretch_9 (by decide) ?_
    refine V_cV1 (pc := 10) dX11_stretch_10 kw403 calX11_refuse kw405 ks1 (L10_0 H0) rfl (by decide) (Nat.le_of_ble_eq_true rfl) (ctX11_refuse H0) ?_
    cases h
    exact V_ret (pc := 13) dX11_stretch_13 ⟨rfl, _, rfl⟩ ⟨rfl, rfl, rfl⟩
theorem wX10_thickestOf_8 {G : Gl} {σ : Sg} {d : Dt} {r0 : Nat} {v1 : Int32} {rr : Int32} (H0 : L4 σ r0) : ∀ (n : Nat) (v2 : Int32) (v3 : Int32) (v4 : Int32), mX10_thickestOf_8 d r0 v1 n v2 v3 v4 = some rr → V G yX10_thickestOf cX10_thickestOf 6 (some .int) 5 0 0 (PH [.int rr] σ d) 8 [(0, .ref (gB G + r0)), (1, .int v1), (2, .int v2), (3, .int v3), (4, .int v4)] [] σ d := by
  intro n
  induction n with
  | zero =>
    intro v2 v3 v4
    intros
    rename_i h
    exact absurd h (by rw [mX10_thickestOf_8]; exact fun q => nomatch q)
  | succ n ih =>
    intro v2 v3 v4 h
    rw [mX10_thickestOf_8] at h
    refine V_iload (pc := 8) 4 dX10_thickestOf_8 rfl ?_
    refine V_aload_n (pc := 10) 0 dX10_thickestOf_10 rfl rfl ?_
    refine V_getR (pc := 11) (c := 4) (k := 6) dX10_thickestOf_11 (by decide) (by decide) kw234 rfl rfl (L4_0 H0) (L4_r6 H0) ?_
    refine V_getI (pc := 14) (c := 9) (k := 0) dX10_thickestOf_14 (by decide) (by decide) kw50 rfl rfl (L9_0 (L4_o6 H0)) ?_
    refine V_icmp_ge (pc := 17) (tgt := 47) dX10_thickestOf_17 (by decide) (fun c1 => ?_) (fun c1 => ?_)
    · have h := ite_p c1 h
      refine V_iload_n (pc := 47) 2 dX10_thickestOf_47 rfl rfl ?_
      cases h
      exact V_ret (pc := 48) dX10_thickestOf_48 ⟨rfl, _, rfl⟩ ⟨rfl, rfl, rfl⟩
    · have h := ite_n c1 h
      refine V_aload_n (pc := 20) 0 dX10_thickestOf_20 rfl rfl ?_
      refine V_iload_n (pc := 21) 1 dX10_thickestOf_21 rfl rfl ?_
      refine V_iload (pc := 22) 4 dX10_thickestOf_22 rfl ?_
      obtain ⟨x3, h2, h⟩ := bnd h
      refine V_cS3 (pc := 24) dX10_thickestOf_24 kw977 calX10_bodyThrough kw965 (by decide) (Nat.le_of_ble_eq_true rfl) (ctX10_bodyThrough H0 h2) ?_
      refine V_istore (pc := 27) (lv1 := [(5, _), (0, _), (1, _), (2, _), (3, _), (4, _)]) dX10_thickestOf_27 (by decide) rfl ?_
      refine V_iload (pc := 29) 0 dX10_thickestOf_29 rfl ?_
      refine V_iload_n (pc := 31) 4 dX10_thickestOf_31 rfl rfl ?_
      refine V_icmp_le (pc := 32) (tgt := 41) dX10_thickestOf_32 (by decide) (fun c4 => ?_) (fun c4 => ?_)
      · have h := ite_p c4 h
        refine V_iinc (pc := 41) (lv1 := [(4, _), (5, _), (0, _), (1, _), (2, _), (3, _)]) (z := _ + (1 : Int32)) 5 dX10_thickestOf_41 rfl rfl (by decide) rfl ?_
        refine V_goto (pc := 44) (tgt := 8) dX10_thickestOf_44 (by decide) ?_
        exact V_sub [2, 3, 4, 5, 0] rfl (ih v2 v3 (v4 + (1 : Int32)) h)
      · have h := ite_n c4 h
        refine V_iload (pc := 35) 0 dX10_thickestOf_35 rfl ?_
        refine V_istore_n (pc := 37) (lv1 := [(3, _), (5, _), (0, _), (1, _), (2, _), (4, _)]) dX10_thickestOf_37 rfl (by decide) rfl ?_
        refine V_iload (pc := 38) 5 dX10_thickestOf_38 rfl ?_
        refine V_istore_n (pc := 40) (lv1 := [(2, _), (3, _), (5, _), (0, _), (1, _), (4, _)]) dX10_thickestOf_40 rfl (by decide) rfl ?_
        refine V_iinc (pc := 41) (lv1 := [(4, _), (2, _), (3, _), (5, _), (0, _), (1, _)]) (z := _ + (1 : Int32)) 5 dX10_thickestOf_41 rfl rfl (by decide) rfl ?_
        refine V_goto (pc := 44) (tgt := 8) dX10_thickestOf_44 (by decide) ?_
        exact V_sub [4, 5, 1, 2, 0] rfl (ih v4 x3 (v4 + (1 : Int32)) h)
theorem calX10_thickestOf : Cal yX10_thickestOf cX10_thickestOf 6 (some .int) 2 := ⟨kw976, kw18, by decide +kernel⟩
theorem ctX10_thickestOf {G : Gl} {σ : Sg} {d : Dt} {r0 : Nat} {v1 : Int32} {rr : Int32} (H0 : L4 σ r0) (h : mX10_thickestOf r0 v1 d = some rr) : CTv G yX10_thickestOf cX10_thickestOf 6 (some .int) 5 [.ref (gB G + r0), .int v1] σ d [.int rr] d := by
  refine CT_of pn_RX10 (Nat.le_of_ble_eq_true rfl) ?_
  rw [mX10_thickestOf] at h
  refine V_bipush (pc := 0) (x := (-2)) dX10_thickestOf_0 (by decide) ?_
  refine V_istore_n (pc := 2) (lv1 := [(2, _), (0, _), (1, _)]) dX10_thickestOf_2 rfl (by decide) rfl ?_
  refine V_iconst (pc := 3) (x := (-1)) dX10_thickestOf_3 (by decide) ?_
  refine V_istore_n (pc := 4) (lv1 := [(3, _), (2, _), (0, _), (1, _)]) dX10_thickestOf_4 rfl (by decide) rfl ?_
  refine V_iconst (pc := 5) (x := 1) dX10_thickestOf_5 (by decide) ?_
  refine V_istore (pc := 6) (lv1 := [(4, _), (3, _), (2, _), (0, _), (1, _)]) dX10_thickestOf_6 (by decide) rfl ?_
  exact V_sub [3, 4, 2, 1, 0] rfl (wX10_thickestOf_8 H0 FUEL (-2 : Int32) (-1 : Int32) (1 : Int32) h)
theorem calX11_thickest : Cal yX11_thickest cX11_thickest 3 (some .int) 1 := ⟨kw973, kw1, by decide +kernel⟩
theorem ctX11_thickest {G : Gl} {σ : Sg} {d : Dt} {r0 : Nat} {r0h : Nat} {r0p : Nat} {v1 : Int32} {rr : Int32 × Dt} (H0 : L10 σ r0 r0h r0p) (h : mX11_thickest r0 r0h r0p v1 d = some rr) : CTv G yX11_thickest cX11_thickest 3 (some .int) 6 [.ref (gB G + r0), .int v1] σ d [.int rr.1] rr.2 := by
  refine CT_of pn_RX11 (Nat.le_of_ble_eq_true rfl) ?_
  rw [mX11_thickest] at h
  refine V_aload_n (pc := 0) 0 dX11_thickest_0 rfl rfl ?_
  refine V_aload_n (pc := 1) 0 dX11_thickest_1 rfl rfl ?_
  refine V_getI (pc := 2) (c := 10) (k := 4) dX11_thickest_2 (by decide) (by decide) kw358 rfl rfl (L10_0 H0) ?_
  refine V_iload_n (pc := 5) 1 dX11_thickest_5 rfl rfl ?_
  refine V_cV2 (pc := 6) dX11_thickest_6 kw875 calX11_troubleOf kw877 ks38 (L10_0 H0) rfl (by decide) (Nat.le_of_ble_eq_true rfl) (ctX11_troubleOf H0) ?_
  refine V_istore_n (pc := 9) (lv1 := [(2, _), (0, _), (1, _)]) dX11_thickest_9 rfl (by decide) rfl ?_
  refine V_iload_n (pc := 10) 0 dX11_thickest_10 rfl rfl ?_
  refine V_if_eq (pc := 11) (tgt := 22) dX11_thickest_11 (by decide) (fun c3 => ?_) (fun c3 => ?_)
  · have h := ite_p c3 h
    refine V_aload_n (pc := 22) 1 dX11_thickest_22 rfl rfl ?_
    refine V_aload_n (pc := 23) 1 dX11_thickest_23 rfl rfl ?_
    refine V_getR (pc := 24) (c := 10) (k := 2) dX11_thickest_24 (by decide) (by decide) kw356 rfl rfl (L10_0 H0) (L10_r2 H0) ?_
    refine V_iload_n (pc := 27) 2 dX11_thickest_27 rfl rfl ?_
    obtain ⟨x5, h4, h⟩ := bnd h
    refine V_cS2 (pc := 28) dX11_thickest_28 kw974 calX10_thickestOf kw975 (by decide) (Nat.le_of_ble_eq_true rfl) (ctX10_thickestOf (L10_o2 H0) h4) ?_
    refine V_cV1 (pc := 31) dX11_thickest_31 kw720 calX11_answer kw722 ks29 (L10_0 H0) rfl (by decide) (Nat.le_of_ble_eq_true rfl) (ctX11_answer H0) ?_
    cases h
    exact V_ret (pc := 34) dX11_thickest_34 ⟨rfl, _, rfl⟩ ⟨rfl, rfl, rfl⟩
  · have h := ite_n c3 h
    refine V_aload_n (pc := 14) 1 dX11_thickest_14 rfl rfl ?_
    refine V_iload_n (pc := 15) 0 dX11_thickest_15 rfl rfl ?_
    refine V_cV1 (pc := 16) dX11_thickest_16 kw403 calX11_refuse kw405 ks1 (L10_0 H0) rfl (by decide) (Nat.le_of_ble_eq_true rfl) (ctX11_refuse H0) ?_
    refine V_goto (pc := 19) (tgt := 34) dX11_thickest_19 (by decide) ?_
    cases h
    exact V_ret (pc := 34) dX11_thickest_34 ⟨rfl, _, rfl⟩ ⟨rfl, rfl, rfl⟩
theorem wX10_netsThrough_5 {G : Gl} {σ : Sg} {d : Dt} {r0 : Nat} {v1 : Int32} {v2 : Int32} {rr : Int32} (H0 : L4 σ r0) : ∀ (n : Nat) (v3 : Int32) (v4 : Int32), mX10_netsThrough_5 d r0 v1 v2 n v3 v4 = some rr → V G yX10_netsThrough cX10_netsThrough 5 (some .int) 4 0 0 (PH [.int rr] σ d) 5 [(0, .ref (gB G + r0)), (1, .int v1), (2, .int v2), (3, .int v3), (4, .int v4)] [] σ d := by
  intro n
  induction n with
  | zero =>
    intro v3 v4
    intros
    rename_i h
    exact absurd h (by rw [mX10_netsThrough_5]; exact fun q => nomatch q)
  | succ n ih =>
    intro v3 v4 h
    rw [mX10_netsThrough_5] at h
    refine V_iload (pc := 5) 4 dX10_netsThrough_5 rfl ?_
    refine V_aload_n (pc := 7) 0 dX10_netsThrough_7 rfl rfl ?_
    refine V_getR (pc := 8) (c := 4) (k := 8) dX10_netsThrough_8 (by decide) (by decide) kw245 rfl rfl (L4_0 H0) (L4_r8 H0) ?_
    refine V_getI (pc := 11) (c := 5) (k := 0) dX10_netsThrough_11 (by decide) (by decide) kw143 rfl rfl (L5_0 (L4_o8 H0)) ?_
    refine V_icmp_ge (pc := 14) (tgt := 41) dX10_netsThrough_14 (by decide) (fun c1 => ?_) (fun c1 => ?_)
    · have h := ite_p c1 h
      refine V_iload_n (pc := 41) 3 dX10_netsThrough_41 rfl rfl ?_
      cases h
      exact V_ret (pc := 42) dX10_netsThrough_42 ⟨rfl, _, rfl⟩ ⟨rfl, rfl, rfl⟩
    · have h := ite_n c1 h
      refine V_aload_n (pc := 17) 0 dX10_netsThrough_17 rfl rfl ?_
      refine V_iload_n (pc := 18) 1 dX10_netsThrough_18 rfl rfl ?_
      refine V_iload (pc := 19) 4 dX10_netsThrough_19 rfl ?_
      refine V_iload_n (pc := 21) 2 dX10_netsThrough_21 rfl rfl ?_
      obtain ⟨x3, h2, h⟩ := bnd h
      refine V_cS4 (pc := 22) dX10_netsThrough_22 kw957 calX10_runsThrough kw958 (by decide) (Nat.le_of_ble_eq_true rfl) (ctX10_runsThrough H0 h2) ?_
      refine V_if_le (pc := 25) (tgt := 35) dX10_netsThrough_25 (by decide) (fun c4 => ?_) (fun c4 => ?_)
      · have h := ite_p c4 h
        refine V_iinc (pc := 35) (lv1 := [(4, _), (0, _), (1, _), (2, _), (3, _)]) (z := _ + (1 : Int32)) 4 dX10_netsThrough_35 rfl rfl (by decide) rfl ?_
        refine V_goto (pc := 38) (tgt := 5) dX10_netsThrough_38 (by decide) ?_
        exact V_sub [1, 2, 3, 4, 0] rfl (ih v3 (v4 + (1 : Int32)) h)
      · have h := ite_n c4 h
        refine V_iload_n (pc := 28) 3 dX10_netsThrough_28 rfl rfl ?_
        refine V_iconst (pc := 29) (x := 1) dX10_netsThrough_29 (by decide) ?_
        refine V_iload (pc := 30) 4 dX10_netsThrough_30 rfl ?_
        refine V_ishl (pc := 32) dX10_netsThrough_32 ?_
        refine V_ior (pc := 33) dX10_netsThrough_33 ?_
        refine V_istore_n (pc := 34) (lv1 := [(3, _), (0, _), (1, _), (2, _), (4, _)]) dX10_netsThrough_34 rfl (by decide) rfl ?_
        refine V_iinc (pc := 35) (lv1 := [(4, _), (3, _), (0, _), (1, _), (2, _)]) (z := _ + (1 : Int32)) 4 dX10_netsThrough_35 rfl rfl (by decide) rfl ?_
        refine V_goto (pc := 38) (tgt := 5) dX10_netsThrough_38 (by decide) ?_
        exact V_sub [2, 3, 4, 1, 0] rfl (ih (v3 ||| ((1 : Int32) <<< (v4 &&& 31))) (v4 + (1 : Int32)) h)
theorem calX10_netsThrough : Cal yX10_netsThrough cX10_netsThrough 5 (some .int) 3 := ⟨kw984, kw18, by decide +kernel⟩
theorem ctX10_netsThrough {G : Gl} {σ : Sg} {d : Dt} {r0 : Nat} {v1 : Int32} {v2 : Int32} {rr : Int32} (H0 : L4 σ r0) (h : mX10_netsThrough r0 v1 v2 d = some rr) : CTv G yX10_netsThrough cX10_netsThrough 5 (some .int) 4 [.ref (gB G + r0), .int v1, .int v2] σ d [.int rr] d := by
  refine CT_of pn_RX10 (Nat.le_of_ble_eq_true rfl) ?_
  rw [mX10_netsThrough] at h
  refine V_iconst (pc := 0) (x := 0) dX10_netsThrough_0 (by decide) ?_
  refine V_istore_n (pc := 1) (lv1 := [(3, _), (0, _), (1, _), (2, _)]) dX10_netsThrough_1 rfl (by decide) rfl ?_
  refine V_iconst (pc := 2) (x := 0) dX10_netsThrough_2 (by decide) ?_
  refine V_istore (pc := 3) (lv1 := [(4, _), (3, _), (0, _), (1, _), (2, _)]) dX10_netsThrough_3 (by decide) rfl ?_
  exact V_sub [2, 3, 4, 1, 0] rfl (wX10_netsThrough_5 H0 FUEL (0 : Int32) (0 : Int32) h)
theorem calX11_through : Cal yX11_through cX11_through 4 (some .int) 2 := ⟨kw981, kw1, by decide +kernel⟩
theorem ctX11_through {G : Gl} {σ : Sg} {d : Dt} {r0 : Nat} {r0h : Nat} {r0p : Nat} {v1 : Int32} {v2 : Int32} {rr : Int32 × Dt} (H0 : L10 σ r0 r0h r0p) (h : mX11_through r0 r0h r0p v1 v2 d = some rr) : CTv G yX11_through cX11_through 4 (some .int) 5 [.ref (gB G + r0), .int v1, .int v2] σ d [.int rr.1] rr.2 := by
  refine CT_of pn_RX11 (Nat.le_of_ble_eq_true rfl) ?_
  rw [mX11_through] at h
  refine V_aload_n (pc := 0) 0 dX11_through_0 rfl rfl ?_
  refine V_aload_n (pc := 1) 0 dX11_through_1 rfl rfl ?_
  refine V_iload_n (pc := 2) 2 dX11_through_2 rfl rfl ?_
  refine V_cV1 (pc := 3) dX11_through_3 kw777 calX11_isBundle kw779 ks32 (L10_0 H0) rfl (by decide) (Nat.le_of_ble_eq_true rfl) (ctX11_isBundle H0) ?_
  refine V_iload_n (pc := 6) 1 dX11_through_6 rfl rfl ?_
  refine V_cV2 (pc := 7) dX11_through_7 kw875 calX11_troubleOf kw877 ks38 (L10_0 H0) rfl (by decide) (Nat.le_of_ble_eq_true rfl) (ctX11_troubleOf H0) ?_
  refine V_istore_n (pc := 10) (lv1 := [(3, _), (0, _), (1, _), (2, _)]) dX11_through_10 rfl (by decide) rfl ?_
  refine V_iload_n (pc := 11) 0 dX11_through_11 rfl rfl ?_
  refine V_if_eq (pc := 12) (tgt := 23) dX11_through_12 (by decide) (fun c5 => ?_) (fun c5 => ?_)
  · have h := ite_p c5 h
    refine V_aload_n (pc := 23) 1 dX11_through_23 rfl rfl ?_
    refine V_aload_n (pc := 24) 1 dX11_through_24 rfl rfl ?_
    refine V_getR (pc := 25) (c := 10) (k := 2) dX11_through_25 (by decide) (by decide) kw356 rfl rfl (L10_0 H0) (L10_r2 H0) ?_
    refine V_iload_n (pc := 28) 2 dX11_through_28 rfl rfl ?_
    refine V_iload_n (pc := 29) 3 dX11_through_29 rfl rfl ?_
    obtain ⟨x7, h6, h⟩ := bnd h
    refine V_cS3 (pc := 30) dX11_through_30 kw982 calX10_netsThrough kw983 (by decide) (Nat.le_of_ble_eq_true rfl) (ctX10_netsThrough (L10_o2 H0) h6) ?_
    refine V_cV1 (pc := 33) dX11_through_33 kw720 calX11_answer kw722 ks29 (L10_0 H0) rfl (by decide) (Nat.le_of_ble_eq_true rfl) (ctX11_answer H0) ?_
    cases h
    exact V_ret (pc := 36) dX11_through_36 ⟨rfl, _, rfl⟩ ⟨rfl, rfl, rfl⟩
  · have h := ite_n c5 h
    refine V_aload_n (pc := 15) 1 dX11_through_15 rfl rfl ?_
    refine V_iload_n (pc := 16) 0 dX11_through_16 rfl rfl ?_
    refine V_cV1 (pc := 17) dX11_through_17 kw403 calX11_refuse kw405 ks1 (L10_0 H0) rfl (by decide) (Nat.le_of_ble_eq_true rfl) (ctX11_refuse H0) ?_
    refine V_goto (pc := 20) (tgt := 36) dX11_through_20 (by decide) ?_
    cases h
    exact V_ret (pc := 36) dX11_through_36 ⟨rfl, _, rfl⟩ ⟨rfl, rfl, rfl⟩
theorem wX10_lengthOfGauge_35 {G : Gl} {σ : Sg} {d : Dt} {g5 : Int32 → Int32 → Option Int32} {r0 : Nat} {v1 : Int32} {v2 : Int32} {v3 : Int32} {v4 : Int32} {rr : Int32} (H0 : L4 σ r0) (hg5 : ∀ (v3 : Int32) (v4 : Int32), g5 v3 v4 = some rr → V G yX10_lengthOfGauge cX10_lengthOfGauge 5 (some .int) 4 0 0 (PH [.int rr] σ d) 5 [(0, .ref (gB G + r0)), (1, .int v1), (2, .int v2), (3, .int v3), (4, .int v4)] [] σ d) (h : mX10_lengthOfGauge_35 g5 d r0 v1 v2 v3 v4 = some rr) : V G yX10_lengthOfGauge cX10_lengthOfGauge 5 (some .int) 4 0 0 (PH [.int rr] σ d) 35 [(0, .ref (gB G + r0)), (1, .int v1), (2, .int v2), (3, .int v3), (4, .int v4)] [] σ d := by
  rw [mX10_lengthOfGauge_35] at h
  refine V_iload_n (pc := 35) 3 dX10_lengthOfGauge_35 rfl rfl ?_
  refine V_aload_n (pc := 36) 0 dX10_lengthOfGauge_36 rfl rfl ?_
  refine V_iload (pc := 37) 4 dX10_lengthOfGauge_37 rfl ?_
  refine V_aload_n (pc := 39) 0 dX10_lengthOfGauge_39 rfl rfl ?_
  refine V_iload_n (pc := 40) 1 dX10_lengthOfGauge_40 rfl rfl ?_
  refine V_iload (pc := 41) 4 dX10_lengthOfGauge_41 rfl ?_
  obtain ⟨x6, h5, h⟩ := bnd h
  refine V_cS3 (pc := 43) dX10_lengthOfGauge_43 kw946 calX10_pinsThere kw891 (by decide) (Nat.le_of_ble_eq_true rfl) (ctX10_pinsThere H0 h5) ?_
  obtain ⟨x8, h7, h⟩ := bnd h
  refine V_cS3 (pc := 46) dX10_lengthOfGauge_46 kw947 calX10_lengthOf kw948 (by decide) (Nat.le_of_ble_eq_true rfl) (ctX10_lengthOf H0 h7) ?_
  refine V_iadd (pc := 49) dX10_lengthOfGauge_49 ?_
  refine V_istore_n (pc := 50) (lv1 := [(3, _), (0, _), (1, _), (2, _), (4, _)]) dX10_lengthOfGauge_50 rfl (by decide) rfl ?_
  refine V_iinc (pc := 51) (lv1 := [(4, _), (3, _), (0, _), (1, _), (2, _)]) (z := _ + (1 : Int32)) 4 dX10_lengthOfGauge_51 rfl rfl (by decide) rfl ?_
  refine V_goto (pc := 54) (tgt := 5) dX10_lengthOfGauge_54 (by decide) ?_
  exact V_sub [2, 3, 4, 1, 0] rfl (hg5 (v3 + x8) (v4 + (1 : Int32)) h)
theorem wX10_lengthOfGauge_5 {G : Gl} {σ : Sg} {d : Dt} {r0 : Nat} {v1 : Int32} {v2 : Int32} {rr : Int32} (H0 : L4 σ r0) : ∀ (n : Nat) (v3 : Int32) (v4 : Int32), mX10_lengthOfGauge_5 d r0 v1 v2 n v3 v4 = some rr → V G yX10_lengthOfGauge cX10_lengthOfGauge 5 (some .int) 4 0 0 (PH [.int rr] σ d) 5 [(0, .ref (gB G + r0)), (1, .int v1), (2, .int v2), (3, .int v3), (4, .int v4)] [] σ d := by
  intro n
  induction n with
  | zero =>
    intro v3 v4
    intros
    rename_i h
    exact absurd h (by rw [mX10_lengthOfGauge_5]; exact fun q => nomatch q)
  | succ n ih =>
    intro v3 v4 h
    rw [mX10_lengthOfGauge_5] at h
    refine V_iload (pc := 5) 4 dX10_lengthOfGauge_5 rfl ?_
    refine V_aload_n (pc := 7) 0 dX10_lengthOfGauge_7 rfl rfl ?_
    refine V_getR (pc := 8) (c := 4) (k := 8) dX10_lengthOfGauge_8 (by decide) (by decide) kw245 rfl rfl (L4_0 H0) (L4_r8 H0) ?_
    refine V_getI (pc := 11) (c := 5) (k := 0) dX10_lengthOfGauge_11 (by decide) (by decide) kw143 rfl rfl (L5_0 (L4_o8 H0)) ?_
    refine V_icmp_ge (pc := 14) (tgt := 57) dX10_lengthOfGauge_14 (by decide) (fun c1 => ?_) (fun c1 => ?_)
    · have h := ite_p c1 h
      refine V_iload_n (pc := 57) 3 dX10_lengthOfGauge_57 rfl rfl ?_
      cases h
      exact V_ret (pc := 58) dX10_lengthOfGauge_58 ⟨rfl, _, rfl⟩ ⟨rfl, rfl, rfl⟩
    · have h := ite_n c1 h
      refine V_iload_n (pc := 17) 2 dX10_lengthOfGauge_17 rfl rfl ?_
      refine V_if_eq (pc := 18) (tgt := 35) dX10_lengthOfGauge_18 (by decide) (fun c2 => ?_) (fun c2 => ?_)
      · have h := ite_p c2 h
        exact V_sub [0, 1, 2, 3, 4] rfl (wX10_lengthOfGauge_35 H0 ih h)
      · have h := ite_n c2 h
        refine V_aload_n (pc := 21) 0 dX10_lengthOfGauge_21 rfl rfl ?_
        refine V_getR (pc := 22) (c := 4) (k := 8) dX10_lengthOfGauge_22 (by decide) (by decide) kw245 rfl rfl (L4_0 H0) (L4_r8 H0) ?_
        refine V_getR (pc := 25) (c := 5) (k := 2) dX10_lengthOfGauge_25 (by decide) (by decide) kw149 rfl rfl (L5_0 (L4_o8 H0)) (L5_r2 (L4_o8 H0)) ?_
        refine V_iload (pc := 28) 4 dX10_lengthOfGauge_28 rfl ?_
        obtain ⟨b3, h⟩ := ite_o h
        refine V_iald (pc := 30) dX10_lengthOfGauge_30 (L5_s2 (L4_o8 H0)) (inB_vp b3) ?_
        refine V_iload_n (pc := 31) 2 dX10_lengthOfGauge_31 rfl rfl ?_
        refine V_icmp_ne (pc := 32) (tgt := 51) dX10_lengthOfGauge_32 (by decide) (fun c4 => ?_) (fun c4 => ?_)
        · have h := ite_n c4 h
          refine V_iinc (pc := 51) (lv1 := [(4, _), (0, _), (1, _), (2, _), (3, _)]) (z := _ + (1 : Int32)) 4 dX10_lengthOfGauge_51 rfl rfl (by decide) rfl ?_
          refine V_goto (pc := 54) (tgt := 5) dX10_lengthOfGauge_54 (by decide) ?_
          exact V_sub [1, 2, 3, 4, 0] rfl (ih v3 (v4 + (1 : Int32)) h)
        · have h := ite_p c4 h
          exact V_sub [0, 1, 2, 3, 4] rfl (wX10_lengthOfGauge_35 H0 ih h)
theorem calX10_lengthOfGauge : Cal yX10_lengthOfGauge cX10_lengthOfGauge 5 (some .int) 3 := ⟨kw945, kw18, by decide +kernel⟩
theorem ctX10_lengthOfGauge {G : Gl} {σ : Sg} {d : Dt} {r0 : Nat} {v1 : Int32} {v2 : Int32} {rr : Int32} (H0 : L4 σ r0) (h : mX10_lengthOfGauge r0 v1 v2 d = some rr) : CTv G yX10_lengthOfGauge cX10_lengthOfGauge 5 (some .int) 4 [.ref (gB G + r0), .int v1, .int v2] σ d [.int rr] d := by
  refine CT_of pn_RX10 (Nat.le_of_ble_eq_true rfl) ?_
  rw [mX10_lengthOfGauge] at h
  refine V_iconst (pc := 0) (x := 0) dX10_lengthOfGauge_0 (by decide) ?_
  refine V_istore_n (pc := 1) (lv1 := [(3, _), (0, _), (1, _), (2, _)]) dX10_lengthOfGauge_1 rfl (by decide) rfl ?_
  refine V_iconst (pc := 2) (x := 0) dX10_lengthOfGauge_2 (by decide) ?_
  refine V_istore (pc := 3) (lv1 := [(4, _), (3, _), (0, _), (1, _), (2, _)]) dX10_lengthOfGauge_3 (by decide) rfl ?_
  exact V_sub [2, 3, 4, 1, 0] rfl (wX10_lengthOfGauge_5 H0 FUEL (0 : Int32) (0 : Int32) h)
theorem wX11_total_23 {G : Gl} {σ : Sg} {d : Dt} {r0 : Nat} {r0h : Nat} {r0p : Nat} {v1 : Int32} {v2 : Int32} {vs0 : Int32} {rs1 : Nat} {rs1h : Nat} {rs1p : Nat} {rr : Int32 × Dt} (H0 : L10 σ r0 r0h r0p) (Hs1 : L10 σ rs1 rs1h rs1p) (h : mX11_total_23 r0 r0h r0p v1 v2 vs0 rs1 rs1h rs1p d = some rr) : V G yX11_total cX11_total 4 (some .int) 5 0 0 (PH [.int rr.1] σ rr.2) 23 [(0, .ref (gB G + r0)), (1, .int v1), (2, .int v2)] [.int vs0, .ref (gB G + rs1)] σ d := by
  rw [mX11_total_23] at h
  refine V_iload_n (pc := 23) 1 dX11_total_23 rfl rfl ?_
  refine V_cV2 (pc := 24) dX11_total_24 kw875 calX11_troubleOf kw877 ks38 (L10_0 Hs1) rfl (by decide) (Nat.le_of_ble_eq_true rfl) (ctX11_troubleOf Hs1) ?_
  refine V_istore_n (pc := 27) (lv1 := [(3, _), (0, _), (1, _), (2, _)]) dX11_total_27 rfl (by decide) rfl ?_
  refine V_iload_n (pc := 28) 0 dX11_total_28 rfl rfl ?_
  refine V_if_eq (pc := 29) (tgt := 40) dX11_total_29 (by decide) (fun c6 => ?_) (fun c6 => ?_)
  · have h := ite_p c6 h
    refine V_aload_n (pc := 40) 1 dX11_total_40 rfl rfl ?_
    refine V_aload_n (pc := 41) 1 dX11_total_41 rfl rfl ?_
    refine V_getR (pc := 42) (c := 10) (k := 2) dX11_total_42 (by decide) (by decide) kw356 rfl rfl (L10_0 H0) (L10_r2 H0) ?_
    refine V_iload_n (pc := 45) 2 dX11_total_45 rfl rfl ?_
    refine V_iload_n (pc := 46) 3 dX11_total_46 rfl rfl ?_
    obtain ⟨x8, h7, h⟩ := bnd h
    refine V_cS3 (pc := 47) dX11_total_47 kw943 calX10_lengthOfGauge kw944 (by decide) (Nat.le_of_ble_eq_true rfl) (ctX10_lengthOfGauge (L10_o2 H0) h7) ?_
    refine V_cV1 (pc := 50) dX11_total_50 kw720 calX11_answer kw722 ks29 (L10_0 H0) rfl (by decide) (Nat.le_of_ble_eq_true rfl) (ctX11_answer H0) ?_
    cases h
    exact V_ret (pc := 53) dX11_total_53 ⟨rfl, _, rfl⟩ ⟨rfl, rfl, rfl⟩
  · have h := ite_n c6 h
    refine V_aload_n (pc := 32) 1 dX11_total_32 rfl rfl ?_
    refine V_iload_n (pc := 33) 0 dX11_total_33 rfl rfl ?_
    refine V_cV1 (pc := 34) dX11_total_34 kw403 calX11_refuse kw405 ks1 (L10_0 H0) rfl (by decide) (Nat.le_of_ble_eq_true rfl) (ctX11_refuse H0) ?_
    refine V_goto (pc := 37) (tgt := 53) dX11_total_37 (by decide) ?_
    cases h
    exact V_ret (pc := 53) dX11_total_53 ⟨rfl, _, rfl⟩ ⟨rfl, rfl, rfl⟩
theorem calX11_total : Cal yX11_total cX11_total 4 (some .int) 2 := ⟨kw942, kw1, by decide +kernel⟩
theorem ctX11_total {G : Gl} {σ : Sg} {d : Dt} {r0 : Nat} {r0h : Nat} {r0p : Nat} {v1 : Int32} {v2 : Int32} {rr : Int32 × Dt} (H0 : L10 σ r0 r0h r0p) (h : mX11_total r0 r0h r0p v1 v2 d = some rr) : CTv G yX11_total cX11_total 4 (some .int) 5 [.ref (gB G + r0), .int v1, .int v2] σ d [.int rr.1] rr.2 := by
  refine CT_of pn_RX11 (Nat.le_of_ble_eq_true rfl) ?_
  rw [mX11_total] at h
  refine V_aload_n (pc := 0) 0 dX11_total_0 rfl rfl ?_
  refine V_aload_n (pc := 1) 0 dX11_total_1 rfl rfl ?_
  refine V_getI (pc := 2) (c := 10) (k := 4) dX11_total_2 (by decide) (by decide) kw358 rfl rfl (L10_0 H0) ?_
  refine V_if_eq (pc := 5) (tgt := 22) dX11_total_5 (by decide) (fun c1 => ?_) (fun c1 => ?_)
  · have h := ite_p c1 h
    refine V_iconst (pc := 22) (x := 0) dX11_total_22 (by decide) ?_
    exact V_sub [0, 1, 2] rfl (wX11_total_23 H0 H0 h)
  · have h := ite_n c1 h
    refine V_iload_n (pc := 8) 2 dX11_total_8 rfl rfl ?_
    refine V_if_lt (pc := 9) (tgt := 22) dX11_total_9 (by decide) (fun c2 => ?_) (fun c2 => ?_)
    · have h := ite_p c2 h
      refine V_iconst (pc := 22) (x := 0) dX11_total_22 (by decide) ?_
      exact V_sub [0, 1, 2] rfl (wX11_total_23 H0 H0 h)
    · have h := ite_n c2 h
      refine V_iload_n (pc := 12) 2 dX11_total_12 rfl rfl ?_
      refine V_bipush (pc := 13) (x := 9) dX11_total_13 (by decide) ?_
      refine V_icmp_gt (pc := 15) (tgt := 22) dX11_total_15 (by decide) (fun c3 => ?_) (fun c3 => ?_)
      · have h := ite_p c3 h
        refine V_iconst (pc := 22) (x := 0) dX11_total_22 (by decide) ?_
        exact V_sub [0, 1, 2] rfl (wX11_total_23 H0 H0 h)
      · have h := ite_n c3 h
        refine V_iconst (pc := 18) (x := 1) dX11_total_18 (by decide) ?_
        refine V_goto (pc := 19) (tgt := 23) dX11_total_19 (by decide) ?_
        exact V_sub [0, 1, 2] rfl (wX11_total_23 H0 H0 h)
theorem calX11_trouble : Cal yX11_trouble cX11_trouble 1 (some .int) 0 := ⟨kw1160, kw1, by decide +kernel⟩
theorem ctX11_trouble {G : Gl} {σ : Sg} {d : Dt} {r0 : Nat} {r0h : Nat} {r0p : Nat} (H0 : L10 σ r0 r0h r0p) : CTv G yX11_trouble cX11_trouble 1 (some .int) 0 [.ref (gB G + r0)] σ d [.int (mX11_trouble r0 r0h r0p d)] d := by
  refine CT_of pn_RX11 (Nat.le_of_ble_eq_true rfl) ?_
  generalize h : mX11_trouble r0 r0h r0p d = rr
  rw [mX11_trouble] at h
  refine V_aload_n (pc := 0) 0 dX11_trouble_0 rfl rfl ?_
  refine V_getI (pc := 1) (c := 10) (k := 9) dX11_trouble_1 (by decide) (by decide) kw363 rfl rfl (L10_0 H0) ?_
  subst h
  exact V_ret (pc := 4) dX11_trouble_4 ⟨rfl, _, rfl⟩ ⟨rfl, rfl, rfl⟩
theorem calX11_undo : Cal yX11_undo cX11_undo 3 (some .boolean) 0 := ⟨kw1148, kw1, by decide +kernel⟩
theorem ctX11_undo {G : Gl} {σ : Sg} {d : Dt} {r0 : Nat} {r0h : Nat} {r0p : Nat} {rr : Bool × Dt} (H0 : L10 σ r0 r0h r0p) (h : mX11_undo r0 r0h r0p d = some rr) : CTv G yX11_undo cX11_undo 3 (some .boolean) 3 [.ref (gB G + r0)] σ d [.int (b2i rr.1)] rr.2 := by
  refine CT_of pn_RX11 (Nat.le_of_ble_eq_true rfl) ?_
  rw [mX11_undo] at h
  refine V_aload_n (pc := 0) 0 dX11_undo_0 rfl rfl ?_
  refine V_getR (pc := 1) (c := 10) (k := 6) dX11_undo_1 (by decide) (by decide) kw360 rfl rfl (L10_0 H0) (L10_r6 H0) ?_
  refine V_getI (pc := 4) (c := 0) (k := 0) dX11_undo_4 (by decide) (by decide) kw301 rfl rfl (L0_0 (L10_o6 H0)) ?_
  refine V_iconst (pc := 7) (x := 1) dX11_undo_7 (by decide) ?_
  refine V_icmp_ge (pc := 8) (tgt := 19) dX11_undo_8 (by decide) (fun c1 => ?_) (fun c1 => ?_)
  · have h := ite_p c1 h
    refine V_aload_n (pc := 19) 0 dX11_undo_19 rfl rfl ?_
    refine V_getR (pc := 20) (c := 10) (k := 6) dX11_undo_20 (by decide) (by decide) kw360 rfl rfl (L10_0 H0) (L10_r6 H0) ?_
    refine V_dup (pc := 23) dX11_undo_23 rfl ?_
    refine V_getI (pc := 24) (c := 0) (k := 0) dX11_undo_24 (by decide) (by decide) kw301 rfl rfl (L0_0 (L10_o6 H0)) ?_
    refine V_iconst (pc := 27) (x := 1) dX11_undo_27 (by decide) ?_
    refine V_isub (pc := 28) dX11_undo_28 ?_
    refine V_putI (pc := 29) (c := 0) (k := 0) dX11_undo_29 (by decide) (by decide) kw301 rfl rfl rfl ⟨rfl, rfl⟩ (L0_0 (L10_o6 H0)) ?_
    refine V_aload_n (pc := 32) 0 dX11_undo_32 rfl rfl ?_
    refine V_getR (pc := 33) (c := 10) (k := 6) dX11_undo_33 (by decide) (by decide) kw360 rfl rfl (L10_0 H0) (L10_r6 H0) ?_
    refine V_getR (pc := 36) (c := 0) (k := 2) dX11_undo_36 (by decide) (by decide) kw305 rfl rfl (L0_0 (L10_o6 H0)) (L0_r2 (L10_o6 H0)) ?_
    refine V_aload_n (pc := 39) 0 dX11_undo_39 rfl rfl ?_
    refine V_getR (pc := 40) (c := 10) (k := 6) dX11_undo_40 (by decide) (by decide) kw360 rfl rfl (L10_0 H0) (L10_r6 H0) ?_
    refine V_getI (pc := 43) (c := 0) (k := 0) dX11_undo_43 (by decide) (by decide) kw301 rfl rfl (L0_0 (L10_o6 H0)) ?_
    obtain ⟨b2, h⟩ := ite_o h
    refine V_iald (pc := 46) dX11_undo_46 (L0_s2 (L10_o6 H0)) (inB_vp b2) ?_
    refine V_istore_n (pc := 47) (lv1 := [(1, _), (0, _)]) dX11_undo_47 rfl (by decide) rfl ?_
    refine V_aload_n (pc := 48) 1 dX11_undo_48 rfl rfl ?_
    refine V_getR (pc := 49) (c := 10) (k := 6) dX11_undo_49 (by decide) (by decide) kw360 rfl rfl (L10_0 H0) (L10_r6 H0) ?_
    refine V_getR (pc := 52) (c := 0) (k := 3) dX11_undo_52 (by decide) (by decide) kw307 rfl rfl (L0_0 (L10_o6 H0)) (L0_r3 (L10_o6 H0)) ?_
    refine V_aload_n (pc := 55) 1 dX11_undo_55 rfl rfl ?_
    refine V_getR (pc := 56) (c := 10) (k := 6) dX11_undo_56 (by decide) (by decide) kw360 rfl rfl (L10_0 H0) (L10_r6 H0) ?_
    refine V_getI (pc := 59) (c := 0) (k := 0) dX11_undo_59 (by decide) (by decide) kw301 rfl rfl (L0_0 (L10_o6 H0)) ?_
    obtain ⟨b3, h⟩ := ite_o h
    refine V_iald (pc := 62) dX11_undo_62 (L0_s3 (L10_o6 H0)) (inB_vp b3) ?_
    refine V_istore_n (pc := 63) (lv1 := [(2, _), (1, _), (0, _)]) dX11_undo_63 rfl (by decide) rfl ?_
    refine V_aload_n (pc := 64) 2 dX11_undo_64 rfl rfl ?_
    refine V_getR (pc := 65) (c := 10) (k := 6) dX11_undo_65 (by decide) (by decide) kw360 rfl rfl (L10_0 H0) (L10_r6 H0) ?_
    refine V_getR (pc := 68) (c := 0) (k := 1) dX11_undo_68 (by decide) (by decide) kw303 rfl rfl (L0_0 (L10_o6 H0)) (L0_r1 (L10_o6 H0)) ?_
    refine V_aload_n (pc := 71) 2 dX11_undo_71 rfl rfl ?_
    refine V_getR (pc := 72) (c := 10) (k := 6) dX11_undo_72 (by decide) (by decide) kw360 rfl rfl (L10_0 H0) (L10_r6 H0) ?_
    refine V_getI (pc := 75) (c := 0) (k := 0) dX11_undo_75 (by decide) (by decide) kw301 rfl rfl (L0_0 (L10_o6 H0)) ?_
    obtain ⟨b4, h⟩ := ite_o h
    refine V_iald (pc := 78) dX11_undo_78 (L0_s1 (L10_o6 H0)) (inB_vp b4) ?_
    refine V_iconst (pc := 79) (x := 1) dX11_undo_79 (by decide) ?_
    refine V_icmp_ne (pc := 80) (tgt := 98) dX11_undo_80 (by decide) (fun c5 => ?_) (fun c5 => ?_)
    · have h := ite_n c5 h
      refine V_aload_n (pc := 98) 2 dX11_undo_98 rfl rfl ?_
      refine V_getR (pc := 99) (c := 10) (k := 2) dX11_undo_99 (by decide) (by decide) kw356 rfl rfl (L10_0 H0) (L10_r2 H0) ?_
      refine V_getR (pc := 102) (c := 4) (k := 8) dX11_undo_102 (by decide) (by decide) kw244 rfl rfl (L4_0 (L10_o2 H0)) (L4_r8 (L10_o2 H0)) ?_
      refine V_getR (pc := 105) (c := 5) (k := 6) dX11_undo_105 (by decide) (by decide) kw163 rfl rfl (L5_0 (L4_o8 (L10_o2 H0))) (L5_r6 (L4_o8 (L10_o2 H0))) ?_
      refine V_iload_n (pc := 108) 1 dX11_undo_108 rfl rfl ?_
      refine V_iload_n (pc := 109) 0 dX11_undo_109 rfl rfl ?_
      obtain ⟨b6, h⟩ := ite_o h
      refine V_iast (pc := 110) dX11_undo_110 (L5_s6 (L4_o8 (L10_o2 H0))) (inB_vp b6) ?_
      refine V_aload_n (pc := 111) 2 dX11_undo_111 rfl rfl ?_
      refine V_iconst (pc := 112) (x := 0) dX11_undo_112 (by decide) ?_
      refine V_putI (pc := 113) (c := 10) (k := 9) dX11_undo_113 (by decide) (by decide) kw363 rfl rfl rfl ⟨rfl, rfl⟩ (L10_0 H0) ?_
      refine V_iconst (pc := 116) (x := 1) dX11_undo_116 (by decide) ?_
      cases h
      exact V_ret (pc := 117) dX11_undo_117 ⟨rfl, _, rfl, rfl⟩ ⟨rfl, rfl, rfl⟩
    · have h := ite_p c5 h
      refine V_aload_n (pc := 83) 2 dX11_undo_83 rfl rfl ?_
      refine V_getR (pc := 84) (c := 10) (k := 2) dX11_undo_84 (by decide) (by decide) kw356 rfl rfl (L10_0 H0) (L10_r2 H0) ?_
      refine V_getR (pc := 87) (c := 4) (k := 6) dX11_undo_87 (by decide) (by decide) kw233 rfl rfl (L4_0 (L10_o2 H0)) (L4_r6 (L10_o2 H0)) ?_
      refine V_iload_n (pc := 90) 1 dX11_undo_90 rfl rfl ?_
      refine V_iload_n (pc := 91) 0 dX11_undo_91 rfl rfl ?_
      obtain ⟨x8, h7, h⟩ := bnd h
      refine V_cV2 (pc := 92) dX11_undo_92 kw1140 calX9_setLength kw1141 kw1142 (L9_0 (L4_o6 (L10_o2 H0))) rfl (by decide) (Nat.le_of_ble_eq_true rfl) (ctX9_setLength (L4_o6 (L10_o2 H0)) h7) ?_
      refine V_goto (pc := 95) (tgt := 111) dX11_undo_95 (by decide) ?_
      refine V_aload_n (pc := 111) 2 dX11_undo_111 rfl rfl ?_
      refine V_iconst (pc := 112) (x := 0) dX11_undo_112 (by decide) ?_
      refine V_putI (pc := 113) (c := 10) (k := 9) dX11_undo_113 (by decide) (by decide) kw363 rfl rfl rfl ⟨rfl, rfl⟩ (L10_0 H0) ?_
      refine V_iconst (pc := 116) (x := 1) dX11_undo_116 (by decide) ?_
      cases h
      exact V_ret (pc := 117) dX11_undo_117 ⟨rfl, _, rfl, rfl⟩ ⟨rfl, rfl, rfl⟩
  · have h := ite_n c1 h
    refine V_aload_n (pc := 11) 0 dX11_undo_11 rfl rfl ?_
    refine V_iconst (pc := 12) (x := 1) dX11_undo_12 (by decide) ?_
    refine V_cV1 (pc := 13) dX11_undo_13 kw403 calX11_refuse kw405 ks1 (L10_0 H0) rfl (by decide) (Nat.le_of_ble_eq_true rfl) (ctX11_refuse H0) ?_
    refine V_pop (pc := 16) dX11_undo_16 rfl ?_
    refine V_iconst (pc := 17) (x := 0) dX11_undo_17 (by decide) ?_
    cases h
    exact V_ret (pc := 18) dX11_undo_18 ⟨rfl, _, rfl, rfl⟩ ⟨rfl, rfl, rfl⟩
theorem calX2_isUsed : Cal yX2_isUsed cX2_isUsed 2 (some .boolean) 2 := ⟨kw1171, kw10, by decide +kernel⟩
theorem ctX2_isUsed {G : Gl} {σ : Sg} {d : Dt} {r0 : Nat} {v1 : Int32} {rr : Bool} (H0 : L4 σ r0) (h : mX2_isUsed r0 v1 d = some rr) : CTv G yX2_isUsed cX2_isUsed 2 (some .boolean) 4 [.ref (gB G + r0), .int v1] σ d [.int (b2i rr)] d := by
  refine CT_of pn_RX2 (Nat.le_of_ble_eq_true rfl) ?_
  rw [mX2_isUsed] at h
  refine V_aload_n (pc := 0) 0 dX2_isUsed_0 rfl rfl ?_
  refine V_iconst (pc := 1) (x := 1) dX2_isUsed_1 (by decide) ?_
  refine V_aload_n (pc := 2) 0 dX2_isUsed_2 rfl rfl ?_
  refine V_getR (pc := 3) (c := 4) (k := 9) dX2_isUsed_3 (by decide) (by decide) kw248 rfl rfl (L4_0 H0) (L4_r9 H0) ?_
  refine V_getI (pc := 6) (c := 1) (k := 0) dX2_isUsed_6 (by decide) (by decide) kw201 rfl rfl (L1_0 (L4_o9 H0)) ?_
  refine V_ishl (pc := 9) dX2_isUsed_9 ?_
  refine V_iconst (pc := 10) (x := 1) dX2_isUsed_10 (by decide) ?_
  refine V_isub (pc := 11) dX2_isUsed_11 ?_
  refine V_iload_n (pc := 12) 1 dX2_isUsed_12 rfl rfl ?_
  obtain ⟨x2, h1, h⟩ := bnd h
  refine V_cS3 (pc := 13) dX2_isUsed_13 kw1048 calX2_pinsFor kw1049 (by decide) (Nat.le_of_ble_eq_true rfl) (ctX2_pinsFor H0 h1) ?_
  refine V_if_eq (pc := 16) (tgt := 23) dX2_isUsed_16 (by decide) (fun c3 => ?_) (fun c3 => ?_)
  · have h := ite_p c3 h
    refine V_iconst (pc := 23) (x := 0) dX2_isUsed_23 (by decide) ?_
    cases h
    exact V_ret (pc := 24) dX2_isUsed_24 ⟨rfl, _, rfl, rfl⟩ ⟨rfl, rfl, rfl⟩
  · have h := ite_n c3 h
    refine V_iconst (pc := 19) (x := 1) dX2_isUsed_19 (by decide) ?_
    refine V_goto (pc := 20) (tgt := 24) dX2_isUsed_20 (by decide) ?_
    cases h
    exact V_ret (pc := 24) dX2_isUsed_24 ⟨rfl, _, rfl, rfl⟩ ⟨rfl, rfl, rfl⟩
theorem wX9_nextTowards_4 {G : Gl} {σ : Sg} {d : Dt} {r0 : Nat} {v1 : Int32} {v2 : Int32} {rr : Int32} (H0 : L9 σ r0) : ∀ (n : Nat) (v3 : Int32), mX9_nextTowards_4 d r0 v1 v2 n v3 = some rr → V G yX9_nextTowards cX9_nextTowards 4 (some .int) 1 0 0 (PH [.int rr] σ d) 4 [(0, .ref (gB G + r0)), (1, .int v1), (2, .int v2), (3, .int v3)] [] σ d := by
  intro n
  induction n with
  | zero =>
    intro v3
    intros
    rename_i h
    exact absurd h (by rw [mX9_nextTowards_4]; exact fun q => nomatch q)
  | succ n ih =>
    intro v3 h
    rw [mX9_nextTowards_4] at h
    refine V_iload_n (pc := 4) 3 dX9_nextTowards_4 rfl rfl ?_
    refine V_aload_n (pc := 5) 0 dX9_nextTowards_5 rfl rfl ?_
    refine V_getI (pc := 6) (c := 9) (k := 0) dX9_nextTowards_6 (by decide) (by decide) kw47 rfl rfl (L9_0 H0) ?_
    refine V_icmp_ge (pc := 9) (tgt := 39) dX9_nextTowards_9 (by decide) (fun c1 => ?_) (fun c1 => ?_)
    · have h := ite_p c1 h
      refine V_iload_n (pc := 39) 1 dX9_nextTowards_39 rfl rfl ?_
      refine V_if_le (pc := 40) (tgt := 52) dX9_nextTowards_40 (by decide) (fun c2 => ?_) (fun c2 => ?_)
      · have h := ite_p c2 h
        refine V_iload_n (pc := 52) 1 dX9_nextTowards_52 rfl rfl ?_
        cases h
        exact V_ret (pc := 53) dX9_nextTowards_53 ⟨rfl, _, rfl⟩ ⟨rfl, rfl, rfl⟩
      · have h := ite_n c2 h
        refine V_aload_n (pc := 43) 0 dX9_nextTowards_43 rfl rfl ?_
        refine V_getR (pc := 44) (c := 9) (k := 1) dX9_nextTowards_44 (by decide) (by decide) kw52 rfl rfl (L9_0 H0) (L9_r1 H0) ?_
        refine V_iload_n (pc := 47) 1 dX9_nextTowards_47 rfl rfl ?_
        obtain ⟨b3, h⟩ := ite_o h
        refine V_iald (pc := 48) dX9_nextTowards_48 (L9_s1 H0) (inB_vp b3) ?_
        refine V_goto (pc := 49) (tgt := 53) dX9_nextTowards_49 (by decide) ?_
        cases h
        exact V_ret (pc := 53) dX9_nextTowards_53 ⟨rfl, _, rfl⟩ ⟨rfl, rfl, rfl⟩
    · have h := ite_n c1 h
      refine V_aload_n (pc := 12) 0 dX9_nextTowards_12 rfl rfl ?_
      refine V_getR (pc := 13) (c := 9) (k := 1) dX9_nextTowards_13 (by decide) (by decide) kw52 rfl rfl (L9_0 H0) (L9_r1 H0) ?_
      refine V_iload_n (pc := 16) 3 dX9_nextTowards_16 rfl rfl ?_
      obtain ⟨b4, h⟩ := ite_o h
      refine V_iald (pc := 17) dX9_nextTowards_17 (L9_s1 H0) (inB_vp b4) ?_
      refine V_iload_n (pc := 18) 1 dX9_nextTowards_18 rfl rfl ?_
      refine V_icmp_ne (pc := 19) (tgt := 33) dX9_nextTowards_19 (by decide) (fun c5 => ?_) (fun c5 => ?_)
      · have h := ite_n c5 h
        refine V_iinc (pc := 33) (lv1 := [(3, _), (0, _), (1, _), (2, _)]) (z := _ + (1 : Int32)) 3 dX9_nextTowards_33 rfl rfl (by decide) rfl ?_
        refine V_goto (pc := 36) (tgt := 4) dX9_nextTowards_36 (by decide) ?_
        exact V_sub [1, 2, 3, 0] rfl (ih (v3 + (1 : Int32)) h)
      · have h := ite_p c5 h
        refine V_aload_n (pc := 22) 0 dX9_nextTowards_22 rfl rfl ?_
        refine V_iload_n (pc := 23) 3 dX9_nextTowards_23 rfl rfl ?_
        refine V_iload_n (pc := 24) 2 dX9_nextTowards_24 rfl rfl ?_
        obtain ⟨x7, h6, h⟩ := bnd h
        refine V_cV2 (pc := 25) dX9_nextTowards_25 kw769 calX9_isBeyond kw770 kw771 (L9_0 H0) rfl (by decide) (Nat.le_of_ble_eq_true rfl) (ctX9_isBeyond H0 h6) ?_
        refine V_ifB_eq (pc := 28) (tgt := 33) dX9_nextTowards_28 (by decide) (fun c8 => ?_) (fun c8 => ?_)
        · have h := ite_f c8 h
          refine V_iinc (pc := 33) (lv1 := [(3, _), (0, _), (1, _), (2, _)]) (z := _ + (1 : Int32)) 3 dX9_nextTowards_33 rfl rfl (by decide) rfl ?_
          refine V_goto (pc := 36) (tgt := 4) dX9_nextTowards_36 (by decide) ?_
          exact V_sub [1, 2, 3, 0] rfl (ih (v3 + (1 : Int32)) h)
        · have h := ite_p c8 h
          refine V_iload_n (pc := 31) 3 dX9_nextTowards_31 rfl rfl ?_
          cases h
          exact V_ret (pc := 32) dX9_nextTowards_32 ⟨rfl, _, rfl⟩ ⟨rfl, rfl, rfl⟩
theorem calX9_nextTowards : Cal yX9_nextTowards cX9_nextTowards 4 (some .int) 2 := ⟨kw768, kw3, by decide +kernel⟩
theorem ctX9_nextTowards {G : Gl} {σ : Sg} {d : Dt} {r0 : Nat} {v1 : Int32} {v2 : Int32} {rr : Int32} (H0 : L9 σ r0) (h : mX9_nextTowards r0 v1 v2 d = some rr) : CTv G yX9_nextTowards cX9_nextTowards 4 (some .int) 1 [.ref (gB G + r0), .int v1, .int v2] σ d [.int rr] d := by
  refine CT_of pn_RX9 (Nat.le_of_ble_eq_true rfl) ?_
  rw [mX9_nextTowards] at h
  refine V_iload_n (pc := 0) 1 dX9_nextTowards_0 rfl rfl ?_
  refine V_iconst (pc := 1) (x := 1) dX9_nextTowards_1 (by decide) ?_
  refine V_iadd (pc := 2) dX9_nextTowards_2 ?_
  refine V_istore_n (pc := 3) (lv1 := [(3, _), (0, _), (1, _), (2, _)]) dX9_nextTowards_3 rfl (by decide) rfl ?_
  exact V_sub [1, 2, 3, 0] rfl (wX9_nextTowards_4 H0 FUEL (v1 + (1 : Int32)) h)
theorem wX9_onTheWay_20 {G : Gl} {σ : Sg} {d : Dt} {r0 : Nat} {v2 : Int32} {v3 : Int32} {rr : Int32} (H0 : L9 σ r0) : ∀ (n : Nat) (v4 : Int32) (v5 : Int32), mX9_onTheWay_20 d r0 v2 v3 n v4 v5 = some rr → V G yX9_onTheWay cX9_onTheWay 6 (some .int) 2 0 0 (PH [.int rr] σ d) 20 [(0, .ref (gB G + r0)), (2, .int v2), (3, .int v3), (4, .int v4), (5, .int v5)] [] σ d := by
  intro n
  induction n with
  | zero =>
    intro v4 v5
    intros
    rename_i h
    exact absurd h (by rw [mX9_onTheWay_20]; exact fun q => nomatch q)
  | succ n ih =>
    intro v4 v5 h
    rw [mX9_onTheWay_20] at h
    refine V_iload (pc := 20) 4 dX9_onTheWay_20 rfl ?_
    refine V_iload_n (pc := 22) 2 dX9_onTheWay_22 rfl rfl ?_
    refine V_icmp_ge (pc := 23) (tgt := 49) dX9_onTheWay_23 (by decide) (fun c3 => ?_) (fun c3 => ?_)
    · have h := ite_p c3 h
      refine V_iload (pc := 49) 3 dX9_onTheWay_49 rfl ?_
      cases h
      exact V_ret (pc := 51) dX9_onTheWay_51 ⟨rfl, _, rfl⟩ ⟨rfl, rfl, rfl⟩
    · have h := ite_n c3 h
      refine V_iload (pc := 26) 3 dX9_onTheWay_26 rfl ?_
      refine V_iload_n (pc := 28) 1 dX9_onTheWay_28 rfl rfl ?_
      refine V_icmp_ne (pc := 29) (tgt := 34) dX9_onTheWay_29 (by decide) (fun c4 => ?_) (fun c4 => ?_)
      · have h := ite_n c4 h
        refine V_aload_n (pc := 34) 0 dX9_onTheWay_34 rfl rfl ?_
        refine V_iload (pc := 35) 3 dX9_onTheWay_35 rfl ?_
        refine V_iload_n (pc := 37) 1 dX9_onTheWay_37 rfl rfl ?_
        obtain ⟨x6, h5, h⟩ := bnd h
        refine V_cV2 (pc := 38) dX9_onTheWay_38 kw765 calX9_nextTowards kw767 ks31 (L9_0 H0) rfl (by decide) (Nat.le_of_ble_eq_true rfl) (ctX9_nextTowards H0 h5) ?_
        refine V_istore (pc := 41) (lv1 := [(4, _), (0, _), (2, _), (3, _), (5, _)]) dX9_onTheWay_41 (by decide) rfl ?_
        refine V_iinc (pc := 43) (lv1 := [(5, _), (4, _), (0, _), (2, _), (3, _)]) (z := _ + (1 : Int32)) 4 dX9_onTheWay_43 rfl rfl (by decide) rfl ?_
        refine V_goto (pc := 46) (tgt := 20) dX9_onTheWay_46 (by decide) ?_
        exact V_sub [2, 3, 4, 1, 0] rfl (ih x6 (v5 + (1 : Int32)) h)
      · have h := ite_p c4 h
        refine V_iconst (pc := 32) (x := (-1)) dX9_onTheWay_32 (by decide) ?_
        cases h
        exact V_ret (pc := 33) dX9_onTheWay_33 ⟨rfl, _, rfl⟩ ⟨rfl, rfl, rfl⟩
theorem calX9_onTheWay : Cal yX9_onTheWay cX9_onTheWay 6 (some .int) 3 := ⟨kw764, kw3, by decide +kernel⟩
theorem ctX9_onTheWay {G : Gl} {σ : Sg} {d : Dt} {r0 : Nat} {v1 : Int32} {v2 : Int32} {v3 : Int32} {rr : Int32} (H0 : L9 σ r0) (h : mX9_onTheWay r0 v1 v2 v3 d = some rr) : CTv G yX9_onTheWay cX9_onTheWay 6 (some .int) 2 [.ref (gB G + r0), .int v1, .int v2, .int v3] σ d [.int rr] d := by
  refine CT_of pn_RX9 (Nat.le_of_ble_eq_true rfl) ?_
  rw [mX9_onTheWay] at h
  refine V_iload_n (pc := 0) 3 dX9_onTheWay_0 rfl rfl ?_
  refine V_if_lt (pc := 1) (tgt := 12) dX9_onTheWay_1 (by decide) (fun c1 => ?_) (fun c1 => ?_)
  · have h := ite_p c1 h
    refine V_iconst (pc := 12) (x := (-1)) dX9_onTheWay_12 (by decide) ?_
    cases h
    exact V_ret (pc := 13) dX9_onTheWay_13 ⟨rfl, _, rfl⟩ ⟨rfl, rfl, rfl⟩
  · have h := ite_n c1 h
    refine V_iload_n (pc := 4) 3 dX9_onTheWay_4 rfl rfl ?_
    refine V_aload_n (pc := 5) 0 dX9_onTheWay_5 rfl rfl ?_
    refine V_getI (pc := 6) (c := 9) (k := 0) dX9_onTheWay_6 (by decide) (by decide) kw47 rfl rfl (L9_0 H0) ?_
    refine V_icmp_lt (pc := 9) (tgt := 14) dX9_onTheWay_9 (by decide) (fun c2 => ?_) (fun c2 => ?_)
    · have h := ite_p c2 h
      refine V_iload_n (pc := 14) 1 dX9_onTheWay_14 rfl rfl ?_
      refine V_istore (pc := 15) (lv1 := [(4, _), (0, _), (1, _), (2, _), (3, _)]) dX9_onTheWay_15 (by decide) rfl ?_
      refine V_iconst (pc := 17) (x := 0) dX9_onTheWay_17 (by decide) ?_
      refine V_istore (pc := 18) (lv1 := [(5, _), (4, _), (0, _), (1, _), (2, _), (3, _)]) dX9_onTheWay_18 (by decide) rfl ?_
      exact V_sub [2, 4, 5, 1, 0] rfl (wX9_onTheWay_20 H0 FUEL v1 (0 : Int32) h)
    · have h := ite_n c2 h
      refine V_iconst (pc := 12) (x := (-1)) dX9_onTheWay_12 (by decide) ?_
      cases h
      exact V_ret (pc := 13) dX9_onTheWay_13 ⟨rfl, _, rfl⟩ ⟨rfl, rfl, rfl⟩
theorem calX11_way : Cal yX11_way cX11_way 5 (some .int) 3 := ⟨kw760, kw1, by decide +kernel⟩
theorem ctX11_way {G : Gl} {σ : Sg} {d : Dt} {r0 : Nat} {r0h : Nat} {r0p : Nat} {v1 : Int32} {v2 : Int32} {v3 : Int32} {rr : Int32 × Dt} (H0 : L10 σ r0 r0h r0p) (h : mX11_way r0 r0h r0p v1 v2 v3 d = some rr) : CTv G yX11_way cX11_way 5 (some .int) 3 [.ref (gB G + r0), .int v1, .int v2, .int v3] σ d [.int rr.1] rr.2 := by
  refine CT_of pn_RX11 (Nat.le_of_ble_eq_true rfl) ?_
  rw [mX11_way] at h
  refine V_aload_n (pc := 0) 0 dX11_way_0 rfl rfl ?_
  refine V_iload_n (pc := 1) 1 dX11_way_1 rfl rfl ?_
  refine V_cV1 (pc := 2) dX11_way_2 kw745 calX11_isNode kw747 ks30 (L10_0 H0) rfl (by decide) (Nat.le_of_ble_eq_true rfl) (ctX11_isNode H0) ?_
  refine V_ifB_eq (pc := 5) (tgt := 16) dX11_way_5 (by decide) (fun c3 => ?_) (fun c3 => ?_)
  · have h := ite_f c3 h
    refine V_aload_n (pc := 16) 0 dX11_way_16 rfl rfl ?_
    refine V_iconst (pc := 17) (x := 1) dX11_way_17 (by decide) ?_
    refine V_cV1 (pc := 18) dX11_way_18 kw403 calX11_refuse kw405 ks1 (L10_0 H0) rfl (by decide) (Nat.le_of_ble_eq_true rfl) (ctX11_refuse H0) ?_
    cases h
    exact V_ret (pc := 21) dX11_way_21 ⟨rfl, _, rfl⟩ ⟨rfl, rfl, rfl⟩
  · have h := ite_p c3 h
    refine V_aload_n (pc := 8) 0 dX11_way_8 rfl rfl ?_
    refine V_iload_n (pc := 9) 2 dX11_way_9 rfl rfl ?_
    refine V_cV1 (pc := 10) dX11_way_10 kw745 calX11_isNode kw747 ks30 (L10_0 H0) rfl (by decide) (Nat.le_of_ble_eq_true rfl) (ctX11_isNode H0) ?_
    refine V_ifB_ne (pc := 13) (tgt := 22) dX11_way_13 (by decide) (fun c8 => ?_) (fun c8 => ?_)
    · have h := ite_p c8 h
      refine V_aload_n (pc := 22) 0 dX11_way_22 rfl rfl ?_
      refine V_getR (pc := 23) (c := 10) (k := 2) dX11_way_23 (by decide) (by decide) kw356 rfl rfl (L10_0 H0) (L10_r2 H0) ?_
      refine V_getR (pc := 26) (c := 4) (k := 6) dX11_way_26 (by decide) (by decide) kw233 rfl rfl (L4_0 (L10_o2 H0)) (L4_r6 (L10_o2 H0)) ?_
      refine V_iload_n (pc := 29) 1 dX11_way_29 rfl rfl ?_
      refine V_iload_n (pc := 30) 2 dX11_way_30 rfl rfl ?_
      refine V_iload_n (pc := 31) 3 dX11_way_31 rfl rfl ?_
      obtain ⟨x10, h9, h⟩ := bnd h
      refine V_cV3 (pc := 32) dX11_way_32 kw761 calX9_onTheWay kw762 kw763 (L9_0 (L4_o6 (L10_o2 H0))) rfl (by decide) (Nat.le_of_ble_eq_true rfl) (ctX9_onTheWay (L4_o6 (L10_o2 H0)) h9) ?_
      refine V_istore (pc := 35) (lv1 := [(4, _), (0, _), (1, _), (2, _), (3, _)]) dX11_way_35 (by decide) rfl ?_
      refine V_iload (pc := 37) 0 dX11_way_37 rfl ?_
      refine V_if_ge (pc := 39) (tgt := 50) dX11_way_39 (by decide) (fun c11 => ?_) (fun c11 => ?_)
      · have h := ite_p c11 h
        refine V_aload_n (pc := 50) 1 dX11_way_50 rfl rfl ?_
        refine V_iload (pc := 51) 0 dX11_way_51 rfl ?_
        refine V_cV1 (pc := 53) dX11_way_53 kw720 calX11_answer kw722 ks29 (L10_0 H0) rfl (by decide) (Nat.le_of_ble_eq_true rfl) (ctX11_answer H0) ?_
        cases h
        exact V_ret (pc := 56) dX11_way_56 ⟨rfl, _, rfl⟩ ⟨rfl, rfl, rfl⟩
      · have h := ite_n c11 h
        refine V_aload_n (pc := 42) 1 dX11_way_42 rfl rfl ?_
        refine V_iconst (pc := 43) (x := 1) dX11_way_43 (by decide) ?_
        refine V_cV1 (pc := 44) dX11_way_44 kw403 calX11_refuse kw405 ks1 (L10_0 H0) rfl (by decide) (Nat.le_of_ble_eq_true rfl) (ctX11_refuse H0) ?_
        refine V_goto (pc := 47) (tgt := 56) dX11_way_47 (by decide) ?_
        cases h
        exact V_ret (pc := 56) dX11_way_56 ⟨rfl, _, rfl⟩ ⟨rfl, rfl, rfl⟩
    · have h := ite_f c8 h
      refine V_aload_n (pc := 16) 0 dX11_way_16 rfl rfl ?_
      refine V_iconst (pc := 17) (x := 1) dX11_way_17 (by decide) ?_
      refine V_cV1 (pc := 18) dX11_way_18 kw403 calX11_refuse kw405 ks1 (L10_0 H0) rfl (by decide) (Nat.le_of_ble_eq_true rfl) (ctX11_refuse H0) ?_
      cases h
      exact V_ret (pc := 21) dX11_way_21 ⟨rfl, _, rfl⟩ ⟨rfl, rfl, rfl⟩
theorem calX11_where : Cal yX11_where cX11_where 1 (some .int) 0 := ⟨kw731, kw1, by decide +kernel⟩
theorem ctX11_where {G : Gl} {σ : Sg} {d : Dt} {r0 : Nat} {r0h : Nat} {r0p : Nat} (H0 : L10 σ r0 r0h r0p) : CTv G yX11_where cX11_where 1 (some .int) 0 [.ref (gB G + r0)] σ d [.int (mX11_where r0 r0h r0p d)] d := by
  refine CT_of pn_RX11 (Nat.le_of_ble_eq_true rfl) ?_
  generalize h : mX11_where r0 r0h r0p d = rr
  rw [mX11_where] at h
  refine V_aload_n (pc := 0) 0 dX11_where_0 rfl rfl ?_
  refine V_getI (pc := 1) (c := 10) (k := 9) dX11_where_1 (by decide) (by decide) kw363 rfl rfl (L10_0 H0) ?_
  refine V_iconst (pc := 4) (x := 4) dX11_where_4 (by decide) ?_
  refine V_icmp_ne (pc := 5) (tgt := 15) dX11_where_5 (by decide) (fun c1 => ?_) (fun c1 => ?_)
  · have h := ite_n c1 h
    refine V_iconst (pc := 15) (x := (-1)) dX11_where_15 (by decide) ?_
    subst h
    exact V_ret (pc := 16) dX11_where_16 ⟨rfl, _, rfl⟩ ⟨rfl, rfl, rfl⟩
  · have h := ite_p c1 h
    refine V_aload_n (pc := 8) 0 dX11_where_8 rfl rfl ?_
    refine V_getI (pc := 9) (c := 10) (k := 11) dX11_where_9 (by decide) (by decide) kw365 rfl rfl (L10_0 H0) ?_
    refine V_goto (pc := 12) (tgt := 16) dX11_where_12 (by decide) ?_
    subst h
    exact V_ret (pc := 16) dX11_where_16 ⟨rfl, _, rfl⟩ ⟨rfl, rfl, rfl⟩
theorem calX10_lengthTo : Cal yX10_lengthTo cX10_lengthTo 5 (some .int) 4 := ⟨kw931, kw18, by decide +kernel⟩
theorem ctX10_lengthTo {G : Gl} {σ : Sg} {d : Dt} {r0 : Nat} {v1 : Int32} {v2 : Int32} {v3 : Int32} {rr : Int32} (H0 : L4 σ r0) (h : mX10_lengthTo r0 v1 v2 v3 d = some rr) : CTv G yX10_lengthTo cX10_lengthTo 5 (some .int) 3 [.ref (gB G + r0), .int v1, .int v2, .int v3] σ d [.int rr] d := by
  refine CT_of pn_RX10 (Nat.le_of_ble_eq_true rfl) ?_
  rw [mX10_lengthTo] at h
  refine V_aload_n (pc := 0) 0 dX10_lengthTo_0 rfl rfl ?_
  refine V_iload_n (pc := 1) 1 dX10_lengthTo_1 rfl rfl ?_
  refine V_iload_n (pc := 2) 2 dX10_lengthTo_2 rfl rfl ?_
  obtain ⟨x2, h1, h⟩ := bnd h
  refine V_cS3 (pc := 3) dX10_lengthTo_3 kw932 calX10_hubOf kw907 (by decide) (Nat.le_of_ble_eq_true rfl) (ctX10_hubOf H0 h1) ?_
  refine V_istore (pc := 6) (lv1 := [(4, _), (0, _), (1, _), (2, _), (3, _)]) dX10_lengthTo_6 (by decide) rfl ?_
  refine V_iload_n (pc := 8) 3 dX10_lengthTo_8 rfl rfl ?_
  refine V_cS1 (pc := 9) dX10_lengthTo_9 kw933 calX10_countFor kw922 (by decide) (Nat.le_of_ble_eq_true rfl) (ctX10_countFor) ?_
  refine V_iconst (pc := 12) (x := 1) dX10_lengthTo_12 (by decide) ?_
  refine V_icmp_ne (pc := 13) (tgt := 32) dX10_lengthTo_13 (by decide) (fun c5 => ?_) (fun c5 => ?_)
  · have h := ite_n c5 h
    refine V_aload_n (pc := 32) 1 dX10_lengthTo_32 rfl rfl ?_
    refine V_getR (pc := 33) (c := 4) (k := 6) dX10_lengthTo_33 (by decide) (by decide) kw234 rfl rfl (L4_0 H0) (L4_r6 H0) ?_
    refine V_getR (pc := 36) (c := 9) (k := 7) dX10_lengthTo_36 (by decide) (by decide) kw64 rfl rfl (L9_0 (L4_o6 H0)) (L9_r7 (L4_o6 H0)) ?_
    refine V_iload (pc := 39) 0 dX10_lengthTo_39 rfl ?_
    obtain ⟨b6, h⟩ := ite_o h
    refine V_aald (pc := 41) dX10_lengthTo_41 (⟨L9_s7 (L4_o6 H0), L9_g7 (L4_o6 H0)⟩ : GR σ _ _ _).1 (inB_vp b6) ((⟨L9_s7 (L4_o6 H0), L9_g7 (L4_o6 H0)⟩ : GR σ _ _ _).2 _ (inB_lt b6)).1 ?_
    refine V_aload_n (pc := 42) 1 dX10_lengthTo_42 rfl rfl ?_
    refine V_getR (pc := 43) (c := 4) (k := 8) dX10_lengthTo_43 (by decide) (by decide) kw245 rfl rfl (L4_0 H0) (L4_r8 H0) ?_
    refine V_getR (pc := 46) (c := 5) (k := 9) dX10_lengthTo_46 (by decide) (by decide) kw172 rfl rfl (L5_0 (L4_o8 H0)) (L5_r9 (L4_o8 H0)) ?_
    refine V_iload_n (pc := 49) 2 dX10_lengthTo_49 rfl rfl ?_
    obtain ⟨b7, h⟩ := ite_o h
    refine V_aald (pc := 50) dX10_lengthTo_50 (⟨L5_s9 (L4_o8 H0), L5_g9 (L4_o8 H0)⟩ : GR σ _ _ _).1 (inB_vp b7) ((⟨L5_s9 (L4_o8 H0), L5_g9 (L4_o8 H0)⟩ : GR σ _ _ _).2 _ (inB_lt b7)).1 ?_
    refine V_iload_n (pc := 51) 4 dX10_lengthTo_51 rfl rfl ?_
    obtain ⟨b8, h⟩ := ite_o h
    refine V_iald (pc := 52) dX10_lengthTo_52 ((⟨L5_s9 (L4_o8 H0), L5_g9 (L4_o8 H0)⟩ : GR σ _ _ _).2 _ (inB_lt b7)).2 (inB_vp b8) ?_
    obtain ⟨b9, h⟩ := ite_o h
    refine V_iald (pc := 53) dX10_lengthTo_53 ((⟨L9_s7 (L4_o6 H0), L9_g7 (L4_o6 H0)⟩ : GR σ _ _ _).2 _ (inB_lt b6)).2 (inB_vp b9) ?_
    refine V_aload_n (pc := 54) 1 dX10_lengthTo_54 rfl rfl ?_
    refine V_getI (pc := 55) (c := 4) (k := 0) dX10_lengthTo_55 (by decide) (by decide) kw220 rfl rfl (L4_0 H0) ?_
    refine V_iadd (pc := 58) dX10_lengthTo_58 ?_
    refine V_aload_n (pc := 59) 1 dX10_lengthTo_59 rfl rfl ?_
    refine V_getI (pc := 60) (c := 4) (k := 1) dX10_lengthTo_60 (by decide) (by decide) kw224 rfl rfl (L4_0 H0) ?_
    refine V_iadd (pc := 63) dX10_lengthTo_63 ?_
    cases h
    exact V_ret (pc := 64) dX10_lengthTo_64 ⟨rfl, _, rfl⟩ ⟨rfl, rfl, rfl⟩
  · have h := ite_p c5 h
    refine V_aload_n (pc := 16) 1 dX10_lengthTo_16 rfl rfl ?_
    refine V_iload_n (pc := 17) 2 dX10_lengthTo_17 rfl rfl ?_
    refine V_iload_n (pc := 18) 3 dX10_lengthTo_18 rfl rfl ?_
    refine V_iload (pc := 19) 0 dX10_lengthTo_19 rfl ?_
    obtain ⟨x11, h10, h⟩ := bnd h
    refine V_cS4 (pc := 21) dX10_lengthTo_21 kw914 calX10_reachOf kw915 (by decide) (Nat.le_of_ble_eq_true rfl) (ctX10_reachOf H0 h10) ?_
    refine V_iconst (pc := 24) (x := 2) dX10_lengthTo_24 (by decide) ?_
    refine V_aload_n (pc := 25) 1 dX10_lengthTo_25 rfl rfl ?_
    refine V_getI (pc := 26) (c := 4) (k := 0) dX10_lengthTo_26 (by decide) (by decide) kw220 rfl rfl (L4_0 H0) ?_
    refine V_imul (pc := 29) dX10_lengthTo_29 ?_
    refine V_iadd (pc := 30) dX10_lengthTo_30 ?_
    cases h
    exact V_ret (pc := 31) dX10_lengthTo_31 ⟨rfl, _, rfl⟩ ⟨rfl, rfl, rfl⟩
theorem calX11_wire : Cal yX11_wire cX11_wire 6 (some .int) 3 := ⟨kw927, kw1, by decide +kernel⟩
theorem ctX11_wire {G : Gl} {σ : Sg} {d : Dt} {r0 : Nat} {r0h : Nat} {r0p : Nat} {v1 : Int32} {v2 : Int32} {v3 : Int32} {rr : Int32 × Dt} (H0 : L10 σ r0 r0h r0p) (h : mX11_wire r0 r0h r0p v1 v2 v3 d = some rr) : CTv G yX11_wire cX11_wire 6 (some .int) 4 [.ref (gB G + r0), .int v1, .int v2, .int v3] σ d [.int rr.1] rr.2 := by
  refine CT_of pn_RX11 (Nat.le_of_ble_eq_true rfl) ?_
  rw [mX11_wire] at h
  refine V_aload_n (pc := 0) 0 dX11_wire_0 rfl rfl ?_
  refine V_aload_n (pc := 1) 0 dX11_wire_1 rfl rfl ?_
  refine V_iload_n (pc := 2) 2 dX11_wire_2 rfl rfl ?_
  refine V_iload_n (pc := 3) 3 dX11_wire_3 rfl rfl ?_
  obtain ⟨x2, h1, h⟩ := bnd h
  refine V_cV2 (pc := 4) dX11_wire_4 kw867 calX11_isPin kw869 ks37 (L10_0 H0) rfl (by decide) (Nat.le_of_ble_eq_true rfl) (ctX11_isPin H0 h1) ?_
  refine V_iload_n (pc := 7) 1 dX11_wire_7 rfl rfl ?_
  refine V_cV2 (pc := 8) dX11_wire_8 kw875 calX11_troubleOf kw877 ks38 (L10_0 H0) rfl (by decide) (Nat.le_of_ble_eq_true rfl) (ctX11_troubleOf H0) ?_
  refine V_istore (pc := 11) (lv1 := [(4, _), (0, _), (1, _), (2, _), (3, _)]) dX11_wire_11 (by decide) rfl ?_
  refine V_iload (pc := 13) 0 dX11_wire_13 rfl ?_
  refine V_if_eq (pc := 15) (tgt := 25) dX11_wire_15 (by decide) (fun c5 => ?_) (fun c5 => ?_)
  · have h := ite_p c5 h
    refine V_aload_n (pc := 25) 1 dX11_wire_25 rfl rfl ?_
    refine V_getR (pc := 26) (c := 10) (k := 2) dX11_wire_26 (by decide) (by decide) kw356 rfl rfl (L10_0 H0) (L10_r2 H0) ?_
    refine V_iload_n (pc := 29) 2 dX11_wire_29 rfl rfl ?_
    refine V_iload_n (pc := 30) 3 dX11_wire_30 rfl rfl ?_
    obtain ⟨x7, h6, h⟩ := bnd h
    refine V_cS3 (pc := 31) dX11_wire_31 kw890 calX10_pinsThere kw891 (by decide) (Nat.le_of_ble_eq_true rfl) (ctX10_pinsThere (L10_o2 H0) h6) ?_
    refine V_istore (pc := 34) (lv1 := [(5, _), (4, _), (0, _), (1, _), (2, _), (3, _)]) dX11_wire_34 (by decide) rfl ?_
    refine V_iload (pc := 36) 0 dX11_wire_36 rfl ?_
    refine V_iload_n (pc := 38) 5 dX11_wire_38 rfl rfl ?_
    refine V_cS2 (pc := 39) dX11_wire_39 kw928 calX10_has kw676 (by decide) (Nat.le_of_ble_eq_true rfl) (ctX10_has) ?_
    refine V_ifB_eq (pc := 42) (tgt := 53) dX11_wire_42 (by decide) (fun c10 => ?_) (fun c10 => ?_)
    · have h := ite_f c10 h
      refine V_aload_n (pc := 53) 2 dX11_wire_53 rfl rfl ?_
      refine V_iconst (pc := 54) (x := 5) dX11_wire_54 (by decide) ?_
      refine V_cV1 (pc := 55) dX11_wire_55 kw403 calX11_refuse kw405 ks1 (L10_0 H0) rfl (by decide) (Nat.le_of_ble_eq_true rfl) (ctX11_refuse H0) ?_
      cases h
      exact V_ret (pc := 58) dX11_wire_58 ⟨rfl, _, rfl⟩ ⟨rfl, rfl, rfl⟩
    · have h := ite_p c10 h
      refine V_iload (pc := 45) 0 dX11_wire_45 rfl ?_
      refine V_cS1 (pc := 47) dX11_wire_47 kw921 calX10_countFor kw922 (by decide) (Nat.le_of_ble_eq_true rfl) (ctX10_countFor) ?_
      refine V_if_ne (pc := 50) (tgt := 59) dX11_wire_50 (by decide) (fun c15 => ?_) (fun c15 => ?_)
      · have h := ite_n c15 h
        refine V_aload_n (pc := 59) 2 dX11_wire_59 rfl rfl ?_
        refine V_aload_n (pc := 60) 2 dX11_wire_60 rfl rfl ?_
        refine V_getR (pc := 61) (c := 10) (k := 2) dX11_wire_61 (by decide) (by decide) kw356 rfl rfl (L10_0 H0) (L10_r2 H0) ?_
        refine V_iload_n (pc := 64) 4 dX11_wire_64 rfl rfl ?_
        refine V_iload (pc := 65) 0 dX11_wire_65 rfl ?_
        refine V_iload_n (pc := 67) 5 dX11_wire_67 rfl rfl ?_
        obtain ⟨x17, h16, h⟩ := bnd h
        refine V_cS4 (pc := 68) dX11_wire_68 kw929 calX10_lengthTo kw930 (by decide) (Nat.le_of_ble_eq_true rfl) (ctX10_lengthTo (L10_o2 H0) h16) ?_
        refine V_cV1 (pc := 71) dX11_wire_71 kw720 calX11_answer kw722 ks29 (L10_0 H0) rfl (by decide) (Nat.le_of_ble_eq_true rfl) (ctX11_answer H0) ?_
        cases h
        exact V_ret (pc := 74) dX11_wire_74 ⟨rfl, _, rfl⟩ ⟨rfl, rfl, rfl⟩
      · have h := ite_p c15 h
        refine V_aload_n (pc := 53) 2 dX11_wire_53 rfl rfl ?_
        refine V_iconst (pc := 54) (x := 5) dX11_wire_54 (by decide) ?_
        refine V_cV1 (pc := 55) dX11_wire_55 kw403 calX11_refuse kw405 ks1 (L10_0 H0) rfl (by decide) (Nat.le_of_ble_eq_true rfl) (ctX11_refuse H0) ?_
        cases h
        exact V_ret (pc := 58) dX11_wire_58 ⟨rfl, _, rfl⟩ ⟨rfl, rfl, rfl⟩
  · have h := ite_n c5 h
    refine V_aload_n (pc := 18) 1 dX11_wire_18 rfl rfl ?_
    refine V_iload (pc := 19) 0 dX11_wire_19 rfl ?_
    refine V_cV1 (pc := 21) dX11_wire_21 kw403 calX11_refuse kw405 ks1 (L10_0 H0) rfl (by decide) (Nat.le_of_ble_eq_true rfl) (ctX11_refuse H0) ?_
    cases h
    exact V_ret (pc := 24) dX11_wire_24 ⟨rfl, _, rfl⟩ ⟨rfl, rfl, rfl⟩
theorem calX11_wires : Cal yX11_wires cX11_wires 4 (some .int) 2 := ⟨kw920, kw1, by decide +kernel⟩
theorem ctX11_wires {G : Gl} {σ : Sg} {d : Dt} {r0 : Nat} {r0h : Nat} {r0p : Nat} {v1 : Int32} {v2 : Int32} {rr : Int32 × Dt} (H0 : L10 σ r0 r0h r0p) (h : mX11_wires r0 r0h r0p v1 v2 d = some rr) : CTv G yX11_wires cX11_wires 4 (some .int) 3 [.ref (gB G + r0), .int v1, .int v2] σ d [.int rr.1] rr.2 := by
  refine CT_of pn_RX11 (Nat.le_of_ble_eq_true rfl) ?_
  rw [mX11_wires] at h
  refine V_aload_n (pc := 0) 0 dX11_wires_0 rfl rfl ?_
  refine V_aload_n (pc := 1) 0 dX11_wires_1 rfl rfl ?_
  refine V_iload_n (pc := 2) 2 dX11_wires_2 rfl rfl ?_
  refine V_cV1 (pc := 3) dX11_wires_3 kw859 calX11_isNet kw861 ks36 (L10_0 H0) rfl (by decide) (Nat.le_of_ble_eq_true rfl) (ctX11_isNet H0) ?_
  refine V_iload_n (pc := 6) 1 dX11_wires_6 rfl rfl ?_
  refine V_cV2 (pc := 7) dX11_wires_7 kw875 calX11_troubleOf kw877 ks38 (L10_0 H0) rfl (by decide) (Nat.le_of_ble_eq_true rfl) (ctX11_troubleOf H0) ?_
  refine V_istore_n (pc := 10) (lv1 := [(3, _), (0, _), (1, _), (2, _)]) dX11_wires_10 rfl (by decide) rfl ?_
  refine V_iload_n (pc := 11) 0 dX11_wires_11 rfl rfl ?_
  refine V_if_eq (pc := 12) (tgt := 21) dX11_wires_12 (by decide) (fun c5 => ?_) (fun c5 => ?_)
  · have h := ite_p c5 h
    refine V_aload_n (pc := 21) 1 dX11_wires_21 rfl rfl ?_
    refine V_aload_n (pc := 22) 1 dX11_wires_22 rfl rfl ?_
    refine V_getR (pc := 23) (c := 10) (k := 2) dX11_wires_23 (by decide) (by decide) kw356 rfl rfl (L10_0 H0) (L10_r2 H0) ?_
    refine V_iload_n (pc := 26) 2 dX11_wires_26 rfl rfl ?_
    refine V_iload_n (pc := 27) 3 dX11_wires_27 rfl rfl ?_
    obtain ⟨x7, h6, h⟩ := bnd h
    refine V_cS3 (pc := 28) dX11_wires_28 kw890 calX10_pinsThere kw891 (by decide) (Nat.le_of_ble_eq_true rfl) (ctX10_pinsThere (L10_o2 H0) h6) ?_
    refine V_cS1 (pc := 31) dX11_wires_31 kw921 calX10_countFor kw922 (by decide) (Nat.le_of_ble_eq_true rfl) (ctX10_countFor) ?_
    refine V_cV1 (pc := 34) dX11_wires_34 kw720 calX11_answer kw722 ks29 (L10_0 H0) rfl (by decide) (Nat.le_of_ble_eq_true rfl) (ctX11_answer H0) ?_
    cases h
    exact V_ret (pc := 37) dX11_wires_37 ⟨rfl, _, rfl⟩ ⟨rfl, rfl, rfl⟩
  · have h := ite_n c5 h
    refine V_aload_n (pc := 15) 1 dX11_wires_15 rfl rfl ?_
    refine V_iload_n (pc := 16) 0 dX11_wires_16 rfl rfl ?_
    refine V_cV1 (pc := 17) dX11_wires_17 kw403 calX11_refuse kw405 ks1 (L10_0 H0) rfl (by decide) (Nat.le_of_ble_eq_true rfl) (ctX11_refuse H0) ?_
    cases h
    exact V_ret (pc := 20) dX11_wires_20 ⟨rfl, _, rfl⟩ ⟨rfl, rfl, rfl⟩
theorem calX12_in : Cal yX12_in cX12_in 3 (some .boolean) 3 := ⟨kw1367, kw11, by decide +kernel⟩
theorem ctX12_in {G : Gl} {σ : Sg} {d : Dt} {v0 : Int32} {v1 : Int32} {v2 : Int32} : CTv G yX12_in cX12_in 3 (some .boolean) 0 [.int v0, .int v1, .int v2] σ d [.int (b2i (mX12_in v0 v1 v2))] d := by
  refine CT_of pn_RX12 (Nat.le_of_ble_eq_true rfl) ?_
  generalize h : mX12_in v0 v1 v2 = rr
  rw [mX12_in] at h
  refine V_iload_n (pc := 0) 0 dX12_in_0 rfl rfl ?_
  refine V_iload_n (pc := 1) 1 dX12_in_1 rfl rfl ?_
  refine V_icmp_lt (pc := 2) (tgt := 14) dX12_in_2 (by decide) (fun c1 => ?_) (fun c1 => ?_)
  · have h := ite_p c1 h
    refine V_iconst (pc := 14) (x := 0) dX12_in_14 (by decide) ?_
    subst h
    exact V_ret (pc := 15) dX12_in_15 ⟨rfl, _, rfl, rfl⟩ ⟨rfl, rfl, rfl⟩
  · have h := ite_n c1 h
    refine V_iload_n (pc := 5) 0 dX12_in_5 rfl rfl ?_
    refine V_iload_n (pc := 6) 2 dX12_in_6 rfl rfl ?_
    refine V_icmp_gt (pc := 7) (tgt := 14) dX12_in_7 (by decide) (fun c2 => ?_) (fun c2 => ?_)
    · have h := ite_p c2 h
      refine V_iconst (pc := 14) (x := 0) dX12_in_14 (by decide) ?_
      subst h
      exact V_ret (pc := 15) dX12_in_15 ⟨rfl, _, rfl, rfl⟩ ⟨rfl, rfl, rfl⟩
    · have h := ite_n c2 h
      refine V_iconst (pc := 10) (x := 1) dX12_in_10 (by decide) ?_
      refine V_goto (pc := 11) (tgt := 15) dX12_in_11 (by decide) ?_
      subst h
      exact V_ret (pc := 15) dX12_in_15 ⟨rfl, _, rfl, rfl⟩ ⟨rfl, rfl, rfl⟩
theorem calX12_unless : Cal yX12_unless cX12_unless 1 (some .int) 1 := ⟨kw1525, kw11, by decide +kernel⟩
theorem ctX12_unless {G : Gl} {σ : Sg} {d : Dt} {v0 : Int32} : CTv G yX12_unless cX12_unless 1 (some .int) 0 [.int v0] σ d [.int (mX12_unless v0)] d := by
  refine CT_of pn_RX12 (Nat.le_of_ble_eq_true rfl) ?_
  generalize h : mX12_unless v0 = rr
  rw [mX12_unless] at h
  refine V_iload_n (pc := 0) 0 dX12_unless_0 rfl rfl ?_
  refine V_if_eq (pc := 1) (tgt := 8) dX12_unless_1 (by decide) (fun c1 => ?_) (fun c1 => ?_)
  · have h := ite_p c1 h
    refine V_iconst (pc := 8) (x := 1) dX12_unless_8 (by decide) ?_
    subst h
    exact V_ret (pc := 9) dX12_unless_9 ⟨rfl, _, rfl⟩ ⟨rfl, rfl, rfl⟩
  · have h := ite_n c1 h
    refine V_iconst (pc := 4) (x := 0) dX12_unless_4 (by decide) ?_
    refine V_goto (pc := 5) (tgt := 9) dX12_unless_5 (by decide) ?_
    subst h
    exact V_ret (pc := 9) dX12_unless_9 ⟨rfl, _, rfl⟩ ⟨rfl, rfl, rfl⟩
theorem calX12_isRefused : Cal yX12_isRefused cX12_isRefused 2 (some .boolean) 1 := ⟨kw1371, kw11, by decide +kernel⟩
theorem ctX12_isRefused {G : Gl} {σ : Sg} {d : Dt} {r0 : Nat} {v1 : Int32} (H0 : L11 σ r0) : CTv G yX12_isRefused cX12_isRefused 2 (some .boolean) 0 [.ref (gB G + r0), .int v1] σ d [.int (b2i (mX12_isRefused r0 v1 d).1)] (mX12_isRefused r0 v1 d).2 := by
  refine CT_of pn_RX12 (Nat.le_of_ble_eq_true rfl) ?_
  generalize h : mX12_isRefused r0 v1 d = rr
  rw [mX12_isRefused] at h
  refine V_aload_n (pc := 0) 0 dX12_isRefused_0 rfl rfl ?_
  refine V_iconst (pc := 1) (x := 0) dX12_isRefused_1 (by decide) ?_
  refine V_putI (pc := 2) (c := 11) (k := 0) dX12_isRefused_2 (by decide) (by decide) kw1243 rfl rfl rfl ⟨rfl, rfl⟩ (L11_0 H0) ?_
  refine V_aload_n (pc := 5) 0 dX12_isRefused_5 rfl rfl ?_
  refine V_iconst (pc := 6) (x := (-1)) dX12_isRefused_6 (by decide) ?_
  refine V_putI (pc := 7) (c := 11) (k := 3) dX12_isRefused_7 (by decide) (by decide) kw1246 rfl rfl rfl ⟨rfl, rfl⟩ (L11_0 H0) ?_
  refine V_aload_n (pc := 10) 0 dX12_isRefused_10 rfl rfl ?_
  refine V_iload_n (pc := 11) 1 dX12_isRefused_11 rfl rfl ?_
  refine V_putI (pc := 12) (c := 11) (k := 1) dX12_isRefused_12 (by decide) (by decide) kw1244 rfl rfl rfl ⟨rfl, rfl⟩ (L11_0 H0) ?_
  refine V_iload_n (pc := 15) 1 dX12_isRefused_15 rfl rfl ?_
  refine V_if_eq (pc := 16) (tgt := 23) dX12_isRefused_16 (by decide) (fun c1 => ?_) (fun c1 => ?_)
  · have h := ite_p c1 h
    refine V_iconst (pc := 23) (x := 0) dX12_isRefused_23 (by decide) ?_
    subst h
    exact V_ret (pc := 24) dX12_isRefused_24 ⟨rfl, _, rfl, rfl⟩ ⟨rfl, rfl, rfl⟩
  · have h := ite_n c1 h
    refine V_iconst (pc := 19) (x := 1) dX12_isRefused_19 (by decide) ?_
    refine V_goto (pc := 20) (tgt := 24) dX12_isRefused_20 (by decide) ?_
    subst h
    exact V_ret (pc := 24) dX12_isRefused_24 ⟨rfl, _, rfl, rfl⟩ ⟨rfl, rfl, rfl⟩
theorem wX12_about_23 {G : Gl} {σ : Sg} {d : Dt} {r0 : Nat} {v1 : Int32} {vs0 : Int32} {rs1 : Nat} {rr : Int32 × Dt} (H0 : L11 σ r0) (Hs1 : L11 σ rs1) (h : mX12_about_23 r0 v1 vs0 rs1 d = some rr) : V G yX12_about cX12_about 2 (some .int) 1 0 0 (PH [.int rr.1] σ rr.2) 23 [(0, .ref (gB G + r0)), (1, .int v1)] [.int vs0, .ref (gB G + rs1)] σ d := by
  rw [mX12_about_23] at h
  refine V_cS1 (pc := 23) dX12_about_23 kw1523 calX12_unless kw1524 (by decide) (Nat.le_of_ble_eq_true rfl) (ctX12_unless) ?_
  refine V_cV1 (pc := 26) dX12_about_26 kw1368 calX12_isRefused kw1370 ks54 (L11_0 Hs1) rfl (by decide) (Nat.le_of_ble_eq_true rfl) (ctX12_isRefused Hs1) ?_
  refine V_ifB_eq (pc := 29) (tgt := 36) dX12_about_29 (by decide) (fun c9 => ?_) (fun c9 => ?_)
  · have h := ite_f c9 h
    refine V_aload_n (pc := 36) 0 dX12_about_36 rfl rfl ?_
    refine V_getR (pc := 37) (c := 11) (k := 6) dX12_about_37 (by decide) (by decide) kw1249 rfl rfl (L11_0 H0) (L11_r6 H0) ?_
    refine V_iload_n (pc := 40) 1 dX12_about_40 rfl rfl ?_
    obtain ⟨b10, h⟩ := ite_o h
    refine V_iald (pc := 41) dX12_about_41 (L11_s6 H0) (inB_vp b10) ?_
    cases h
    exact V_ret (pc := 42) dX12_about_42 ⟨rfl, _, rfl⟩ ⟨rfl, rfl, rfl⟩
  · have h := ite_p c9 h
    refine V_iconst (pc := 32) (x := (-1)) dX12_about_32 (by decide) ?_
    refine V_goto (pc := 33) (tgt := 42) dX12_about_33 (by decide) ?_
    cases h
    exact V_ret (pc := 42) dX12_about_42 ⟨rfl, _, rfl⟩ ⟨rfl, rfl, rfl⟩
theorem calX12_about : Cal yX12_about cX12_about 2 (some .int) 1 := ⟨kw1522, kw11, by decide +kernel⟩
theorem ctX12_about {G : Gl} {σ : Sg} {d : Dt} {r0 : Nat} {v1 : Int32} {rr : Int32 × Dt} (H0 : L11 σ r0) (h : mX12_about r0 v1 d = some rr) : CTv G yX12_about cX12_about 2 (some .int) 1 [.ref (gB G + r0), .int v1] σ d [.int rr.1] rr.2 := by
  refine CT_of pn_RX12 (Nat.le_of_ble_eq_true rfl) ?_
  rw [mX12_about] at h
  refine V_aload_n (pc := 0) 0 dX12_about_0 rfl rfl ?_
  refine V_aload_n (pc := 1) 0 dX12_about_1 rfl rfl ?_
  refine V_getI (pc := 2) (c := 11) (k := 14) dX12_about_2 (by decide) (by decide) kw1257 rfl rfl (L11_0 H0) ?_
  refine V_if_eq (pc := 5) (tgt := 22) dX12_about_5 (by decide) (fun c1 => ?_) (fun c1 => ?_)
  · have h := ite_p c1 h
    refine V_iconst (pc := 22) (x := 0) dX12_about_22 (by decide) ?_
    exact V_sub [0, 1] rfl (wX12_about_23 H0 H0 h)
  · have h := ite_n c1 h
    refine V_iload_n (pc := 8) 1 dX12_about_8 rfl rfl ?_
    refine V_iconst (pc := 9) (x := 0) dX12_about_9 (by decide) ?_
    refine V_bipush (pc := 10) (x := 6) dX12_about_10 (by decide) ?_
    refine V_cS3 (pc := 12) dX12_about_12 kw1365 calX12_in kw1366 (by decide) (Nat.le_of_ble_eq_true rfl) (ctX12_in) ?_
    refine V_ifB_eq (pc := 15) (tgt := 22) dX12_about_15 (by decide) (fun c4 => ?_) (fun c4 => ?_)
    · have h := ite_f c4 h
      refine V_iconst (pc := 22) (x := 0) dX12_about_22 (by decide) ?_
      exact V_sub [0, 1] rfl (wX12_about_23 H0 H0 h)
    · have h := ite_p c4 h
      refine V_iconst (pc := 18) (x := 1) dX12_about_18 (by decide) ?_
      refine V_goto (pc := 19) (tgt := 23) dX12_about_19 (by decide) ?_
      exact V_sub [0, 1] rfl (wX12_about_23 H0 H0 h)
theorem wX12_isWord_28 {G : Gl} {σ : Sg} {d : Dt} {r0 : Nat} {k1 : Nat} {rr : Bool} (H0 : L11 σ r0) (H1 : k1 < strN) : ∀ (n : Nat) (v2 : Int32), mX12_isWord_28 d r0 k1 n v2 = some rr → V G yX12_isWord cX12_isWord 3 (some .boolean) 6 0 0 (PH [.int (b2i rr)] σ d) 28 [(0, .ref (gB G + r0)), (1, .ref (gK G k1)), (2, .int v2)] [] σ d := by
  intro n
  induction n with
  | zero =>
    intro v2
    intros
    rename_i h
    exact absurd h (by rw [mX12_isWord_28]; exact fun q => nomatch q)
  | succ n ih =>
    intro v2 h
    rw [mX12_isWord_28] at h
    refine V_iload_n (pc := 28) 2 dX12_isWord_28 rfl rfl ?_
    refine V_aload_n (pc := 29) 1 dX12_isWord_29 rfl rfl ?_
    refine V_callK (pc := 30) (As := []) dX12_isWord_30 kw1393 cal_strlen kw433 kw434 H1 rfl (by decide) (Nat.le_of_ble_eq_true rfl) rfl (c_strlen H1) ?_
    refine V_icmp_ge (pc := 33) (tgt := 63) dX12_isWord_33 (by decide) (fun c3 => ?_) (fun c3 => ?_)
    · have h := ite_p c3 h
      refine V_iconst (pc := 63) (x := 1) dX12_isWord_63 (by decide) ?_
      cases h
      exact V_ret (pc := 64) dX12_isWord_64 ⟨rfl, _, rfl, rfl⟩ ⟨rfl, rfl, rfl⟩
    · have h := ite_n c3 h
      refine V_aload_n (pc := 36) 0 dX12_isWord_36 rfl rfl ?_
      refine V_getR (pc := 37) (c := 11) (k := 4) dX12_isWord_37 (by decide) (by decide) kw1247 rfl rfl (L11_0 H0) (L11_r4 H0) ?_
      refine V_aload_n (pc := 40) 0 dX12_isWord_40 rfl rfl ?_
      refine V_getI (pc := 41) (c := 11) (k := 16) dX12_isWord_41 (by decide) (by decide) kw1259 rfl rfl (L11_0 H0) ?_
      refine V_iload_n (pc := 44) 2 dX12_isWord_44 rfl rfl ?_
      refine V_iadd (pc := 45) dX12_isWord_45 ?_
      obtain ⟨b4, h⟩ := ite_o h
      refine V_iald (pc := 46) dX12_isWord_46 (L11_s4 H0) (inB_vp b4) ?_
      refine V_aload_n (pc := 47) 1 dX12_isWord_47 rfl rfl ?_
      refine V_iload_n (pc := 48) 2 dX12_isWord_48 rfl rfl ?_
      obtain ⟨b5, h⟩ := ite_o h
      refine V_callK (pc := 49) (As := [_]) dX12_isWord_49 kw1394 cal_charAt kw443 kw444 H1 rfl (by decide) (Nat.le_of_ble_eq_true rfl) rfl (c_charAt H1 (inB_vp b5)) ?_
      refine V_icmp_eq (pc := 52) (tgt := 57) dX12_isWord_52 (by decide) (fun c6 => ?_) (fun c6 => ?_)
      · have h := ite_p c6 h
        refine V_iinc (pc := 57) (lv1 := [(2, _), (0, _), (1, _)]) (z := _ + (1 : Int32)) 2 dX12_isWord_57 rfl rfl (by decide) rfl ?_
        refine V_goto (pc := 60) (tgt := 28) dX12_isWord_60 (by decide) ?_
        exact V_sub [1, 2, 0] rfl (ih (v2 + (1 : Int32)) h)
      · have h := ite_n c6 h
        refine V_iconst (pc := 55) (x := 0) dX12_isWord_55 (by decide) ?_
        cases h
        exact V_ret (pc := 56) dX12_isWord_56 ⟨rfl, _, rfl, rfl⟩ ⟨rfl, rfl, rfl⟩
theorem calX12_isWord : Cal yX12_isWord cX12_isWord 3 (some .boolean) 1 := ⟨kw1392, kw11, by decide +kernel⟩
theorem ctX12_isWord {G : Gl} {σ : Sg} {d : Dt} {r0 : Nat} {k1 : Nat} {rr : Bool} (H0 : L11 σ r0) (H1 : k1 < strN) (h : mX12_isWord r0 k1 d = some rr) : CTv G yX12_isWord cX12_isWord 3 (some .boolean) 6 [.ref (gB G + r0), .ref (gK G k1)] σ d [.int (b2i rr)] d := by
  refine CT_of pn_RX12 (Nat.le_of_ble_eq_true rfl) ?_
  rw [mX12_isWord] at h
  refine V_aload_n (pc := 0) 0 dX12_isWord_0 rfl rfl ?_
  refine V_getI (pc := 1) (c := 11) (k := 18) dX12_isWord_1 (by decide) (by decide) kw1261 rfl rfl (L11_0 H0) ?_
  refine V_iconst (pc := 4) (x := 2) dX12_isWord_4 (by decide) ?_
  refine V_icmp_ne (pc := 5) (tgt := 24) dX12_isWord_5 (by decide) (fun c1 => ?_) (fun c1 => ?_)
  · have h := ite_n c1 h
    refine V_iconst (pc := 24) (x := 0) dX12_isWord_24 (by decide) ?_
    cases h
    exact V_ret (pc := 25) dX12_isWord_25 ⟨rfl, _, rfl, rfl⟩ ⟨rfl, rfl, rfl⟩
  · have h := ite_p c1 h
    refine V_aload_n (pc := 8) 0 dX12_isWord_8 rfl rfl ?_
    refine V_getI (pc := 9) (c := 11) (k := 17) dX12_isWord_9 (by decide) (by decide) kw1260 rfl rfl (L11_0 H0) ?_
    refine V_aload_n (pc := 12) 0 dX12_isWord_12 rfl rfl ?_
    refine V_getI (pc := 13) (c := 11) (k := 16) dX12_isWord_13 (by decide) (by decide) kw1259 rfl rfl (L11_0 H0) ?_
    refine V_isub (pc := 16) dX12_isWord_16 ?_
    refine V_aload_n (pc := 17) 1 dX12_isWord_17 rfl rfl ?_
    refine V_callK (pc := 18) (As := []) dX12_isWord_18 kw1393 cal_strlen kw433 kw434 H1 rfl (by decide) (Nat.le_of_ble_eq_true rfl) rfl (c_strlen H1) ?_
    refine V_icmp_eq (pc := 21) (tgt := 26) dX12_isWord_21 (by decide) (fun c2 => ?_) (fun c2 => ?_)
    · have h := ite_p c2 h
      refine V_iconst (pc := 26) (x := 0) dX12_isWord_26 (by decide) ?_
      refine V_istore_n (pc := 27) (lv1 := [(2, _), (0, _), (1, _)]) dX12_isWord_27 rfl (by decide) rfl ?_
      exact V_sub [1, 2, 0] rfl (wX12_isWord_28 H0 H1 FUEL (0 : Int32) h)
    · have h := ite_n c2 h
      refine V_iconst (pc := 24) (x := 0) dX12_isWord_24 (by decide) ?_
      cases h
      exact V_ret (pc := 25) dX12_isWord_25 ⟨rfl, _, rfl, rfl⟩ ⟨rfl, rfl, rfl⟩
theorem calX12_errs : Cal yX12_errs cX12_errs 2 (some .int) 1 := ⟨kw1402, kw11, by decide +kernel⟩
theorem ctX12_errs {G : Gl} {σ : Sg} {d : Dt} {r0 : Nat} {v1 : Int32} (H0 : L11 σ r0) : CTv G yX12_errs cX12_errs 2 (some .int) 0 [.ref (gB G + r0), .int v1] σ d [.int (mX12_errs r0 v1 d).1] (mX12_errs r0 v1 d).2 := by
  refine CT_of pn_RX12 (Nat.le_of_ble_eq_true rfl) ?_
  generalize h : mX12_errs r0 v1 d = rr
  rw [mX12_errs] at h
  refine V_aload_n (pc := 0) 0 dX12_errs_0 rfl rfl ?_
  refine V_iload_n (pc := 1) 1 dX12_errs_1 rfl rfl ?_
  refine V_putI (pc := 2) (c := 11) (k := 20) dX12_errs_2 (by decide) (by decide) kw1263 rfl rfl rfl ⟨rfl, rfl⟩ (L11_0 H0) ?_
  refine V_aload_n (pc := 5) 0 dX12_errs_5 rfl rfl ?_
  refine V_aload_n (pc := 6) 0 dX12_errs_6 rfl rfl ?_
  refine V_getI (pc := 7) (c := 11) (k := 16) dX12_errs_7 (by decide) (by decide) kw1259 rfl rfl (L11_0 H0) ?_
  refine V_putI (pc := 10) (c := 11) (k := 21) dX12_errs_10 (by decide) (by decide) kw1264 rfl rfl rfl ⟨rfl, rfl⟩ (L11_0 H0) ?_
  refine V_iconst (pc := 13) (x := (-1)) dX12_errs_13 (by decide) ?_
  subst h
  exact V_ret (pc := 14) dX12_errs_14 ⟨rfl, _, rfl⟩ ⟨rfl, rfl, rfl⟩
theorem calX12_see : Cal yX12_see cX12_see 2 (some .int) 1 := ⟨kw1383, kw11, by decide +kernel⟩
theorem ctX12_see {G : Gl} {σ : Sg} {d : Dt} {r0 : Nat} {v1 : Int32} {rr : Int32} (H0 : L11 σ r0) (h : mX12_see r0 v1 d = some rr) : CTv G yX12_see cX12_see 2 (some .int) 0 [.ref (gB G + r0), .int v1] σ d [.int rr] d := by
  refine CT_of pn_RX12 (Nat.le_of_ble_eq_true rfl) ?_
  rw [mX12_see] at h
  refine V_iload_n (pc := 0) 1 dX12_see_0 rfl rfl ?_
  refine V_aload_n (pc := 1) 0 dX12_see_1 rfl rfl ?_
  refine V_getI (pc := 2) (c := 11) (k := 15) dX12_see_2 (by decide) (by decide) kw1258 rfl rfl (L11_0 H0) ?_
  refine V_icmp_ge (pc := 5) (tgt := 17) dX12_see_5 (by decide) (fun c1 => ?_) (fun c1 => ?_)
  · have h := ite_p c1 h
    refine V_iconst (pc := 17) (x := (-1)) dX12_see_17 (by decide) ?_
    cases h
    exact V_ret (pc := 18) dX12_see_18 ⟨rfl, _, rfl⟩ ⟨rfl, rfl, rfl⟩
  · have h := ite_n c1 h
    refine V_aload_n (pc := 8) 0 dX12_see_8 rfl rfl ?_
    refine V_getR (pc := 9) (c := 11) (k := 4) dX12_see_9 (by decide) (by decide) kw1247 rfl rfl (L11_0 H0) (L11_r4 H0) ?_
    refine V_iload_n (pc := 12) 1 dX12_see_12 rfl rfl ?_
    obtain ⟨b2, h⟩ := ite_o h
    refine V_iald (pc := 13) dX12_see_13 (L11_s4 H0) (inB_vp b2) ?_
    refine V_goto (pc := 14) (tgt := 18) dX12_see_14 (by decide) ?_
    cases h
    exact V_ret (pc := 18) dX12_see_18 ⟨rfl, _, rfl⟩ ⟨rfl, rfl, rfl⟩
theorem wX12_goesOn_136 {G : Gl} {σ : Sg} {r0 : Nat} {rr : Dt} (H0 : L11 σ r0) : ∀ (n : Nat) (d : Dt), mX12_goesOn_136 r0 n d = some rr → V G yX12_goesOn cX12_goesOn 2 none 1 0 0 (PH [] σ rr) 136 [(0, .ref (gB G + r0))] [] σ d := by
  intro n
  induction n with
  | zero =>
    intro d
    intros
    rename_i h
    exact absurd h (by rw [mX12_goesOn_136]; exact fun q => nomatch q)
  | succ n ih =>
    intro d h
    rw [mX12_goesOn_136] at h
    refine V_aload_n (pc := 136) 0 dX12_goesOn_136 rfl rfl ?_
    refine V_aload_n (pc := 137) 0 dX12_goesOn_137 rfl rfl ?_
    refine V_getI (pc := 138) (c := 11) (k := 17) dX12_goesOn_138 (by decide) (by decide) kw1260 rfl rfl (L11_0 H0) ?_
    obtain ⟨x16, h15, h⟩ := bnd h
    refine V_cV1 (pc := 141) dX12_goesOn_141 kw1380 calX12_see kw1382 ks57 (L11_0 H0) rfl (by decide) (Nat.le_of_ble_eq_true rfl) (ctX12_see H0 h15) ?_
    refine V_bipush (pc := 144) (x := 48) dX12_goesOn_144 (by decide) ?_
    refine V_bipush (pc := 146) (x := 57) dX12_goesOn_146 (by decide) ?_
    refine V_cS3 (pc := 148) dX12_goesOn_148 kw1365 calX12_in kw1366 (by decide) (Nat.le_of_ble_eq_true rfl) (ctX12_in) ?_
    refine V_ifB_eq (pc := 151) (tgt := 210) dX12_goesOn_151 (by decide) (fun c19 => ?_) (fun c19 => ?_)
    · have h := ite_f c19 h
      refine V_aload_n (pc := 210) 0 dX12_goesOn_210 rfl rfl ?_
      refine V_aload_n (pc := 211) 0 dX12_goesOn_211 rfl rfl ?_
      refine V_getI (pc := 212) (c := 11) (k := 17) dX12_goesOn_212 (by decide) (by decide) kw1260 rfl rfl (L11_0 H0) ?_
      refine V_aload_n (pc := 215) 0 dX12_goesOn_215 rfl rfl ?_
      refine V_getI (pc := 216) (c := 11) (k := 16) dX12_goesOn_216 (by decide) (by decide) kw1259 rfl rfl (L11_0 H0) ?_
      refine V_isub (pc := 219) dX12_goesOn_219 ?_
      refine V_iconst (pc := 220) (x := 3) dX12_goesOn_220 (by decide) ?_
      refine V_icmp_le (pc := 221) (tgt := 228) dX12_goesOn_221 (by decide) (fun c20 => ?_) (fun c20 => ?_)
      · have h := ite_p c20 h
        refine V_iconst (pc := 228) (x := 3) dX12_goesOn_228 (by decide) ?_
        refine V_putI (pc := 229) (c := 11) (k := 18) dX12_goesOn_229 (by decide) (by decide) kw1261 rfl rfl rfl ⟨rfl, rfl⟩ (L11_0 H0) ?_
        cases h
        exact V_ret (pc := 232) dX12_goesOn_232 ⟨rfl, rfl⟩ ⟨rfl, rfl, rfl⟩
      · have h := ite_n c20 h
        refine V_iconst (pc := 224) (x := 1) dX12_goesOn_224 (by decide) ?_
        refine V_goto (pc := 225) (tgt := 229) dX12_goesOn_225 (by decide) ?_
        refine V_putI (pc := 229) (c := 11) (k := 18) dX12_goesOn_229 (by decide) (by decide) kw1261 rfl rfl rfl ⟨rfl, rfl⟩ (L11_0 H0) ?_
        cases h
        exact V_ret (pc := 232) dX12_goesOn_232 ⟨rfl, rfl⟩ ⟨rfl, rfl, rfl⟩
    · have h := ite_p c19 h
      refine V_aload_n (pc := 154) 0 dX12_goesOn_154 rfl rfl ?_
      refine V_aload_n (pc := 155) 0 dX12_goesOn_155 rfl rfl ?_
      refine V_getI (pc := 156) (c := 11) (k := 17) dX12_goesOn_156 (by decide) (by decide) kw1260 rfl rfl (L11_0 H0) ?_
      refine V_aload_n (pc := 159) 0 dX12_goesOn_159 rfl rfl ?_
      refine V_getI (pc := 160) (c := 11) (k := 16) dX12_goesOn_160 (by decide) (by decide) kw1259 rfl rfl (L11_0 H0) ?_
      refine V_isub (pc := 163) dX12_goesOn_163 ?_
      refine V_iconst (pc := 164) (x := 3) dX12_goesOn_164 (by decide) ?_
      refine V_icmp_ge (pc := 165) (tgt := 190) dX12_goesOn_165 (by decide) (fun c21 => ?_) (fun c21 => ?_)
      · have h := ite_p c21 h
        refine V_aload_n (pc := 190) 0 dX12_goesOn_190 rfl rfl ?_
        refine V_getI (pc := 191) (c := 11) (k := 19) dX12_goesOn_191 (by decide) (by decide) kw1262 rfl rfl (L11_0 H0) ?_
        refine V_putI (pc := 194) (c := 11) (k := 19) dX12_goesOn_194 (by decide) (by decide) kw1262 rfl rfl rfl ⟨rfl, rfl⟩ (L11_0 H0) ?_
        refine V_aload_n (pc := 197) 0 dX12_goesOn_197 rfl rfl ?_
        refine V_dup (pc := 198) dX12_goesOn_198 rfl ?_
        refine V_getI (pc := 199) (c := 11) (k := 17) dX12_goesOn_199 (by decide) (by decide) kw1260 rfl rfl (L11_0 H0) ?_
        refine V_iconst (pc := 202) (x := 1) dX12_goesOn_202 (by decide) ?_
        refine V_iadd (pc := 203) dX12_goesOn_203 ?_
        refine V_putI (pc := 204) (c := 11) (k := 17) dX12_goesOn_204 (by decide) (by decide) kw1260 rfl rfl rfl ⟨rfl, rfl⟩ (L11_0 H0) ?_
        refine V_goto (pc := 207) (tgt := 136) dX12_goesOn_207 (by decide) ?_
        exact V_sub [0] rfl (ih (uI (uI d r0 19 (d.1 r0 19)) r0 17 (((uI d r0 19 (d.1 r0 19)).1 r0 17) + (1 : Int32))) h)
      · have h := ite_n c21 h
        refine V_bipush (pc := 168) (x := 10) dX12_goesOn_168 (by decide) ?_
        refine V_aload_n (pc := 170) 0 dX12_goesOn_170 rfl rfl ?_
        refine V_getI (pc := 171) (c := 11) (k := 19) dX12_goesOn_171 (by decide) (by decide) kw1262 rfl rfl (L11_0 H0) ?_
        refine V_imul (pc := 174) dX12_goesOn_174 ?_
        refine V_aload_n (pc := 175) 0 dX12_goesOn_175 rfl rfl ?_
        refine V_aload_n (pc := 176) 0 dX12_goesOn_176 rfl rfl ?_
        refine V_getI (pc := 177) (c := 11) (k := 17) dX12_goesOn_177 (by decide) (by decide) kw1260 rfl rfl (L11_0 H0) ?_
        obtain ⟨x23, h22, h⟩ := bnd h
        refine V_cV1 (pc := 180) dX12_goesOn_180 kw1380 calX12_see kw1382 ks57 (L11_0 H0) rfl (by decide) (Nat.le_of_ble_eq_true rfl) (ctX12_see H0 h22) ?_
        refine V_iadd (pc := 183) dX12_goesOn_183 ?_
        refine V_bipush (pc := 184) (x := 48) dX12_goesOn_184 (by decide) ?_
        refine V_isub (pc := 186) dX12_goesOn_186 ?_
        refine V_goto (pc := 187) (tgt := 194) dX12_goesOn_187 (by decide) ?_
        refine V_putI (pc := 194) (c := 11) (k := 19) dX12_goesOn_194 (by decide) (by decide) kw1262 rfl rfl rfl ⟨rfl, rfl⟩ (L11_0 H0) ?_
        refine V_aload_n (pc := 197) 0 dX12_goesOn_197 rfl rfl ?_
        refine V_dup (pc := 198) dX12_goesOn_198 rfl ?_
        refine V_getI (pc := 199) (c := 11) (k := 17) dX12_goesOn_199 (by decide) (by decide) kw1260 rfl rfl (L11_0 H0) ?_
        refine V_iconst (pc := 202) (x := 1) dX12_goesOn_202 (by decide) ?_
        refine V_iadd (pc := 203) dX12_goesOn_203 ?_
        refine V_putI (pc := 204) (c := 11) (k := 17) dX12_goesOn_204 (by decide) (by decide) kw1260 rfl rfl rfl ⟨rfl, rfl⟩ (L11_0 H0) ?_
        refine V_goto (pc := 207) (tgt := 136) dX12_goesOn_207 (by decide) ?_
        exact V_sub [0] rfl (ih (uI (uI d r0 19 ((((10 : Int32) * (d.1 r0 19)) + x23) - (48 : Int32))) r0 17 (((uI d r0 19 ((((10 : Int32) * (d.1 r0 19)) + x23) - (48 : Int32))).1 r0 17) + (1 : Int32))) h)
theorem wX12_goesOn_65 {G : Gl} {σ : Sg} {r0 : Nat} {rr : Dt} (H0 : L11 σ r0) : ∀ (n : Nat) (d : Dt), mX12_goesOn_65 r0 n d = some rr → V G yX12_goesOn cX12_goesOn 2 none 1 0 0 (PH [] σ rr) 65 [(0, .ref (gB G + r0))] [] σ d := by
  intro n
  induction n with
  | zero =>
    intro d
    intros
    rename_i h
    exact absurd h (by rw [mX12_goesOn_65]; exact fun q => nomatch q)
  | succ n ih =>
    intro d h
    rw [mX12_goesOn_65] at h
    refine V_aload_n (pc := 65) 0 dX12_goesOn_65 rfl rfl ?_
    refine V_aload_n (pc := 66) 0 dX12_goesOn_66 rfl rfl ?_
    refine V_getI (pc := 67) (c := 11) (k := 17) dX12_goesOn_67 (by decide) (by decide) kw1260 rfl rfl (L11_0 H0) ?_
    obtain ⟨x25, h24, h⟩ := bnd h
    refine V_cV1 (pc := 70) dX12_goesOn_70 kw1380 calX12_see kw1382 ks57 (L11_0 H0) rfl (by decide) (Nat.le_of_ble_eq_true rfl) (ctX12_see H0 h24) ?_
    refine V_bipush (pc := 73) (x := 97) dX12_goesOn_73 (by decide) ?_
    refine V_bipush (pc := 75) (x := 122) dX12_goesOn_75 (by decide) ?_
    refine V_cS3 (pc := 77) dX12_goesOn_77 kw1365 calX12_in kw1366 (by decide) (Nat.le_of_ble_eq_true rfl) (ctX12_in) ?_
    refine V_ifB_eq (pc := 80) (tgt := 96) dX12_goesOn_80 (by decide) (fun c28 => ?_) (fun c28 => ?_)
    · have h := ite_f c28 h
      refine V_aload_n (pc := 96) 0 dX12_goesOn_96 rfl rfl ?_
      refine V_aload_n (pc := 97) 0 dX12_goesOn_97 rfl rfl ?_
      refine V_getI (pc := 98) (c := 11) (k := 17) dX12_goesOn_98 (by decide) (by decide) kw1260 rfl rfl (L11_0 H0) ?_
      refine V_aload_n (pc := 101) 0 dX12_goesOn_101 rfl rfl ?_
      refine V_getI (pc := 102) (c := 11) (k := 16) dX12_goesOn_102 (by decide) (by decide) kw1259 rfl rfl (L11_0 H0) ?_
      refine V_isub (pc := 105) dX12_goesOn_105 ?_
      refine V_bipush (pc := 106) (x := 7) dX12_goesOn_106 (by decide) ?_
      refine V_icmp_le (pc := 108) (tgt := 115) dX12_goesOn_108 (by decide) (fun c29 => ?_) (fun c29 => ?_)
      · have h := ite_p c29 h
        refine V_iconst (pc := 115) (x := 2) dX12_goesOn_115 (by decide) ?_
        refine V_putI (pc := 116) (c := 11) (k := 18) dX12_goesOn_116 (by decide) (by decide) kw1261 rfl rfl rfl ⟨rfl, rfl⟩ (L11_0 H0) ?_
        cases h
        exact V_ret (pc := 119) dX12_goesOn_119 ⟨rfl, rfl⟩ ⟨rfl, rfl, rfl⟩
      · have h := ite_n c29 h
        refine V_iconst (pc := 111) (x := 1) dX12_goesOn_111 (by decide) ?_
        refine V_goto (pc := 112) (tgt := 116) dX12_goesOn_112 (by decide) ?_
        refine V_putI (pc := 116) (c := 11) (k := 18) dX12_goesOn_116 (by decide) (by decide) kw1261 rfl rfl rfl ⟨rfl, rfl⟩ (L11_0 H0) ?_
        cases h
        exact V_ret (pc := 119) dX12_goesOn_119 ⟨rfl, rfl⟩ ⟨rfl, rfl, rfl⟩
    · have h := ite_p c28 h
      refine V_aload_n (pc := 83) 0 dX12_goesOn_83 rfl rfl ?_
      refine V_dup (pc := 84) dX12_goesOn_84 rfl ?_
      refine V_getI (pc := 85) (c := 11) (k := 17) dX12_goesOn_85 (by decide) (by decide) kw1260 rfl rfl (L11_0 H0) ?_
      refine V_iconst (pc := 88) (x := 1) dX12_goesOn_88 (by decide) ?_
      refine V_iadd (pc := 89) dX12_goesOn_89 ?_
      refine V_putI (pc := 90) (c := 11) (k := 17) dX12_goesOn_90 (by decide) (by decide) kw1260 rfl rfl rfl ⟨rfl, rfl⟩ (L11_0 H0) ?_
      refine V_goto (pc := 93) (tgt := 65) dX12_goesOn_93 (by decide) ?_
      exact V_sub [0] rfl (ih (uI d r0 17 ((d.1 r0 17) + (1 : Int32))) h)
theorem wX12_goesOn_0 {G : Gl} {σ : Sg} {r0 : Nat} {rr : Dt} (H0 : L11 σ r0) : ∀ (n : Nat) (d : Dt), mX12_goesOn_0 r0 n d = some rr → V G yX12_goesOn cX12_goesOn 2 none 1 0 0 (PH [] σ rr) 0 [(0, .ref (gB G + r0))] [] σ d := by
  intro n
  induction n with
  | zero =>
    intro d
    intros
    rename_i h
    exact absurd h (by rw [mX12_goesOn_0]; exact fun q => nomatch q)
  | succ n ih =>
    intro d h
    rw [mX12_goesOn_0] at h
    refine V_aload_n (pc := 0) 0 dX12_goesOn_0 rfl rfl ?_
    refine V_aload_n (pc := 1) 0 dX12_goesOn_1 rfl rfl ?_
    refine V_getI (pc := 2) (c := 11) (k := 17) dX12_goesOn_2 (by decide) (by decide) kw1260 rfl rfl (L11_0 H0) ?_
    obtain ⟨x2, h1, h⟩ := bnd h
    refine V_cV1 (pc := 5) dX12_goesOn_5 kw1380 calX12_see kw1382 ks57 (L11_0 H0) rfl (by decide) (Nat.le_of_ble_eq_true rfl) (ctX12_see H0 h1) ?_
    refine V_bipush (pc := 8) (x := 32) dX12_goesOn_8 (by decide) ?_
    refine V_icmp_ne (pc := 10) (tgt := 26) dX12_goesOn_10 (by decide) (fun c3 => ?_) (fun c3 => ?_)
    · have h := ite_n c3 h
      refine V_aload_n (pc := 26) 0 dX12_goesOn_26 rfl rfl ?_
      refine V_aload_n (pc := 27) 0 dX12_goesOn_27 rfl rfl ?_
      refine V_getI (pc := 28) (c := 11) (k := 17) dX12_goesOn_28 (by decide) (by decide) kw1260 rfl rfl (L11_0 H0) ?_
      refine V_putI (pc := 31) (c := 11) (k := 16) dX12_goesOn_31 (by decide) (by decide) kw1259 rfl rfl rfl ⟨rfl, rfl⟩ (L11_0 H0) ?_
      refine V_aload_n (pc := 34) 0 dX12_goesOn_34 rfl rfl ?_
      refine V_aload_n (pc := 35) 0 dX12_goesOn_35 rfl rfl ?_
      refine V_getI (pc := 36) (c := 11) (k := 17) dX12_goesOn_36 (by decide) (by decide) kw1260 rfl rfl (L11_0 H0) ?_
      obtain ⟨x5, h4, h⟩ := bnd h
      refine V_cV1 (pc := 39) dX12_goesOn_39 kw1380 calX12_see kw1382 ks57 (L11_0 H0) rfl (by decide) (Nat.le_of_ble_eq_true rfl) (ctX12_see H0 h4) ?_
      refine V_istore_n (pc := 42) (lv1 := [(1, _), (0, _)]) dX12_goesOn_42 rfl (by decide) rfl ?_
      refine V_iload_n (pc := 43) 0 dX12_goesOn_43 rfl rfl ?_
      refine V_iconst (pc := 44) (x := (-1)) dX12_goesOn_44 (by decide) ?_
      refine V_icmp_ne (pc := 45) (tgt := 54) dX12_goesOn_45 (by decide) (fun c6 => ?_) (fun c6 => ?_)
      · have h := ite_n c6 h
        refine V_iload_n (pc := 54) 0 dX12_goesOn_54 rfl rfl ?_
        refine V_bipush (pc := 55) (x := 97) dX12_goesOn_55 (by decide) ?_
        refine V_bipush (pc := 57) (x := 122) dX12_goesOn_57 (by decide) ?_
        refine V_cS3 (pc := 59) dX12_goesOn_59 kw1365 calX12_in kw1366 (by decide) (Nat.le_of_ble_eq_true rfl) (ctX12_in) ?_
        refine V_ifB_eq (pc := 62) (tgt := 120) dX12_goesOn_62 (by decide) (fun c9 => ?_) (fun c9 => ?_)
        · have h := ite_f c9 h
          refine V_iload_n (pc := 120) 0 dX12_goesOn_120 rfl rfl ?_
          refine V_bipush (pc := 121) (x := 48) dX12_goesOn_121 (by decide) ?_
          refine V_bipush (pc := 123) (x := 57) dX12_goesOn_123 (by decide) ?_
          refine V_cS3 (pc := 125) dX12_goesOn_125 kw1365 calX12_in kw1366 (by decide) (Nat.le_of_ble_eq_true rfl) (ctX12_in) ?_
          refine V_ifB_eq (pc := 128) (tgt := 233) dX12_goesOn_128 (by decide) (fun c12 => ?_) (fun c12 => ?_)
          · have h := ite_f c12 h
            refine V_aload_n (pc := 233) 1 dX12_goesOn_233 rfl rfl ?_
            refine V_dup (pc := 234) dX12_goesOn_234 rfl ?_
            refine V_getI (pc := 235) (c := 11) (k := 17) dX12_goesOn_235 (by decide) (by decide) kw1260 rfl rfl (L11_0 H0) ?_
            refine V_iconst (pc := 238) (x := 1) dX12_goesOn_238 (by decide) ?_
            refine V_iadd (pc := 239) dX12_goesOn_239 ?_
            refine V_putI (pc := 240) (c := 11) (k := 17) dX12_goesOn_240 (by decide) (by decide) kw1260 rfl rfl rfl ⟨rfl, rfl⟩ (L11_0 H0) ?_
            refine V_aload_n (pc := 243) 1 dX12_goesOn_243 rfl rfl ?_
            refine V_iload_n (pc := 244) 0 dX12_goesOn_244 rfl rfl ?_
            refine V_bipush (pc := 245) (x := 59) dX12_goesOn_245 (by decide) ?_
            refine V_icmp_eq (pc := 247) (tgt := 256) dX12_goesOn_247 (by decide) (fun c13 => ?_) (fun c13 => ?_)
            · have h := ite_p c13 h
              refine V_iload_n (pc := 256) 0 dX12_goesOn_256 rfl rfl ?_
              refine V_goto (pc := 257) (tgt := 261) dX12_goesOn_257 (by decide) ?_
              refine V_putI (pc := 261) (c := 11) (k := 18) dX12_goesOn_261 (by decide) (by decide) kw1261 rfl rfl rfl ⟨rfl, rfl⟩ (L11_0 H0) ?_
              cases h
              exact V_ret (pc := 264) dX12_goesOn_264 ⟨rfl, rfl⟩ ⟨rfl, rfl, rfl⟩
            · have h := ite_n c13 h
              refine V_iload_n (pc := 250) 0 dX12_goesOn_250 rfl rfl ?_
              refine V_bipush (pc := 251) (x := 44) dX12_goesOn_251 (by decide) ?_
              refine V_icmp_ne (pc := 253) (tgt := 260) dX12_goesOn_253 (by decide) (fun c14 => ?_) (fun c14 => ?_)
              · have h := ite_n c14 h
                refine V_iconst (pc := 260) (x := 1) dX12_goesOn_260 (by decide) ?_
                refine V_putI (pc := 261) (c := 11) (k := 18) dX12_goesOn_261 (by decide) (by decide) kw1261 rfl rfl rfl ⟨rfl, rfl⟩ (L11_0 H0) ?_
                cases h
                exact V_ret (pc := 264) dX12_goesOn_264 ⟨rfl, rfl⟩ ⟨rfl, rfl, rfl⟩
              · have h := ite_p c14 h
                refine V_iload_n (pc := 256) 0 dX12_goesOn_256 rfl rfl ?_
                refine V_goto (pc := 257) (tgt := 261) dX12_goesOn_257 (by decide) ?_
                refine V_putI (pc := 261) (c := 11) (k := 18) dX12_goesOn_261 (by decide) (by decide) kw1261 rfl rfl rfl ⟨rfl, rfl⟩ (L11_0 H0) ?_
                cases h
                exact V_ret (pc := 264) dX12_goesOn_264 ⟨rfl, rfl⟩ ⟨rfl, rfl, rfl⟩
          · have h := ite_p c12 h
            refine V_aload_n (pc := 131) 1 dX12_goesOn_131 rfl rfl ?_
            refine V_iconst (pc := 132) (x := 0) dX12_goesOn_132 (by decide) ?_
            refine V_putI (pc := 133) (c := 11) (k := 19) dX12_goesOn_133 (by decide) (by decide) kw1262 rfl rfl rfl ⟨rfl, rfl⟩ (L11_0 H0) ?_
            exact V_sub [1] rfl (wX12_goesOn_136 H0 FUEL (uI (uI d r0 16 (d.1 r0 17)) r0 19 (0 : Int32)) h)
        · have h := ite_p c9 h
          exact V_sub [1] rfl (wX12_goesOn_65 H0 FUEL (uI d r0 16 (d.1 r0 17)) h)
      · have h := ite_p c6 h
        refine V_aload_n (pc := 48) 1 dX12_goesOn_48 rfl rfl ?_
        refine V_iconst (pc := 49) (x := 0) dX12_goesOn_49 (by decide) ?_
        refine V_putI (pc := 50) (c := 11) (k := 18) dX12_goesOn_50 (by decide) (by decide) kw1261 rfl rfl rfl ⟨rfl, rfl⟩ (L11_0 H0) ?_
        cases h
        exact V_ret (pc := 53) dX12_goesOn_53 ⟨rfl, rfl⟩ ⟨rfl, rfl, rfl⟩
    · have h := ite_p c3 h
      refine V_aload_n (pc := 13) 0 dX12_goesOn_13 rfl rfl ?_
      refine V_dup (pc := 14) dX12_goesOn_14 rfl ?_
      refine V_getI (pc := 15) (c := 11) (k := 17) dX12_goesOn_15 (by decide) (by decide) kw1260 rfl rfl (L11_0 H0) ?_
      refine V_iconst (pc := 18) (x := 1) dX12_goesOn_18 (by decide) ?_
      refine V_iadd (pc := 19) dX12_goesOn_19 ?_
      refine V_putI (pc := 20) (c := 11) (k := 17) dX12_goesOn_20 (by decide) (by decide) kw1260 rfl rfl rfl ⟨rfl, rfl⟩ (L11_0 H0) ?_
      refine V_goto (pc := 23) (tgt := 0) dX12_goesOn_23 (by decide) ?_
      exact V_sub [0] rfl (ih (uI d r0 17 ((d.1 r0 17) + (1 : Int32))) h)
theorem calX12_goesOn : Cal yX12_goesOn cX12_goesOn 2 none 0 := ⟨kw1379, kw11, by decide +kernel⟩
theorem ctX12_goesOn {G : Gl} {σ : Sg} {d : Dt} {r0 : Nat} {rr : Dt} (H0 : L11 σ r0) (h : mX12_goesOn r0 d = some rr) : CTv G yX12_goesOn cX12_goesOn 2 none 1 [.ref (gB G + r0)] σ d [] rr := by
  refine CT_of pn_RX12 (Nat.le_of_ble_eq_true rfl) ?_
  rw [mX12_goesOn] at h
  exact V_sub [0] rfl (wX12_goesOn_0 H0 FUEL d h)
theorem calX12_passes : Cal yX12_passes cX12_passes 4 (some .int) 2 := ⟨kw1411, kw11, by decide +kernel⟩
theorem ctX12_passes {G : Gl} {σ : Sg} {d : Dt} {r0 : Nat} {v1 : Int32} {v2 : Int32} {rr : Int32 × Dt} (H0 : L11 σ r0) (h : mX12_passes r0 v1 v2 d = some rr) : CTv G yX12_passes cX12_passes 4 (some .int) 2 [.ref (gB G + r0), .int v1, .int v2] σ d [.int rr.1] rr.2 := by
  refine CT_of pn_RX12 (Nat.le_of_ble_eq_true rfl) ?_
  rw [mX12_passes] at h
  refine V_aload_n (pc := 0) 0 dX12_passes_0 rfl rfl ?_
  refine V_getI (pc := 1) (c := 11) (k := 18) dX12_passes_1 (by decide) (by decide) kw1261 rfl rfl (L11_0 H0) ?_
  refine V_iconst (pc := 4) (x := 3) dX12_passes_4 (by decide) ?_
  refine V_icmp_eq (pc := 5) (tgt := 14) dX12_passes_5 (by decide) (fun c1 => ?_) (fun c1 => ?_)
  · have h := ite_p c1 h
    refine V_aload_n (pc := 14) 0 dX12_passes_14 rfl rfl ?_
    refine V_getI (pc := 15) (c := 11) (k := 19) dX12_passes_15 (by decide) (by decide) kw1262 rfl rfl (L11_0 H0) ?_
    refine V_istore_n (pc := 18) (lv1 := [(3, _), (0, _), (1, _), (2, _)]) dX12_passes_18 rfl (by decide) rfl ?_
    refine V_iload_n (pc := 19) 0 dX12_passes_19 rfl rfl ?_
    refine V_iload_n (pc := 20) 2 dX12_passes_20 rfl rfl ?_
    refine V_iload_n (pc := 21) 3 dX12_passes_21 rfl rfl ?_
    refine V_cS3 (pc := 22) dX12_passes_22 kw1365 calX12_in kw1366 (by decide) (Nat.le_of_ble_eq_true rfl) (ctX12_in) ?_
    refine V_ifB_ne (pc := 25) (tgt := 34) dX12_passes_25 (by decide) (fun c4 => ?_) (fun c4 => ?_)
    · have h := ite_p c4 h
      refine V_aload_n (pc := 34) 1 dX12_passes_34 rfl rfl ?_
      obtain ⟨x6, h5, h⟩ := bnd h
      refine V_cV0 (pc := 35) dX12_passes_35 kw1376 calX12_goesOn kw1378 ks56 (L11_0 H0) rfl (by decide) (Nat.le_of_ble_eq_true rfl) (ctX12_goesOn H0 h5) ?_
      refine V_iload_n (pc := 38) 0 dX12_passes_38 rfl rfl ?_
      cases h
      exact V_ret (pc := 39) dX12_passes_39 ⟨rfl, _, rfl⟩ ⟨rfl, rfl, rfl⟩
    · have h := ite_f c4 h
      refine V_aload_n (pc := 28) 1 dX12_passes_28 rfl rfl ?_
      refine V_iconst (pc := 29) (x := 4) dX12_passes_29 (by decide) ?_
      refine V_cV1 (pc := 30) dX12_passes_30 kw1399 calX12_errs kw1401 ks61 (L11_0 H0) rfl (by decide) (Nat.le_of_ble_eq_true rfl) (ctX12_errs H0) ?_
      cases h
      exact V_ret (pc := 33) dX12_passes_33 ⟨rfl, _, rfl⟩ ⟨rfl, rfl, rfl⟩
  · have h := ite_n c1 h
    refine V_aload_n (pc := 8) 0 dX12_passes_8 rfl rfl ?_
    refine V_iconst (pc := 9) (x := 1) dX12_passes_9 (by decide) ?_
    refine V_cV1 (pc := 10) dX12_passes_10 kw1399 calX12_errs kw1401 ks61 (L11_0 H0) rfl (by decide) (Nat.le_of_ble_eq_true rfl) (ctX12_errs H0) ?_
    cases h
    exact V_ret (pc := 13) dX12_passes_13 ⟨rfl, _, rfl⟩ ⟨rfl, rfl, rfl⟩
theorem calX12_after : Cal yX12_after cX12_after 4 (some .int) 3 := ⟨kw1407, kw11, by decide +kernel⟩
theorem ctX12_after {G : Gl} {σ : Sg} {d : Dt} {r0 : Nat} {k1 : Nat} {v2 : Int32} {v3 : Int32} {rr : Int32 × Dt} (H0 : L11 σ r0) (H1 : k1 < strN) (h : mX12_after r0 k1 v2 v3 d = some rr) : CTv G yX12_after cX12_after 4 (some .int) 7 [.ref (gB G + r0), .ref (gK G k1), .int v2, .int v3] σ d [.int rr.1] rr.2 := by
  refine CT_of pn_RX12 (Nat.le_of_ble_eq_true rfl) ?_
  rw [mX12_after] at h
  refine V_aload_n (pc := 0) 0 dX12_after_0 rfl rfl ?_
  refine V_aload_n (pc := 1) 1 dX12_after_1 rfl rfl ?_
  obtain ⟨x2, h1, h⟩ := bnd h
  refine V_cV1 (pc := 2) dX12_after_2 kw1389 calX12_isWord kw1391 ks59 (L11_0 H0) rfl (by decide) (Nat.le_of_ble_eq_true rfl) (ctX12_isWord H0 H1 h1) ?_
  refine V_ifB_ne (pc := 5) (tgt := 14) dX12_after_5 (by decide) (fun c3 => ?_) (fun c3 => ?_)
  · have h := ite_p c3 h
    refine V_aload_n (pc := 14) 0 dX12_after_14 rfl rfl ?_
    obtain ⟨x5, h4, h⟩ := bnd h
    refine V_cV0 (pc := 15) dX12_after_15 kw1376 calX12_goesOn kw1378 ks56 (L11_0 H0) rfl (by decide) (Nat.le_of_ble_eq_true rfl) (ctX12_goesOn H0 h4) ?_
    refine V_aload_n (pc := 18) 0 dX12_after_18 rfl rfl ?_
    refine V_iload_n (pc := 19) 2 dX12_after_19 rfl rfl ?_
    refine V_iload_n (pc := 20) 3 dX12_after_20 rfl rfl ?_
    obtain ⟨x7, h6, h⟩ := bnd h
    refine V_cV2 (pc := 21) dX12_after_21 kw1408 calX12_passes kw1410 ks63 (L11_0 H0) rfl (by decide) (Nat.le_of_ble_eq_true rfl) (ctX12_passes H0 h6) ?_
    cases h
    exact V_ret (pc := 24) dX12_after_24 ⟨rfl, _, rfl⟩ ⟨rfl, rfl, rfl⟩
  · have h := ite_f c3 h
    refine V_aload_n (pc := 8) 0 dX12_after_8 rfl rfl ?_
    refine V_iconst (pc := 9) (x := 1) dX12_after_9 (by decide) ?_
    refine V_cV1 (pc := 10) dX12_after_10 kw1399 calX12_errs kw1401 ks61 (L11_0 H0) rfl (by decide) (Nat.le_of_ble_eq_true rfl) (ctX12_errs H0) ?_
    cases h
    exact V_ret (pc := 13) dX12_after_13 ⟨rfl, _, rfl⟩ ⟨rfl, rfl, rfl⟩
theorem calX12_begins : Cal yX12_begins cX12_begins 2 (some .boolean) 1 := ⟨kw1425, kw11, by decide +kernel⟩
theorem ctX12_begins {G : Gl} {σ : Sg} {d : Dt} {r0 : Nat} {v1 : Int32} {rr : Bool × Dt} (H0 : L11 σ r0) (h : mX12_begins r0 v1 d = some rr) : CTv G yX12_begins cX12_begins 2 (some .boolean) 2 [.ref (gB G + r0), .int v1] σ d [.int (b2i rr.1)] rr.2 := by
  refine CT_of pn_RX12 (Nat.le_of_ble_eq_true rfl) ?_
  rw [mX12_begins] at h
  refine V_iload_n (pc := 0) 1 dX12_begins_0 rfl rfl ?_
  refine V_if_ne (pc := 1) (tgt := 12) dX12_begins_1 (by decide) (fun c1 => ?_) (fun c1 => ?_)
  · have h := ite_n c1 h
    refine V_aload_n (pc := 12) 0 dX12_begins_12 rfl rfl ?_
    refine V_getI (pc := 13) (c := 11) (k := 22) dX12_begins_13 (by decide) (by decide) kw1265 rfl rfl (L11_0 H0) ?_
    refine V_if_ne (pc := 16) (tgt := 28) dX12_begins_16 (by decide) (fun c2 => ?_) (fun c2 => ?_)
    · have h := ite_n c2 h
      refine V_aload_n (pc := 28) 0 dX12_begins_28 rfl rfl ?_
      obtain ⟨x4, h3, h⟩ := bnd h
      refine V_cV0 (pc := 29) dX12_begins_29 kw1376 calX12_goesOn kw1378 ks56 (L11_0 H0) rfl (by decide) (Nat.le_of_ble_eq_true rfl) (ctX12_goesOn H0 h3) ?_
      refine V_iconst (pc := 32) (x := 1) dX12_begins_32 (by decide) ?_
      cases h
      exact V_ret (pc := 33) dX12_begins_33 ⟨rfl, _, rfl, rfl⟩ ⟨rfl, rfl, rfl⟩
    · have h := ite_p c2 h
      refine V_aload_n (pc := 19) 0 dX12_begins_19 rfl rfl ?_
      refine V_bipush (pc := 20) (x := 6) dX12_begins_20 (by decide) ?_
      refine V_cV1 (pc := 22) dX12_begins_22 kw1399 calX12_errs kw1401 ks61 (L11_0 H0) rfl (by decide) (Nat.le_of_ble_eq_true rfl) (ctX12_errs H0) ?_
      refine V_pop (pc := 25) dX12_begins_25 rfl ?_
      refine V_iconst (pc := 26) (x := 0) dX12_begins_26 (by decide) ?_
      cases h
      exact V_ret (pc := 27) dX12_begins_27 ⟨rfl, _, rfl, rfl⟩ ⟨rfl, rfl, rfl⟩
  · have h := ite_p c1 h
    refine V_aload_n (pc := 4) 0 dX12_begins_4 rfl rfl ?_
    refine V_iconst (pc := 5) (x := 5) dX12_begins_5 (by decide) ?_
    refine V_cV1 (pc := 6) dX12_begins_6 kw1399 calX12_errs kw1401 ks61 (L11_0 H0) rfl (by decide) (Nat.le_of_ble_eq_true rfl) (ctX12_errs H0) ?_
    refine V_pop (pc := 9) dX12_begins_9 rfl ?_
    refine V_iconst (pc := 10) (x := 0) dX12_begins_10 (by decide) ?_
    cases h
    exact V_ret (pc := 11) dX12_begins_11 ⟨rfl, _, rfl, rfl⟩ ⟨rfl, rfl, rfl⟩
theorem calX12_netOf : Cal yX12_netOf cX12_netOf 3 (some .int) 2 := ⟨kw1639, kw11, by decide +kernel⟩
theorem ctX12_netOf {G : Gl} {σ : Sg} {d : Dt} {r0 : Nat} {v1 : Int32} {v2 : Int32} {rr : Int32} (H0 : L11 σ r0) (h : mX12_netOf r0 v1 v2 d = some rr) : CTv G yX12_netOf cX12_netOf 3 (some .int) 0 [.ref (gB G + r0), .int v1, .int v2] σ d [.int rr] d := by
  refine CT_of pn_RX12 (Nat.le_of_ble_eq_true rfl) ?_
  rw [mX12_netOf] at h
  refine V_aload_n (pc := 0) 0 dX12_netOf_0 rfl rfl ?_
  refine V_getR (pc := 1) (c := 11) (k := 6) dX12_netOf_1 (by decide) (by decide) kw1249 rfl rfl (L11_0 H0) (L11_r6 H0) ?_
  refine V_bipush (pc := 4) (x := 97) dX12_netOf_4 (by decide) ?_
  refine V_bipush (pc := 6) (x := 16) dX12_netOf_6 (by decide) ?_
  refine V_iload_n (pc := 8) 1 dX12_netOf_8 rfl rfl ?_
  refine V_imul (pc := 9) dX12_netOf_9 ?_
  refine V_iadd (pc := 10) dX12_netOf_10 ?_
  refine V_iload_n (pc := 11) 2 dX12_netOf_11 rfl rfl ?_
  refine V_iadd (pc := 12) dX12_netOf_12 ?_
  obtain ⟨b1, h⟩ := ite_o h
  refine V_iald (pc := 13) dX12_netOf_13 (L11_s6 H0) (inB_vp b1) ?_
  cases h
  exact V_ret (pc := 14) dX12_netOf_14 ⟨rfl, _, rfl⟩ ⟨rfl, rfl, rfl⟩
theorem calX12_pinPlug : Cal yX12_pinPlug cX12_pinPlug 3 (some .int) 2 := ⟨kw1674, kw11, by decide +kernel⟩
theorem ctX12_pinPlug {G : Gl} {σ : Sg} {d : Dt} {r0 : Nat} {v1 : Int32} {v2 : Int32} {rr : Int32} (H0 : L11 σ r0) (h : mX12_pinPlug r0 v1 v2 d = some rr) : CTv G yX12_pinPlug cX12_pinPlug 3 (some .int) 1 [.ref (gB G + r0), .int v1, .int v2] σ d [.int rr] d := by
  refine CT_of pn_RX12 (Nat.le_of_ble_eq_true rfl) ?_
  rw [mX12_pinPlug] at h
  refine V_aload_n (pc := 0) 0 dX12_pinPlug_0 rfl rfl ?_
  refine V_iload_n (pc := 1) 1 dX12_pinPlug_1 rfl rfl ?_
  refine V_bipush (pc := 2) (x := 6) dX12_pinPlug_2 (by decide) ?_
  refine V_iconst (pc := 4) (x := 2) dX12_pinPlug_4 (by decide) ?_
  refine V_iload_n (pc := 5) 2 dX12_pinPlug_5 rfl rfl ?_
  refine V_imul (pc := 6) dX12_pinPlug_6 ?_
  refine V_iadd (pc := 7) dX12_pinPlug_7 ?_
  obtain ⟨x2, h1, h⟩ := bnd h
  refine V_cV2 (pc := 8) dX12_pinPlug_8 kw1636 calX12_netOf kw1638 ks95 (L11_0 H0) rfl (by decide) (Nat.le_of_ble_eq_true rfl) (ctX12_netOf H0 h1) ?_
  cases h
  exact V_ret (pc := 11) dX12_pinPlug_11 ⟨rfl, _, rfl⟩ ⟨rfl, rfl, rfl⟩
theorem calX12_pinHole : Cal yX12_pinHole cX12_pinHole 3 (some .int) 2 := ⟨kw1758, kw11, by decide +kernel⟩
theorem ctX12_pinHole {G : Gl} {σ : Sg} {d : Dt} {r0 : Nat} {v1 : Int32} {v2 : Int32} {rr : Int32} (H0 : L11 σ r0) (h : mX12_pinHole r0 v1 v2 d = some rr) : CTv G yX12_pinHole cX12_pinHole 3 (some .int) 1 [.ref (gB G + r0), .int v1, .int v2] σ d [.int rr] d := by
  refine CT_of pn_RX12 (Nat.le_of_ble_eq_true rfl) ?_
  rw [mX12_pinHole] at h
  refine V_aload_n (pc := 0) 0 dX12_pinHole_0 rfl rfl ?_
  refine V_iload_n (pc := 1) 1 dX12_pinHole_1 rfl rfl ?_
  refine V_bipush (pc := 2) (x := 6) dX12_pinHole_2 (by decide) ?_
  refine V_iconst (pc := 4) (x := 2) dX12_pinHole_4 (by decide) ?_
  refine V_iload_n (pc := 5) 2 dX12_pinHole_5 rfl rfl ?_
  refine V_imul (pc := 6) dX12_pinHole_6 ?_
  refine V_iadd (pc := 7) dX12_pinHole_7 ?_
  refine V_iconst (pc := 8) (x := 1) dX12_pinHole_8 (by decide) ?_
  refine V_iadd (pc := 9) dX12_pinHole_9 ?_
  obtain ⟨x2, h1, h⟩ := bnd h
  refine V_cV2 (pc := 10) dX12_pinHole_10 kw1636 calX12_netOf kw1638 ks95 (L11_0 H0) rfl (by decide) (Nat.le_of_ble_eq_true rfl) (ctX12_netOf H0 h1) ?_
  cases h
  exact V_ret (pc := 13) dX12_pinHole_13 ⟨rfl, _, rfl⟩ ⟨rfl, rfl, rfl⟩
theorem calX12_isThen : Cal yX12_isThen cX12_isThen 3 (some .boolean) 3 := ⟨kw1662, kw11, by decide +kernel⟩
theorem ctX12_isThen {G : Gl} {σ : Sg} {d : Dt} {v0 : Int32} {v1 : Int32} {v2 : Int32} : CTv G yX12_isThen cX12_isThen 3 (some .boolean) 0 [.int v0, .int v1, .int v2] σ d [.int (b2i (mX12_isThen v0 v1 v2))] d := by
  refine CT_of pn_RX12 (Nat.le_of_ble_eq_true rfl) ?_
  generalize h : mX12_isThen v0 v1 v2 = rr
  rw [mX12_isThen] at h
  refine V_iload_n (pc := 0) 0 dX12_isThen_0 rfl rfl ?_
  refine V_bipush (pc := 1) (x := (-2)) dX12_isThen_1 (by decide) ?_
  refine V_icmp_eq (pc := 3) (tgt := 15) dX12_isThen_3 (by decide) (fun c1 => ?_) (fun c1 => ?_)
  · have h := ite_p c1 h
    refine V_iconst (pc := 15) (x := 1) dX12_isThen_15 (by decide) ?_
    refine V_goto (pc := 16) (tgt := 20) dX12_isThen_16 (by decide) ?_
    subst h
    exact V_ret (pc := 20) dX12_isThen_20 ⟨rfl, _, rfl, rfl⟩ ⟨rfl, rfl, rfl⟩
  · have h := ite_n c1 h
    refine V_iload_n (pc := 6) 2 dX12_isThen_6 rfl rfl ?_
    refine V_iload_n (pc := 7) 0 dX12_isThen_7 rfl rfl ?_
    refine V_ishr (pc := 8) dX12_isThen_8 ?_
    refine V_iconst (pc := 9) (x := 1) dX12_isThen_9 (by decide) ?_
    refine V_iand (pc := 10) dX12_isThen_10 ?_
    refine V_iload_n (pc := 11) 1 dX12_isThen_11 rfl rfl ?_
    refine V_icmp_ne (pc := 12) (tgt := 19) dX12_isThen_12 (by decide) (fun c2 => ?_) (fun c2 => ?_)
    · have h := ite_n c2 h
      refine V_iconst (pc := 19) (x := 0) dX12_isThen_19 (by decide) ?_
      subst h
      exact V_ret (pc := 20) dX12_isThen_20 ⟨rfl, _, rfl, rfl⟩ ⟨rfl, rfl, rfl⟩
    · have h := ite_p c2 h
      refine V_iconst (pc := 15) (x := 1) dX12_isThen_15 (by decide) ?_
      refine V_goto (pc := 16) (tgt := 20) dX12_isThen_16 (by decide) ?_
      subst h
      exact V_ret (pc := 20) dX12_isThen_20 ⟨rfl, _, rfl, rfl⟩ ⟨rfl, rfl, rfl⟩
theorem calX12_plugOf : Cal yX12_plugOf cX12_plugOf 3 (some .int) 2 := ⟨kw1627, kw11, by decide +kernel⟩
theorem ctX12_plugOf {G : Gl} {σ : Sg} {d : Dt} {r0 : Nat} {v1 : Int32} {v2 : Int32} {rr : Int32} (H0 : L11 σ r0) (h : mX12_plugOf r0 v1 v2 d = some rr) : CTv G yX12_plugOf cX12_plugOf 3 (some .int) 0 [.ref (gB G + r0), .int v1, .int v2] σ d [.int rr] d := by
  refine CT_of pn_RX12 (Nat.le_of_ble_eq_true rfl) ?_
  rw [mX12_plugOf] at h
  refine V_aload_n (pc := 0) 0 dX12_plugOf_0 rfl rfl ?_
  refine V_getR (pc := 1) (c := 11) (k := 6) dX12_plugOf_1 (by decide) (by decide) kw1249 rfl rfl (L11_0 H0) (L11_r6 H0) ?_
  refine V_bipush (pc := 4) (x := 49) dX12_plugOf_4 (by decide) ?_
  refine V_bipush (pc := 6) (x := 6) dX12_plugOf_6 (by decide) ?_
  refine V_iload_n (pc := 8) 1 dX12_plugOf_8 rfl rfl ?_
  refine V_imul (pc := 9) dX12_plugOf_9 ?_
  refine V_iadd (pc := 10) dX12_plugOf_10 ?_
  refine V_iload_n (pc := 11) 2 dX12_plugOf_11 rfl rfl ?_
  refine V_iadd (pc := 12) dX12_plugOf_12 ?_
  obtain ⟨b1, h⟩ := ite_o h
  refine V_iald (pc := 13) dX12_plugOf_13 (L11_s6 H0) (inB_vp b1) ?_
  cases h
  exact V_ret (pc := 14) dX12_plugOf_14 ⟨rfl, _, rfl⟩ ⟨rfl, rfl, rfl⟩
theorem calX12_isPlugThere : Cal yX12_isPlugThere cX12_isPlugThere 3 (some .boolean) 2 := ⟨kw1659, kw11, by decide +kernel⟩
theorem ctX12_isPlugThere {G : Gl} {σ : Sg} {d : Dt} {r0 : Nat} {v1 : Int32} {v2 : Int32} {rr : Bool} (H0 : L11 σ r0) (h : mX12_isPlugThere r0 v1 v2 d = some rr) : CTv G yX12_isPlugThere cX12_isPlugThere 3 (some .boolean) 1 [.ref (gB G + r0), .int v1, .int v2] σ d [.int (b2i rr)] d := by
  refine CT_of pn_RX12 (Nat.le_of_ble_eq_true rfl) ?_
  rw [mX12_isPlugThere] at h
  refine V_aload_n (pc := 0) 0 dX12_isPlugThere_0 rfl rfl ?_
  refine V_iload_n (pc := 1) 1 dX12_isPlugThere_1 rfl rfl ?_
  refine V_iconst (pc := 2) (x := 4) dX12_isPlugThere_2 (by decide) ?_
  obtain ⟨x2, h1, h⟩ := bnd h
  refine V_cV2 (pc := 3) dX12_isPlugThere_3 kw1624 calX12_plugOf kw1626 ks93 (L11_0 H0) rfl (by decide) (Nat.le_of_ble_eq_true rfl) (ctX12_plugOf H0 h1) ?_
  refine V_aload_n (pc := 6) 0 dX12_isPlugThere_6 rfl rfl ?_
  refine V_iload_n (pc := 7) 1 dX12_isPlugThere_7 rfl rfl ?_
  refine V_iconst (pc := 8) (x := 5) dX12_isPlugThere_8 (by decide) ?_
  obtain ⟨x4, h3, h⟩ := bnd h
  refine V_cV2 (pc := 9) dX12_isPlugThere_9 kw1624 calX12_plugOf kw1626 ks93 (L11_0 H0) rfl (by decide) (Nat.le_of_ble_eq_true rfl) (ctX12_plugOf H0 h3) ?_
  refine V_iload_n (pc := 12) 2 dX12_isPlugThere_12 rfl rfl ?_
  refine V_cS3 (pc := 13) dX12_isPlugThere_13 kw1660 calX12_isThen kw1661 (by decide) (Nat.le_of_ble_eq_true rfl) (ctX12_isThen) ?_
  cases h
  exact V_ret (pc := 16) dX12_isPlugThere_16 ⟨rfl, _, rfl, b2i_nar _⟩ ⟨rfl, rfl, rfl⟩
theorem wX12_pinsOf_24 {G : Gl} {σ : Sg} {d : Dt} {r0 : Nat} {v1 : Int32} {v2 : Int32} {rr : Int32} (H0 : L11 σ r0) : ∀ (n : Nat) (v3 : Int32) (v4 : Int32), mX12_pinsOf_24 d r0 v1 v2 n v3 v4 = some rr → V G yX12_pinsOf cX12_pinsOf 5 (some .int) 2 0 0 (PH [.int rr] σ d) 24 [(0, .ref (gB G + r0)), (1, .int v1), (2, .int v2), (3, .int v3), (4, .int v4)] [] σ d := by
  intro n
  induction n with
  | zero =>
    intro v3 v4
    intros
    rename_i h
    exact absurd h (by rw [mX12_pinsOf_24]; exact fun q => nomatch q)
  | succ n ih =>
    intro v3 v4 h
    rw [mX12_pinsOf_24] at h
    refine V_iload (pc := 24) 4 dX12_pinsOf_24 rfl ?_
    refine V_aload_n (pc := 26) 0 dX12_pinsOf_26 rfl rfl ?_
    refine V_iload_n (pc := 27) 2 dX12_pinsOf_27 rfl rfl ?_
    refine V_iconst (pc := 28) (x := 2) dX12_pinsOf_28 (by decide) ?_
    obtain ⟨x9, h8, h⟩ := bnd h
    refine V_cV2 (pc := 29) dX12_pinsOf_29 kw1636 calX12_netOf kw1638 ks95 (L11_0 H0) rfl (by decide) (Nat.le_of_ble_eq_true rfl) (ctX12_netOf H0 h8) ?_
    refine V_icmp_ge (pc := 32) (tgt := 67) dX12_pinsOf_32 (by decide) (fun c10 => ?_) (fun c10 => ?_)
    · have h := ite_p c10 h
      refine V_iload_n (pc := 67) 3 dX12_pinsOf_67 rfl rfl ?_
      cases h
      exact V_ret (pc := 68) dX12_pinsOf_68 ⟨rfl, _, rfl⟩ ⟨rfl, rfl, rfl⟩
    · have h := ite_n c10 h
      refine V_iload_n (pc := 35) 3 dX12_pinsOf_35 rfl rfl ?_
      refine V_aload_n (pc := 36) 0 dX12_pinsOf_36 rfl rfl ?_
      refine V_aload_n (pc := 37) 0 dX12_pinsOf_37 rfl rfl ?_
      refine V_iload_n (pc := 38) 2 dX12_pinsOf_38 rfl rfl ?_
      refine V_iload (pc := 39) 4 dX12_pinsOf_39 rfl ?_
      obtain ⟨x12, h11, h⟩ := bnd h
      refine V_cV2 (pc := 41) dX12_pinsOf_41 kw1671 calX12_pinPlug kw1673 ks100 (L11_0 H0) rfl (by decide) (Nat.le_of_ble_eq_true rfl) (ctX12_pinPlug H0 h11) ?_
      refine V_iload_n (pc := 44) 1 dX12_pinsOf_44 rfl rfl ?_
      obtain ⟨x14, h13, h⟩ := bnd h
      refine V_cV2 (pc := 45) dX12_pinsOf_45 kw1656 calX12_isPlugThere kw1658 ks98 (L11_0 H0) rfl (by decide) (Nat.le_of_ble_eq_true rfl) (ctX12_isPlugThere H0 h13) ?_
      refine V_ifB_eq (pc := 48) (tgt := 58) dX12_pinsOf_48 (by decide) (fun c15 => ?_) (fun c15 => ?_)
      · have h := ite_f c15 h
        refine V_iconst (pc := 58) (x := 0) dX12_pinsOf_58 (by decide) ?_
        refine V_ior (pc := 59) dX12_pinsOf_59 ?_
        refine V_istore_n (pc := 60) (lv1 := [(3, _), (0, _), (1, _), (2, _), (4, _)]) dX12_pinsOf_60 rfl (by decide) rfl ?_
        refine V_iinc (pc := 61) (lv1 := [(4, _), (3, _), (0, _), (1, _), (2, _)]) (z := _ + (1 : Int32)) 4 dX12_pinsOf_61 rfl rfl (by decide) rfl ?_
        refine V_goto (pc := 64) (tgt := 24) dX12_pinsOf_64 (by decide) ?_
        exact V_sub [2, 3, 4, 1, 0] rfl (ih (v3 ||| (0 : Int32)) (v4 + (1 : Int32)) h)
      · have h := ite_p c15 h
        refine V_iconst (pc := 51) (x := 1) dX12_pinsOf_51 (by decide) ?_
        refine V_iload (pc := 52) 4 dX12_pinsOf_52 rfl ?_
        refine V_ishl (pc := 54) dX12_pinsOf_54 ?_
        refine V_goto (pc := 55) (tgt := 59) dX12_pinsOf_55 (by decide) ?_
        refine V_ior (pc := 59) dX12_pinsOf_59 ?_
        refine V_istore_n (pc := 60) (lv1 := [(3, _), (0, _), (1, _), (2, _), (4, _)]) dX12_pinsOf_60 rfl (by decide) rfl ?_
        refine V_iinc (pc := 61) (lv1 := [(4, _), (3, _), (0, _), (1, _), (2, _)]) (z := _ + (1 : Int32)) 4 dX12_pinsOf_61 rfl rfl (by decide) rfl ?_
        refine V_goto (pc := 64) (tgt := 24) dX12_pinsOf_64 (by decide) ?_
        exact V_sub [2, 3, 4, 1, 0] rfl (ih (v3 ||| ((1 : Int32) <<< (v4 &&& 31))) (v4 + (1 : Int32)) h)
theorem calX12_pinsOf : Cal yX12_pinsOf cX12_pinsOf 5 (some .int) 2 := ⟨kw1670, kw11, by decide +kernel⟩
theorem ctX12_pinsOf {G : Gl} {σ : Sg} {d : Dt} {r0 : Nat} {v1 : Int32} {v2 : Int32} {rr : Int32} (H0 : L11 σ r0) (h : mX12_pinsOf r0 v1 v2 d = some rr) : CTv G yX12_pinsOf cX12_pinsOf 5 (some .int) 2 [.ref (gB G + r0), .int v1, .int v2] σ d [.int rr] d := by
  refine CT_of pn_RX12 (Nat.le_of_ble_eq_true rfl) ?_
  rw [mX12_pinsOf] at h
  refine V_iconst (pc := 0) (x := 0) dX12_pinsOf_0 (by decide) ?_
  refine V_istore_n (pc := 1) (lv1 := [(3, _), (0, _), (1, _), (2, _)]) dX12_pinsOf_1 rfl (by decide) rfl ?_
  refine V_aload_n (pc := 2) 1 dX12_pinsOf_2 rfl rfl ?_
  refine V_iload_n (pc := 3) 3 dX12_pinsOf_3 rfl rfl ?_
  refine V_iconst (pc := 4) (x := 3) dX12_pinsOf_4 (by decide) ?_
  obtain ⟨x2, h1, h⟩ := bnd h
  refine V_cV2 (pc := 5) dX12_pinsOf_5 kw1636 calX12_netOf kw1638 ks95 (L11_0 H0) rfl (by decide) (Nat.le_of_ble_eq_true rfl) (ctX12_netOf H0 h1) ?_
  refine V_aload_n (pc := 8) 1 dX12_pinsOf_8 rfl rfl ?_
  refine V_iload_n (pc := 9) 3 dX12_pinsOf_9 rfl rfl ?_
  refine V_iconst (pc := 10) (x := 4) dX12_pinsOf_10 (by decide) ?_
  obtain ⟨x4, h3, h⟩ := bnd h
  refine V_cV2 (pc := 11) dX12_pinsOf_11 kw1636 calX12_netOf kw1638 ks95 (L11_0 H0) rfl (by decide) (Nat.le_of_ble_eq_true rfl) (ctX12_netOf H0 h3) ?_
  refine V_iload_n (pc := 14) 2 dX12_pinsOf_14 rfl rfl ?_
  refine V_cS3 (pc := 15) dX12_pinsOf_15 kw1660 calX12_isThen kw1661 (by decide) (Nat.le_of_ble_eq_true rfl) (ctX12_isThen) ?_
  refine V_ifB_eq (pc := 18) (tgt := 67) dX12_pinsOf_18 (by decide) (fun c7 => ?_) (fun c7 => ?_)
  · have h := ite_f c7 h
    refine V_iload_n (pc := 67) 0 dX12_pinsOf_67 rfl rfl ?_
    cases h
    exact V_ret (pc := 68) dX12_pinsOf_68 ⟨rfl, _, rfl⟩ ⟨rfl, rfl, rfl⟩
  · have h := ite_p c7 h
    refine V_iconst (pc := 21) (x := 0) dX12_pinsOf_21 (by decide) ?_
    refine V_istore (pc := 22) (lv1 := [(4, _), (3, _), (0, _), (1, _), (2, _)]) dX12_pinsOf_22 (by decide) rfl ?_
    exact V_sub [2, 3, 4, 1, 0] rfl (wX12_pinsOf_24 H0 FUEL (0 : Int32) (0 : Int32) h)
theorem calX12_has : Cal yX12_has cX12_has 2 (some .boolean) 2 := ⟨kw1692, kw11, by decide +kernel⟩
theorem ctX12_has {G : Gl} {σ : Sg} {d : Dt} {v0 : Int32} {v1 : Int32} : CTv G yX12_has cX12_has 2 (some .boolean) 0 [.int v0, .int v1] σ d [.int (b2i (mX12_has v0 v1))] d := by
  refine CT_of pn_RX12 (Nat.le_of_ble_eq_true rfl) ?_
  generalize h : mX12_has v0 v1 = rr
  rw [mX12_has] at h
  refine V_iload_n (pc := 0) 0 dX12_has_0 rfl rfl ?_
  refine V_iload_n (pc := 1) 1 dX12_has_1 rfl rfl ?_
  refine V_ishr (pc := 2) dX12_has_2 ?_
  refine V_iconst (pc := 3) (x := 1) dX12_has_3 (by decide) ?_
  refine V_iand (pc := 4) dX12_has_4 ?_
  refine V_iconst (pc := 5) (x := 1) dX12_has_5 (by decide) ?_
  refine V_icmp_ne (pc := 6) (tgt := 13) dX12_has_6 (by decide) (fun c1 => ?_) (fun c1 => ?_)
  · have h := ite_n c1 h
    refine V_iconst (pc := 13) (x := 0) dX12_has_13 (by decide) ?_
    subst h
    exact V_ret (pc := 14) dX12_has_14 ⟨rfl, _, rfl, rfl⟩ ⟨rfl, rfl, rfl⟩
  · have h := ite_p c1 h
    refine V_iconst (pc := 9) (x := 1) dX12_has_9 (by decide) ?_
    refine V_goto (pc := 10) (tgt := 14) dX12_has_10 (by decide) ?_
    subst h
    exact V_ret (pc := 14) dX12_has_14 ⟨rfl, _, rfl, rfl⟩ ⟨rfl, rfl, rfl⟩
theorem wX12_hasPin_11 {G : Gl} {σ : Sg} {d : Dt} {r0 : Nat} {v2 : Int32} {v3 : Int32} {v4 : Int32} {v5 : Int32} {rr : Bool} (H0 : L11 σ r0) : ∀ (n : Nat) (v6 : Int32), mX12_hasPin_11 d r0 v2 v3 v4 v5 n v6 = some rr → V G yX12_hasPin cX12_hasPin 7 (some .boolean) 3 0 0 (PH [.int (b2i rr)] σ d) 11 [(0, .ref (gB G + r0)), (2, .int v2), (3, .int v3), (4, .int v4), (5, .int v5), (6, .int v6)] [] σ d := by
  intro n
  induction n with
  | zero =>
    intro v6
    intros
    rename_i h
    exact absurd h (by rw [mX12_hasPin_11]; exact fun q => nomatch q)
  | succ n ih =>
    intro v6 h
    rw [mX12_hasPin_11] at h
    refine V_iload (pc := 11) 5 dX12_hasPin_11 rfl ?_
    refine V_iconst (pc := 13) (x := 5) dX12_hasPin_13 (by decide) ?_
    refine V_icmp_ge (pc := 14) (tgt := 58) dX12_hasPin_14 (by decide) (fun c3 => ?_) (fun c3 => ?_)
    · have h := ite_p c3 h
      refine V_iconst (pc := 58) (x := 0) dX12_hasPin_58 (by decide) ?_
      cases h
      exact V_ret (pc := 59) dX12_hasPin_59 ⟨rfl, _, rfl, rfl⟩ ⟨rfl, rfl, rfl⟩
    · have h := ite_n c3 h
      refine V_iload (pc := 17) 4 dX12_hasPin_17 rfl ?_
      refine V_iload (pc := 19) 5 dX12_hasPin_19 rfl ?_
      refine V_cS2 (pc := 21) dX12_hasPin_21 kw1690 calX12_has kw1691 (by decide) (Nat.le_of_ble_eq_true rfl) (ctX12_has) ?_
      refine V_ifB_eq (pc := 24) (tgt := 52) dX12_hasPin_24 (by decide) (fun c6 => ?_) (fun c6 => ?_)
      · have h := ite_f c6 h
        refine V_iinc (pc := 52) (lv1 := [(6, _), (0, _), (2, _), (3, _), (4, _), (5, _)]) (z := _ + (1 : Int32)) 5 dX12_hasPin_52 rfl rfl (by decide) rfl ?_
        refine V_goto (pc := 55) (tgt := 11) dX12_hasPin_55 (by decide) ?_
        exact V_sub [1, 2, 3, 4, 5, 0] rfl (ih (v6 + (1 : Int32)) h)
      · have h := ite_p c6 h
        refine V_aload_n (pc := 27) 0 dX12_hasPin_27 rfl rfl ?_
        refine V_iload_n (pc := 28) 1 dX12_hasPin_28 rfl rfl ?_
        refine V_iload (pc := 29) 5 dX12_hasPin_29 rfl ?_
        obtain ⟨x8, h7, h⟩ := bnd h
        refine V_cV2 (pc := 31) dX12_hasPin_31 kw1671 calX12_pinPlug kw1673 ks100 (L11_0 H0) rfl (by decide) (Nat.le_of_ble_eq_true rfl) (ctX12_pinPlug H0 h7) ?_
        refine V_iload_n (pc := 34) 2 dX12_hasPin_34 rfl rfl ?_
        refine V_icmp_ne (pc := 35) (tgt := 52) dX12_hasPin_35 (by decide) (fun c9 => ?_) (fun c9 => ?_)
        · have h := ite_n c9 h
          refine V_iinc (pc := 52) (lv1 := [(6, _), (0, _), (2, _), (3, _), (4, _), (5, _)]) (z := _ + (1 : Int32)) 5 dX12_hasPin_52 rfl rfl (by decide) rfl ?_
          refine V_goto (pc := 55) (tgt := 11) dX12_hasPin_55 (by decide) ?_
          exact V_sub [1, 2, 3, 4, 5, 0] rfl (ih (v6 + (1 : Int32)) h)
        · have h := ite_p c9 h
          refine V_aload_n (pc := 38) 0 dX12_hasPin_38 rfl rfl ?_
          refine V_iload_n (pc := 39) 1 dX12_hasPin_39 rfl rfl ?_
          refine V_iload (pc := 40) 5 dX12_hasPin_40 rfl ?_
          obtain ⟨x11, h10, h⟩ := bnd h
          refine V_cV2 (pc := 42) dX12_hasPin_42 kw1755 calX12_pinHole kw1757 ks109 (L11_0 H0) rfl (by decide) (Nat.le_of_ble_eq_true rfl) (ctX12_pinHole H0 h10) ?_
          refine V_iload (pc := 45) 3 dX12_hasPin_45 rfl ?_
          refine V_icmp_ne (pc := 47) (tgt := 52) dX12_hasPin_47 (by decide) (fun c12 => ?_) (fun c12 => ?_)
          · have h := ite_n c12 h
            refine V_iinc (pc := 52) (lv1 := [(6, _), (0, _), (2, _), (3, _), (4, _), (5, _)]) (z := _ + (1 : Int32)) 5 dX12_hasPin_52 rfl rfl (by decide) rfl ?_
            refine V_goto (pc := 55) (tgt := 11) dX12_hasPin_55 (by decide) ?_
            exact V_sub [1, 2, 3, 4, 5, 0] rfl (ih (v6 + (1 : Int32)) h)
          · have h := ite_p c12 h
            refine V_iconst (pc := 50) (x := 1) dX12_hasPin_50 (by decide) ?_
            cases h
            exact V_ret (pc := 51) dX12_hasPin_51 ⟨rfl, _, rfl, rfl⟩ ⟨rfl, rfl, rfl⟩
theorem calX12_hasPin : Cal yX12_hasPin cX12_hasPin 7 (some .boolean) 4 := ⟨kw1770, kw11, by decide +kernel⟩
theorem ctX12_hasPin {G : Gl} {σ : Sg} {d : Dt} {r0 : Nat} {v1 : Int32} {v2 : Int32} {v3 : Int32} {v4 : Int32} {rr : Bool} (H0 : L11 σ r0) (h : mX12_hasPin r0 v1 v2 v3 v4 d = some rr) : CTv G yX12_hasPin cX12_hasPin 7 (some .boolean) 3 [.ref (gB G + r0), .int v1, .int v2, .int v3, .int v4] σ d [.int (b2i rr)] d := by
  refine CT_of pn_RX12 (Nat.le_of_ble_eq_true rfl) ?_
  rw [mX12_hasPin] at h
  refine V_aload_n (pc := 0) 0 dX12_hasPin_0 rfl rfl ?_
  refine V_iload_n (pc := 1) 1 dX12_hasPin_1 rfl rfl ?_
  refine V_iload_n (pc := 2) 2 dX12_hasPin_2 rfl rfl ?_
  obtain ⟨x2, h1, h⟩ := bnd h
  refine V_cV2 (pc := 3) dX12_hasPin_3 kw1667 calX12_pinsOf kw1669 ks99 (L11_0 H0) rfl (by decide) (Nat.le_of_ble_eq_true rfl) (ctX12_pinsOf H0 h1) ?_
  refine V_istore (pc := 6) (lv1 := [(5, _), (0, _), (1, _), (2, _), (3, _), (4, _)]) dX12_hasPin_6 (by decide) rfl ?_
  refine V_iconst (pc := 8) (x := 0) dX12_hasPin_8 (by decide) ?_
  refine V_istore (pc := 9) (lv1 := [(6, _), (5, _), (0, _), (1, _), (2, _), (3, _), (4, _)]) dX12_hasPin_9 (by decide) rfl ?_
  exact V_sub [2, 4, 5, 6, 1, 0] rfl (wX12_hasPin_11 H0 FUEL (0 : Int32) h)
theorem wX12_beside_81 {G : Gl} {σ : Sg} {d : Dt} {g11 : Int32 → Option Int32} {r0 : Nat} {v1 : Int32} {v2 : Int32} {v3 : Int32} {v4 : Int32} {v5 : Int32} {vs0 : Int32} {rr : Int32} (H0 : L11 σ r0) (hg11 : ∀ (v5 : Int32), g11 v5 = some rr → V G yX12_beside cX12_beside 7 (some .int) 4 0 0 (PH [.int rr] σ d) 11 [(0, .ref (gB G + r0)), (1, .int v1), (2, .int v2), (3, .int v3), (4, .int v4), (5, .int v5)] [] σ d) (h : mX12_beside_81 g11 d r0 v1 v2 v3 v4 v5 vs0 = some rr) : V G yX12_beside cX12_beside 7 (some .int) 4 0 0 (PH [.int rr] σ d) 81 [(0, .ref (gB G + r0)), (1, .int v1), (2, .int v2), (3, .int v3), (4, .int v4), (5, .int v5)] [.int vs0] σ d := by
  rw [mX12_beside_81] at h
  refine V_istore (pc := 81) (lv1 := [(6, _), (0, _), (1, _), (2, _), (3, _), (4, _), (5, _)]) dX12_beside_81 (by decide) rfl ?_
  refine V_aload_n (pc := 83) 1 dX12_beside_83 rfl rfl ?_
  refine V_iload (pc := 84) 6 dX12_beside_84 rfl ?_
  refine V_iconst (pc := 86) (x := 0) dX12_beside_86 (by decide) ?_
  obtain ⟨x21, h20, h⟩ := bnd h
  refine V_cV2 (pc := 87) dX12_beside_87 kw1636 calX12_netOf kw1638 ks95 (L11_0 H0) rfl (by decide) (Nat.le_of_ble_eq_true rfl) (ctX12_netOf H0 h20) ?_
  refine V_iconst (pc := 90) (x := 1) dX12_beside_90 (by decide) ?_
  refine V_iload (pc := 91) 5 dX12_beside_91 rfl ?_
  refine V_isub (pc := 93) dX12_beside_93 ?_
  refine V_icmp_ne (pc := 94) (tgt := 105) dX12_beside_94 (by decide) (fun c22 => ?_) (fun c22 => ?_)
  · have h := ite_n c22 h
    refine V_iinc (pc := 105) (lv1 := [(5, _), (6, _), (0, _), (1, _), (2, _), (3, _), (4, _)]) (z := _ + (1 : Int32)) 6 dX12_beside_105 rfl rfl (by decide) rfl ?_
    refine V_goto (pc := 108) (tgt := 11) dX12_beside_108 (by decide) ?_
    exact V_sub [2, 3, 4, 5, 6, 0] rfl (hg11 (v5 + (1 : Int32)) h)
  · have h := ite_p c22 h
    refine V_iload (pc := 97) 0 dX12_beside_97 rfl ?_
    refine V_if_eq (pc := 99) (tgt := 105) dX12_beside_99 (by decide) (fun c23 => ?_) (fun c23 => ?_)
    · have h := ite_p c23 h
      refine V_iinc (pc := 105) (lv1 := [(5, _), (6, _), (0, _), (1, _), (2, _), (3, _), (4, _)]) (z := _ + (1 : Int32)) 6 dX12_beside_105 rfl rfl (by decide) rfl ?_
      refine V_goto (pc := 108) (tgt := 11) dX12_beside_108 (by decide) ?_
      exact V_sub [2, 3, 4, 5, 6, 0] rfl (hg11 (v5 + (1 : Int32)) h)
    · have h := ite_n c23 h
      refine V_iload (pc := 102) 6 dX12_beside_102 rfl ?_
      cases h
      exact V_ret (pc := 104) dX12_beside_104 ⟨rfl, _, rfl⟩ ⟨rfl, rfl, rfl⟩
theorem wX12_beside_11 {G : Gl} {σ : Sg} {d : Dt} {r0 : Nat} {v1 : Int32} {v2 : Int32} {v3 : Int32} {v4 : Int32} {rr : Int32} (H0 : L11 σ r0) : ∀ (n : Nat) (v5 : Int32), mX12_beside_11 d r0 v1 v2 v3 v4 n v5 = some rr → V G yX12_beside cX12_beside 7 (some .int) 4 0 0 (PH [.int rr] σ d) 11 [(0, .ref (gB G + r0)), (1, .int v1), (2, .int v2), (3, .int v3), (4, .int v4), (5, .int v5)] [] σ d := by
  intro n
  induction n with
  | zero =>
    intro v5
    intros
    rename_i h
    exact absurd h (by rw [mX12_beside_11]; exact fun q => nomatch q)
  | succ n ih =>
    intro v5 h
    rw [mX12_beside_11] at h
    refine V_iload (pc := 11) 5 dX12_beside_11 rfl ?_
    refine V_aload_n (pc := 13) 0 dX12_beside_13 rfl rfl ?_
    refine V_getR (pc := 14) (c := 11) (k := 6) dX12_beside_14 (by decide) (by decide) kw1249 rfl rfl (L11_0 H0) (L11_r6 H0) ?_
    refine V_iconst (pc := 17) (x := 5) dX12_beside_17 (by decide) ?_
    obtain ⟨b3, h⟩ := ite_o h
    refine V_iald (pc := 18) dX12_beside_18 (L11_s6 H0) (inB_vp b3) ?_
    refine V_icmp_ge (pc := 19) (tgt := 111) dX12_beside_19 (by decide) (fun c4 => ?_) (fun c4 => ?_)
    · have h := ite_p c4 h
      refine V_iconst (pc := 111) (x := (-1)) dX12_beside_111 (by decide) ?_
      cases h
      exact V_ret (pc := 112) dX12_beside_112 ⟨rfl, _, rfl⟩ ⟨rfl, rfl, rfl⟩
    · have h := ite_n c4 h
      refine V_iload (pc := 22) 4 dX12_beside_22 rfl ?_
      refine V_iconst (pc := 24) (x := 2) dX12_beside_24 (by decide) ?_
      refine V_icmp_ge (pc := 25) (tgt := 111) dX12_beside_25 (by decide) (fun c5 => ?_) (fun c5 => ?_)
      · have h := ite_p c5 h
        refine V_iconst (pc := 111) (x := (-1)) dX12_beside_111 (by decide) ?_
        cases h
        exact V_ret (pc := 112) dX12_beside_112 ⟨rfl, _, rfl⟩ ⟨rfl, rfl, rfl⟩
      · have h := ite_n c5 h
        refine V_aload_n (pc := 28) 0 dX12_beside_28 rfl rfl ?_
        refine V_iload_n (pc := 29) 1 dX12_beside_29 rfl rfl ?_
        refine V_iload (pc := 30) 5 dX12_beside_30 rfl ?_
        refine V_aload_n (pc := 32) 0 dX12_beside_32 rfl rfl ?_
        refine V_iload_n (pc := 33) 2 dX12_beside_33 rfl rfl ?_
        refine V_iload_n (pc := 34) 3 dX12_beside_34 rfl rfl ?_
        obtain ⟨x7, h6, h⟩ := bnd h
        refine V_cV2 (pc := 35) dX12_beside_35 kw1671 calX12_pinPlug kw1673 ks100 (L11_0 H0) rfl (by decide) (Nat.le_of_ble_eq_true rfl) (ctX12_pinPlug H0 h6) ?_
        refine V_aload_n (pc := 38) 0 dX12_beside_38 rfl rfl ?_
        refine V_iload_n (pc := 39) 2 dX12_beside_39 rfl rfl ?_
        refine V_iload_n (pc := 40) 3 dX12_beside_40 rfl rfl ?_
        obtain ⟨x9, h8, h⟩ := bnd h
        refine V_cV2 (pc := 41) dX12_beside_41 kw1755 calX12_pinHole kw1757 ks109 (L11_0 H0) rfl (by decide) (Nat.le_of_ble_eq_true rfl) (ctX12_pinHole H0 h8) ?_
        refine V_iconst (pc := 44) (x := 1) dX12_beside_44 (by decide) ?_
        refine V_isub (pc := 45) dX12_beside_45 ?_
        obtain ⟨x11, h10, h⟩ := bnd h
        refine V_cV4 (pc := 46) dX12_beside_46 kw1767 calX12_hasPin kw1769 ks112 (L11_0 H0) rfl (by decide) (Nat.le_of_ble_eq_true rfl) (ctX12_hasPin H0 h10) ?_
        refine V_ifB_ne (pc := 49) (tgt := 76) dX12_beside_49 (by decide) (fun c12 => ?_) (fun c12 => ?_)
        · have h := ite_p c12 h
          refine V_iconst (pc := 76) (x := 1) dX12_beside_76 (by decide) ?_
          refine V_goto (pc := 77) (tgt := 81) dX12_beside_77 (by decide) ?_
          exact V_sub [0, 1, 2, 3, 4, 5] rfl (wX12_beside_81 H0 ih h)
        · have h := ite_f c12 h
          refine V_aload_n (pc := 52) 0 dX12_beside_52 rfl rfl ?_
          refine V_iload_n (pc := 53) 1 dX12_beside_53 rfl rfl ?_
          refine V_iload (pc := 54) 5 dX12_beside_54 rfl ?_
          refine V_aload_n (pc := 56) 0 dX12_beside_56 rfl rfl ?_
          refine V_iload_n (pc := 57) 2 dX12_beside_57 rfl rfl ?_
          refine V_iload_n (pc := 58) 3 dX12_beside_58 rfl rfl ?_
          obtain ⟨x14, h13, h⟩ := bnd h
          refine V_cV2 (pc := 59) dX12_beside_59 kw1671 calX12_pinPlug kw1673 ks100 (L11_0 H0) rfl (by decide) (Nat.le_of_ble_eq_true rfl) (ctX12_pinPlug H0 h13) ?_
          refine V_aload_n (pc := 62) 0 dX12_beside_62 rfl rfl ?_
          refine V_iload_n (pc := 63) 2 dX12_beside_63 rfl rfl ?_
          refine V_iload_n (pc := 64) 3 dX12_beside_64 rfl rfl ?_
          obtain ⟨x16, h15, h⟩ := bnd h
          refine V_cV2 (pc := 65) dX12_beside_65 kw1755 calX12_pinHole kw1757 ks109 (L11_0 H0) rfl (by decide) (Nat.le_of_ble_eq_true rfl) (ctX12_pinHole H0 h15) ?_
          refine V_iconst (pc := 68) (x := 1) dX12_beside_68 (by decide) ?_
          refine V_iadd (pc := 69) dX12_beside_69 ?_
          obtain ⟨x18, h17, h⟩ := bnd h
          refine V_cV4 (pc := 70) dX12_beside_70 kw1767 calX12_hasPin kw1769 ks112 (L11_0 H0) rfl (by decide) (Nat.le_of_ble_eq_true rfl) (ctX12_hasPin H0 h17) ?_
          refine V_ifB_eq (pc := 73) (tgt := 80) dX12_beside_73 (by decide) (fun c19 => ?_) (fun c19 => ?_)
          · have h := ite_f c19 h
            refine V_iconst (pc := 80) (x := 0) dX12_beside_80 (by decide) ?_
            exact V_sub [0, 1, 2, 3, 4, 5] rfl (wX12_beside_81 H0 ih h)
          · have h := ite_p c19 h
            refine V_iconst (pc := 76) (x := 1) dX12_beside_76 (by decide) ?_
            refine V_goto (pc := 77) (tgt := 81) dX12_beside_77 (by decide) ?_
            exact V_sub [0, 1, 2, 3, 4, 5] rfl (wX12_beside_81 H0 ih h)
theorem calX12_beside : Cal yX12_beside cX12_beside 7 (some .int) 3 := ⟨kw1774, kw11, by decide +kernel⟩
theorem ctX12_beside {G : Gl} {σ : Sg} {d : Dt} {r0 : Nat} {v1 : Int32} {v2 : Int32} {v3 : Int32} {rr : Int32} (H0 : L11 σ r0) (h : mX12_beside r0 v1 v2 v3 d = some rr) : CTv G yX12_beside cX12_beside 7 (some .int) 4 [.ref (gB G + r0), .int v1, .int v2, .int v3] σ d [.int rr] d := by
  refine CT_of pn_RX12 (Nat.le_of_ble_eq_true rfl) ?_
  rw [mX12_beside] at h
  refine V_aload_n (pc := 0) 0 dX12_beside_0 rfl rfl ?_
  refine V_iload_n (pc := 1) 2 dX12_beside_1 rfl rfl ?_
  refine V_iconst (pc := 2) (x := 0) dX12_beside_2 (by decide) ?_
  obtain ⟨x2, h1, h⟩ := bnd h
  refine V_cV2 (pc := 3) dX12_beside_3 kw1636 calX12_netOf kw1638 ks95 (L11_0 H0) rfl (by decide) (Nat.le_of_ble_eq_true rfl) (ctX12_netOf H0 h1) ?_
  refine V_istore (pc := 6) (lv1 := [(4, _), (0, _), (1, _), (2, _), (3, _)]) dX12_beside_6 (by decide) rfl ?_
  refine V_iconst (pc := 8) (x := 0) dX12_beside_8 (by decide) ?_
  refine V_istore (pc := 9) (lv1 := [(5, _), (4, _), (0, _), (1, _), (2, _), (3, _)]) dX12_beside_9 (by decide) rfl ?_
  exact V_sub [2, 3, 4, 5, 1, 0] rfl (wX12_beside_11 H0 FUEL (0 : Int32) h)
theorem wX12_bitsOf_4 {G : Gl} {σ : Sg} {d : Dt} {rr : Int32} : ∀ (n : Nat) (v1 : Int32) (v2 : Int32), mX12_bitsOf_4 n v1 v2 = some rr → V G yX12_bitsOf cX12_bitsOf 3 (some .int) 0 0 0 (PH [.int rr] σ d) 4 [(1, .int v1), (2, .int v2)] [] σ d := by
  intro n
  induction n with
  | zero =>
    intro v1 v2
    intros
    rename_i h
    exact absurd h (by rw [mX12_bitsOf_4]; exact fun q => nomatch q)
  | succ n ih =>
    intro v1 v2 h
    rw [mX12_bitsOf_4] at h
    refine V_iload_n (pc := 4) 1 dX12_bitsOf_4 rfl rfl ?_
    refine V_if_eq (pc := 5) (tgt := 20) dX12_bitsOf_5 (by decide) (fun c1 => ?_) (fun c1 => ?_)
    · have h := ite_p c1 h
      refine V_iload_n (pc := 20) 0 dX12_bitsOf_20 rfl rfl ?_
      cases h
      exact V_ret (pc := 21) dX12_bitsOf_21 ⟨rfl, _, rfl⟩ ⟨rfl, rfl, rfl⟩
    · have h := ite_n c1 h
      refine V_iinc (pc := 8) (lv1 := [(1, _), (2, _)]) (z := _ + (1 : Int32)) 0 dX12_bitsOf_8 rfl rfl (by decide) rfl ?_
      refine V_iload_n (pc := 11) 1 dX12_bitsOf_11 rfl rfl ?_
      refine V_iload_n (pc := 12) 1 dX12_bitsOf_12 rfl rfl ?_
      refine V_iconst (pc := 13) (x := 1) dX12_bitsOf_13 (by decide) ?_
      refine V_isub (pc := 14) dX12_bitsOf_14 ?_
      refine V_iand (pc := 15) dX12_bitsOf_15 ?_
      refine V_istore_n (pc := 16) (lv1 := [(2, _), (1, _)]) dX12_bitsOf_16 rfl (by decide) rfl ?_
      refine V_goto (pc := 17) (tgt := 4) dX12_bitsOf_17 (by decide) ?_
      exact V_sub [1, 0] rfl (ih (v1 + (1 : Int32)) (v2 &&& (v2 - (1 : Int32))) h)
theorem calX12_bitsOf : Cal yX12_bitsOf cX12_bitsOf 3 (some .int) 1 := ⟨kw1685, kw11, by decide +kernel⟩
theorem ctX12_bitsOf {G : Gl} {σ : Sg} {d : Dt} {v0 : Int32} {rr : Int32} (h : mX12_bitsOf v0 = some rr) : CTv G yX12_bitsOf cX12_bitsOf 3 (some .int) 0 [.int v0] σ d [.int rr] d := by
  refine CT_of pn_RX12 (Nat.le_of_ble_eq_true rfl) ?_
  rw [mX12_bitsOf] at h
  refine V_iconst (pc := 0) (x := 0) dX12_bitsOf_0 (by decide) ?_
  refine V_istore_n (pc := 1) (lv1 := [(1, _), (0, _)]) dX12_bitsOf_1 rfl (by decide) rfl ?_
  refine V_iload_n (pc := 2) 1 dX12_bitsOf_2 rfl rfl ?_
  refine V_istore_n (pc := 3) (lv1 := [(2, _), (1, _), (0, _)]) dX12_bitsOf_3 rfl (by decide) rfl ?_
  exact V_sub [1, 0] rfl (wX12_bitsOf_4 FUEL (0 : Int32) v0 h)
theorem wX12_firstOf_2 {G : Gl} {σ : Sg} {d : Dt} {v0 : Int32} {rr : Int32} : ∀ (n : Nat) (v1 : Int32), mX12_firstOf_2 v0 n v1 = some rr → V G yX12_firstOf cX12_firstOf 2 (some .int) 1 0 0 (PH [.int rr] σ d) 2 [(0, .int v0), (1, .int v1)] [] σ d := by
  intro n
  induction n with
  | zero =>
    intro v1
    intros
    rename_i h
    exact absurd h (by rw [mX12_firstOf_2]; exact fun q => nomatch q)
  | succ n ih =>
    intro v1 h
    rw [mX12_firstOf_2] at h
    refine V_iload_n (pc := 2) 0 dX12_firstOf_2 rfl rfl ?_
    refine V_iload_n (pc := 3) 1 dX12_firstOf_3 rfl rfl ?_
    refine V_cS2 (pc := 4) dX12_firstOf_4 kw1690 calX12_has kw1691 (by decide) (Nat.le_of_ble_eq_true rfl) (ctX12_has) ?_
    refine V_ifB_ne (pc := 7) (tgt := 16) dX12_firstOf_7 (by decide) (fun c3 => ?_) (fun c3 => ?_)
    · have h := ite_p c3 h
      refine V_iload_n (pc := 16) 1 dX12_firstOf_16 rfl rfl ?_
      cases h
      exact V_ret (pc := 17) dX12_firstOf_17 ⟨rfl, _, rfl⟩ ⟨rfl, rfl, rfl⟩
    · have h := ite_f c3 h
      refine V_iinc (pc := 10) (lv1 := [(1, _), (0, _)]) (z := _ + (1 : Int32)) 1 dX12_firstOf_10 rfl rfl (by decide) rfl ?_
      refine V_goto (pc := 13) (tgt := 2) dX12_firstOf_13 (by decide) ?_
      exact V_sub [1, 0] rfl (ih (v1 + (1 : Int32)) h)
theorem calX12_firstOf : Cal yX12_firstOf cX12_firstOf 2 (some .int) 1 := ⟨kw1714, kw11, by decide +kernel⟩
theorem ctX12_firstOf {G : Gl} {σ : Sg} {d : Dt} {v0 : Int32} {rr : Int32} (h : mX12_firstOf v0 = some rr) : CTv G yX12_firstOf cX12_firstOf 2 (some .int) 1 [.int v0] σ d [.int rr] d := by
  refine CT_of pn_RX12 (Nat.le_of_ble_eq_true rfl) ?_
  rw [mX12_firstOf] at h
  refine V_iconst (pc := 0) (x := 0) dX12_firstOf_0 (by decide) ?_
  refine V_istore_n (pc := 1) (lv1 := [(1, _), (0, _)]) dX12_firstOf_1 rfl (by decide) rfl ?_
  exact V_sub [1, 0] rfl (wX12_firstOf_2 FUEL (0 : Int32) h)
theorem calX12_pinNode : Cal yX12_pinNode cX12_pinNode 3 (some .int) 2 := ⟨kw1696, kw11, by decide +kernel⟩
theorem ctX12_pinNode {G : Gl} {σ : Sg} {d : Dt} {r0 : Nat} {v1 : Int32} {v2 : Int32} {rr : Int32} (H0 : L11 σ r0) (h : mX12_pinNode r0 v1 v2 d = some rr) : CTv G yX12_pinNode cX12_pinNode 3 (some .int) 2 [.ref (gB G + r0), .int v1, .int v2] σ d [.int rr] d := by
  refine CT_of pn_RX12 (Nat.le_of_ble_eq_true rfl) ?_
  rw [mX12_pinNode] at h
  refine V_aload_n (pc := 0) 0 dX12_pinNode_0 rfl rfl ?_
  refine V_aload_n (pc := 1) 0 dX12_pinNode_1 rfl rfl ?_
  refine V_iload_n (pc := 2) 1 dX12_pinNode_2 rfl rfl ?_
  refine V_iload_n (pc := 3) 2 dX12_pinNode_3 rfl rfl ?_
  obtain ⟨x2, h1, h⟩ := bnd h
  refine V_cV2 (pc := 4) dX12_pinNode_4 kw1671 calX12_pinPlug kw1673 ks100 (L11_0 H0) rfl (by decide) (Nat.le_of_ble_eq_true rfl) (ctX12_pinPlug H0 h1) ?_
  refine V_iconst (pc := 7) (x := 0) dX12_pinNode_7 (by decide) ?_
  obtain ⟨x4, h3, h⟩ := bnd h
  refine V_cV2 (pc := 8) dX12_pinNode_8 kw1624 calX12_plugOf kw1626 ks93 (L11_0 H0) rfl (by decide) (Nat.le_of_ble_eq_true rfl) (ctX12_plugOf H0 h3) ?_
  cases h
  exact V_ret (pc := 11) dX12_pinNode_11 ⟨rfl, _, rfl⟩ ⟨rfl, rfl, rfl⟩
theorem wX12_isBeyond_2 {G : Gl} {σ : Sg} {d : Dt} {r0 : Nat} {v2 : Int32} {rr : Bool} (H0 : L11 σ r0) : ∀ (n : Nat) (v3 : Int32), mX12_isBeyond_2 d r0 v2 n v3 = some rr → V G yX12_isBeyond cX12_isBeyond 4 (some .boolean) 0 0 0 (PH [.int (b2i rr)] σ d) 2 [(0, .ref (gB G + r0)), (2, .int v2), (3, .int v3)] [] σ d := by
  intro n
  induction n with
  | zero =>
    intro v3
    intros
    rename_i h
    exact absurd h (by rw [mX12_isBeyond_2]; exact fun q => nomatch q)
  | succ n ih =>
    intro v3 h
    rw [mX12_isBeyond_2] at h
    refine V_iload_n (pc := 2) 2 dX12_isBeyond_2 rfl rfl ?_
    refine V_bipush (pc := 3) (x := (-2)) dX12_isBeyond_3 (by decide) ?_
    refine V_icmp_eq (pc := 5) (tgt := 26) dX12_isBeyond_5 (by decide) (fun c1 => ?_) (fun c1 => ?_)
    · have h := ite_p c1 h
      refine V_iload_n (pc := 26) 2 dX12_isBeyond_26 rfl rfl ?_
      refine V_iload_n (pc := 27) 1 dX12_isBeyond_27 rfl rfl ?_
      refine V_icmp_ne (pc := 28) (tgt := 35) dX12_isBeyond_28 (by decide) (fun c2 => ?_) (fun c2 => ?_)
      · have h := ite_n c2 h
        refine V_iconst (pc := 35) (x := 0) dX12_isBeyond_35 (by decide) ?_
        cases h
        exact V_ret (pc := 36) dX12_isBeyond_36 ⟨rfl, _, rfl, rfl⟩ ⟨rfl, rfl, rfl⟩
      · have h := ite_p c2 h
        refine V_iconst (pc := 31) (x := 1) dX12_isBeyond_31 (by decide) ?_
        refine V_goto (pc := 32) (tgt := 36) dX12_isBeyond_32 (by decide) ?_
        cases h
        exact V_ret (pc := 36) dX12_isBeyond_36 ⟨rfl, _, rfl, rfl⟩ ⟨rfl, rfl, rfl⟩
    · have h := ite_n c1 h
      refine V_iload_n (pc := 8) 2 dX12_isBeyond_8 rfl rfl ?_
      refine V_iload_n (pc := 9) 1 dX12_isBeyond_9 rfl rfl ?_
      refine V_icmp_eq (pc := 10) (tgt := 26) dX12_isBeyond_10 (by decide) (fun c3 => ?_) (fun c3 => ?_)
      · have h := ite_p c3 h
        refine V_iload_n (pc := 26) 2 dX12_isBeyond_26 rfl rfl ?_
        refine V_iload_n (pc := 27) 1 dX12_isBeyond_27 rfl rfl ?_
        refine V_icmp_ne (pc := 28) (tgt := 35) dX12_isBeyond_28 (by decide) (fun c4 => ?_) (fun c4 => ?_)
        · have h := ite_n c4 h
          refine V_iconst (pc := 35) (x := 0) dX12_isBeyond_35 (by decide) ?_
          cases h
          exact V_ret (pc := 36) dX12_isBeyond_36 ⟨rfl, _, rfl, rfl⟩ ⟨rfl, rfl, rfl⟩
        · have h := ite_p c4 h
          refine V_iconst (pc := 31) (x := 1) dX12_isBeyond_31 (by decide) ?_
          refine V_goto (pc := 32) (tgt := 36) dX12_isBeyond_32 (by decide) ?_
          cases h
          exact V_ret (pc := 36) dX12_isBeyond_36 ⟨rfl, _, rfl, rfl⟩ ⟨rfl, rfl, rfl⟩
      · have h := ite_n c3 h
        refine V_aload_n (pc := 13) 0 dX12_isBeyond_13 rfl rfl ?_
        refine V_getR (pc := 14) (c := 11) (k := 6) dX12_isBeyond_14 (by decide) (by decide) kw1249 rfl rfl (L11_0 H0) (L11_r6 H0) ?_
        refine V_bipush (pc := 17) (x := 7) dX12_isBeyond_17 (by decide) ?_
        refine V_iload_n (pc := 19) 2 dX12_isBeyond_19 rfl rfl ?_
        refine V_iadd (pc := 20) dX12_isBeyond_20 ?_
        obtain ⟨b5, h⟩ := ite_o h
        refine V_iald (pc := 21) dX12_isBeyond_21 (L11_s6 H0) (inB_vp b5) ?_
        refine V_istore_n (pc := 22) (lv1 := [(3, _), (0, _), (2, _)]) dX12_isBeyond_22 rfl (by decide) rfl ?_
        refine V_goto (pc := 23) (tgt := 2) dX12_isBeyond_23 (by decide) ?_
        exact V_sub [1, 2, 0] rfl (ih (d.1 (r0 + 2) ((7 : Int32) + v3).toNatClampNeg) h)
theorem calX12_isBeyond : Cal yX12_isBeyond cX12_isBeyond 4 (some .boolean) 2 := ⟨kw1553, kw11, by decide +kernel⟩
theorem ctX12_isBeyond {G : Gl} {σ : Sg} {d : Dt} {r0 : Nat} {v1 : Int32} {v2 : Int32} {rr : Bool} (H0 : L11 σ r0) (h : mX12_isBeyond r0 v1 v2 d = some rr) : CTv G yX12_isBeyond cX12_isBeyond 4 (some .boolean) 0 [.ref (gB G + r0), .int v1, .int v2] σ d [.int (b2i rr)] d := by
  refine CT_of pn_RX12 (Nat.le_of_ble_eq_true rfl) ?_
  rw [mX12_isBeyond] at h
  refine V_iload_n (pc := 0) 1 dX12_isBeyond_0 rfl rfl ?_
  refine V_istore_n (pc := 1) (lv1 := [(3, _), (0, _), (1, _), (2, _)]) dX12_isBeyond_1 rfl (by decide) rfl ?_
  exact V_sub [1, 3, 0] rfl (wX12_isBeyond_2 H0 FUEL v1 h)
theorem calX12_isBetween : Cal yX12_isBetween cX12_isBetween 4 (some .boolean) 3 := ⟨kw1549, kw11, by decide +kernel⟩
theorem ctX12_isBetween {G : Gl} {σ : Sg} {d : Dt} {r0 : Nat} {v1 : Int32} {v2 : Int32} {v3 : Int32} {rr : Bool} (H0 : L11 σ r0) (h : mX12_isBetween r0 v1 v2 v3 d = some rr) : CTv G yX12_isBetween cX12_isBetween 4 (some .boolean) 1 [.ref (gB G + r0), .int v1, .int v2, .int v3] σ d [.int (b2i rr)] d := by
  refine CT_of pn_RX12 (Nat.le_of_ble_eq_true rfl) ?_
  rw [mX12_isBetween] at h
  refine V_aload_n (pc := 0) 0 dX12_isBetween_0 rfl rfl ?_
  refine V_iload_n (pc := 1) 1 dX12_isBetween_1 rfl rfl ?_
  refine V_iload_n (pc := 2) 3 dX12_isBetween_2 rfl rfl ?_
  obtain ⟨x2, h1, h⟩ := bnd h
  refine V_cV2 (pc := 3) dX12_isBetween_3 kw1550 calX12_isBeyond kw1552 ks86 (L11_0 H0) rfl (by decide) (Nat.le_of_ble_eq_true rfl) (ctX12_isBeyond H0 h1) ?_
  refine V_aload_n (pc := 6) 0 dX12_isBetween_6 rfl rfl ?_
  refine V_iload_n (pc := 7) 2 dX12_isBetween_7 rfl rfl ?_
  refine V_iload_n (pc := 8) 3 dX12_isBetween_8 rfl rfl ?_
  obtain ⟨x4, h3, h⟩ := bnd h
  refine V_cV2 (pc := 9) dX12_isBetween_9 kw1550 calX12_isBeyond kw1552 ks86 (L11_0 H0) rfl (by decide) (Nat.le_of_ble_eq_true rfl) (ctX12_isBeyond H0 h3) ?_
  refine V_icmp_eq (pc := 12) (tgt := 19) dX12_isBetween_12 (by decide) (fun c5 => ?_) (fun c5 => ?_)
  · have h := ite_p c5 h
    refine V_iconst (pc := 19) (x := 0) dX12_isBetween_19 (by decide) ?_
    cases h
    exact V_ret (pc := 20) dX12_isBetween_20 ⟨rfl, _, rfl, rfl⟩ ⟨rfl, rfl, rfl⟩
  · have h := ite_n c5 h
    refine V_iconst (pc := 15) (x := 1) dX12_isBetween_15 (by decide) ?_
    refine V_goto (pc := 16) (tgt := 20) dX12_isBetween_16 (by decide) ?_
    cases h
    exact V_ret (pc := 20) dX12_isBetween_20 ⟨rfl, _, rfl, rfl⟩ ⟨rfl, rfl, rfl⟩
theorem wX12_farOf_5 {G : Gl} {σ : Sg} {d : Dt} {r0 : Nat} {v1 : Int32} {v2 : Int32} {rr : Int32} (H0 : L11 σ r0) : ∀ (n : Nat) (v3 : Int32) (v4 : Int32), mX12_farOf_5 d r0 v1 v2 n v3 v4 = some rr → V G yX12_farOf cX12_farOf 5 (some .int) 2 0 0 (PH [.int rr] σ d) 5 [(0, .ref (gB G + r0)), (1, .int v1), (2, .int v2), (3, .int v3), (4, .int v4)] [] σ d := by
  intro n
  induction n with
  | zero =>
    intro v3 v4
    intros
    rename_i h
    exact absurd h (by rw [mX12_farOf_5]; exact fun q => nomatch q)
  | succ n ih =>
    intro v3 v4 h
    rw [mX12_farOf_5] at h
    refine V_iload (pc := 5) 4 dX12_farOf_5 rfl ?_
    refine V_aload_n (pc := 7) 0 dX12_farOf_7 rfl rfl ?_
    refine V_getR (pc := 8) (c := 11) (k := 6) dX12_farOf_8 (by decide) (by decide) kw1249 rfl rfl (L11_0 H0) (L11_r6 H0) ?_
    refine V_iconst (pc := 11) (x := 2) dX12_farOf_11 (by decide) ?_
    obtain ⟨b1, h⟩ := ite_o h
    refine V_iald (pc := 12) dX12_farOf_12 (L11_s6 H0) (inB_vp b1) ?_
    refine V_icmp_ge (pc := 13) (tgt := 50) dX12_farOf_13 (by decide) (fun c2 => ?_) (fun c2 => ?_)
    · have h := ite_p c2 h
      refine V_iload_n (pc := 50) 3 dX12_farOf_50 rfl rfl ?_
      cases h
      exact V_ret (pc := 51) dX12_farOf_51 ⟨rfl, _, rfl⟩ ⟨rfl, rfl, rfl⟩
    · have h := ite_n c2 h
      refine V_iload_n (pc := 16) 3 dX12_farOf_16 rfl rfl ?_
      refine V_aload_n (pc := 17) 0 dX12_farOf_17 rfl rfl ?_
      refine V_iload_n (pc := 18) 1 dX12_farOf_18 rfl rfl ?_
      refine V_iload_n (pc := 19) 2 dX12_farOf_19 rfl rfl ?_
      refine V_iload (pc := 20) 4 dX12_farOf_20 rfl ?_
      obtain ⟨x4, h3, h⟩ := bnd h
      refine V_cV3 (pc := 22) dX12_farOf_22 kw1546 calX12_isBetween kw1548 ks85 (L11_0 H0) rfl (by decide) (Nat.le_of_ble_eq_true rfl) (ctX12_isBetween H0 h3) ?_
      refine V_ifB_eq (pc := 25) (tgt := 41) dX12_farOf_25 (by decide) (fun c5 => ?_) (fun c5 => ?_)
      · have h := ite_f c5 h
        refine V_iconst (pc := 41) (x := 0) dX12_farOf_41 (by decide) ?_
        refine V_iadd (pc := 42) dX12_farOf_42 ?_
        refine V_istore_n (pc := 43) (lv1 := [(3, _), (0, _), (1, _), (2, _), (4, _)]) dX12_farOf_43 rfl (by decide) rfl ?_
        refine V_iinc (pc := 44) (lv1 := [(4, _), (3, _), (0, _), (1, _), (2, _)]) (z := _ + (1 : Int32)) 4 dX12_farOf_44 rfl rfl (by decide) rfl ?_
        refine V_goto (pc := 47) (tgt := 5) dX12_farOf_47 (by decide) ?_
        exact V_sub [2, 3, 4, 1, 0] rfl (ih (v3 + (0 : Int32)) (v4 + (1 : Int32)) h)
      · have h := ite_p c5 h
        refine V_aload_n (pc := 28) 0 dX12_farOf_28 rfl rfl ?_
        refine V_getR (pc := 29) (c := 11) (k := 6) dX12_farOf_29 (by decide) (by decide) kw1249 rfl rfl (L11_0 H0) (L11_r6 H0) ?_
        refine V_bipush (pc := 32) (x := 21) dX12_farOf_32 (by decide) ?_
        refine V_iload (pc := 34) 4 dX12_farOf_34 rfl ?_
        refine V_iadd (pc := 36) dX12_farOf_36 ?_
        obtain ⟨b6, h⟩ := ite_o h
        refine V_iald (pc := 37) dX12_farOf_37 (L11_s6 H0) (inB_vp b6) ?_
        refine V_goto (pc := 38) (tgt := 42) dX12_farOf_38 (by decide) ?_
        refine V_iadd (pc := 42) dX12_farOf_42 ?_
        refine V_istore_n (pc := 43) (lv1 := [(3, _), (0, _), (1, _), (2, _), (4, _)]) dX12_farOf_43 rfl (by decide) rfl ?_
        refine V_iinc (pc := 44) (lv1 := [(4, _), (3, _), (0, _), (1, _), (2, _)]) (z := _ + (1 : Int32)) 4 dX12_farOf_44 rfl rfl (by decide) rfl ?_
        refine V_goto (pc := 47) (tgt := 5) dX12_farOf_47 (by decide) ?_
        exact V_sub [2, 3, 4, 1, 0] rfl (ih (v3 + (d.1 (r0 + 2) ((21 : Int32) + v4).toNatClampNeg)) (v4 + (1 : Int32)) h)
theorem calX12_farOf : Cal yX12_farOf cX12_farOf 5 (some .int) 2 := ⟨kw1545, kw11, by decide +kernel⟩
theorem ctX12_farOf {G : Gl} {σ : Sg} {d : Dt} {r0 : Nat} {v1 : Int32} {v2 : Int32} {rr : Int32} (H0 : L11 σ r0) (h : mX12_farOf r0 v1 v2 d = some rr) : CTv G yX12_farOf cX12_farOf 5 (some .int) 2 [.ref (gB G + r0), .int v1, .int v2] σ d [.int rr] d := by
  refine CT_of pn_RX12 (Nat.le_of_ble_eq_true rfl) ?_
  rw [mX12_farOf] at h
  refine V_iconst (pc := 0) (x := 0) dX12_farOf_0 (by decide) ?_
  refine V_istore_n (pc := 1) (lv1 := [(3, _), (0, _), (1, _), (2, _)]) dX12_farOf_1 rfl (by decide) rfl ?_
  refine V_iconst (pc := 2) (x := 1) dX12_farOf_2 (by decide) ?_
  refine V_istore (pc := 3) (lv1 := [(4, _), (3, _), (0, _), (1, _), (2, _)]) dX12_farOf_3 (by decide) rfl ?_
  exact V_sub [2, 3, 4, 1, 0] rfl (wX12_farOf_5 H0 FUEL (0 : Int32) (1 : Int32) h)
theorem wX12_reachOf_6 {G : Gl} {σ : Sg} {d : Dt} {r0 : Nat} {v1 : Int32} {v2 : Int32} {v3 : Int32} {rr : Int32} (H0 : L11 σ r0) : ∀ (n : Nat) (v4 : Int32) (v5 : Int32), mX12_reachOf_6 d r0 v1 v2 v3 n v4 v5 = some rr → V G yX12_reachOf cX12_reachOf 6 (some .int) 3 0 0 (PH [.int rr] σ d) 6 [(0, .ref (gB G + r0)), (1, .int v1), (2, .int v2), (3, .int v3), (4, .int v4), (5, .int v5)] [] σ d := by
  intro n
  induction n with
  | zero =>
    intro v4 v5
    intros
    rename_i h
    exact absurd h (by rw [mX12_reachOf_6]; exact fun q => nomatch q)
  | succ n ih =>
    intro v4 v5 h
    rw [mX12_reachOf_6] at h
    refine V_iload (pc := 6) 5 dX12_reachOf_6 rfl ?_
    refine V_iconst (pc := 8) (x := 5) dX12_reachOf_8 (by decide) ?_
    refine V_icmp_ge (pc := 9) (tgt := 48) dX12_reachOf_9 (by decide) (fun c1 => ?_) (fun c1 => ?_)
    · have h := ite_p c1 h
      refine V_iload (pc := 48) 4 dX12_reachOf_48 rfl ?_
      cases h
      exact V_ret (pc := 50) dX12_reachOf_50 ⟨rfl, _, rfl⟩ ⟨rfl, rfl, rfl⟩
    · have h := ite_n c1 h
      refine V_iload (pc := 12) 4 dX12_reachOf_12 rfl ?_
      refine V_iload_n (pc := 14) 2 dX12_reachOf_14 rfl rfl ?_
      refine V_iload (pc := 15) 5 dX12_reachOf_15 rfl ?_
      refine V_cS2 (pc := 17) dX12_reachOf_17 kw1690 calX12_has kw1691 (by decide) (Nat.le_of_ble_eq_true rfl) (ctX12_has) ?_
      refine V_ifB_eq (pc := 20) (tgt := 38) dX12_reachOf_20 (by decide) (fun c4 => ?_) (fun c4 => ?_)
      · have h := ite_f c4 h
        refine V_iconst (pc := 38) (x := 0) dX12_reachOf_38 (by decide) ?_
        refine V_iadd (pc := 39) dX12_reachOf_39 ?_
        refine V_istore (pc := 40) (lv1 := [(4, _), (0, _), (1, _), (2, _), (3, _), (5, _)]) dX12_reachOf_40 (by decide) rfl ?_
        refine V_iinc (pc := 42) (lv1 := [(5, _), (4, _), (0, _), (1, _), (2, _), (3, _)]) (z := _ + (1 : Int32)) 5 dX12_reachOf_42 rfl rfl (by decide) rfl ?_
        refine V_goto (pc := 45) (tgt := 6) dX12_reachOf_45 (by decide) ?_
        exact V_sub [2, 3, 4, 5, 1, 0] rfl (ih (v4 + (0 : Int32)) (v5 + (1 : Int32)) h)
      · have h := ite_p c4 h
        refine V_aload_n (pc := 23) 0 dX12_reachOf_23 rfl rfl ?_
        refine V_aload_n (pc := 24) 0 dX12_reachOf_24 rfl rfl ?_
        refine V_iload_n (pc := 25) 1 dX12_reachOf_25 rfl rfl ?_
        refine V_iload (pc := 26) 5 dX12_reachOf_26 rfl ?_
        obtain ⟨x6, h5, h⟩ := bnd h
        refine V_cV2 (pc := 28) dX12_reachOf_28 kw1693 calX12_pinNode kw1695 ks103 (L11_0 H0) rfl (by decide) (Nat.le_of_ble_eq_true rfl) (ctX12_pinNode H0 h5) ?_
        refine V_iload_n (pc := 31) 3 dX12_reachOf_31 rfl rfl ?_
        obtain ⟨x8, h7, h⟩ := bnd h
        refine V_cV2 (pc := 32) dX12_reachOf_32 kw1542 calX12_farOf kw1544 ks84 (L11_0 H0) rfl (by decide) (Nat.le_of_ble_eq_true rfl) (ctX12_farOf H0 h7) ?_
        refine V_goto (pc := 35) (tgt := 39) dX12_reachOf_35 (by decide) ?_
        refine V_iadd (pc := 39) dX12_reachOf_39 ?_
        refine V_istore (pc := 40) (lv1 := [(4, _), (0, _), (1, _), (2, _), (3, _), (5, _)]) dX12_reachOf_40 (by decide) rfl ?_
        refine V_iinc (pc := 42) (lv1 := [(5, _), (4, _), (0, _), (1, _), (2, _), (3, _)]) (z := _ + (1 : Int32)) 5 dX12_reachOf_42 rfl rfl (by decide) rfl ?_
        refine V_goto (pc := 45) (tgt := 6) dX12_reachOf_45 (by decide) ?_
        exact V_sub [2, 3, 4, 5, 1, 0] rfl (ih (v4 + x8) (v5 + (1 : Int32)) h)
theorem calX12_reachOf : Cal yX12_reachOf cX12_reachOf 6 (some .int) 3 := ⟨kw1689, kw11, by decide +kernel⟩
theorem ctX12_reachOf {G : Gl} {σ : Sg} {d : Dt} {r0 : Nat} {v1 : Int32} {v2 : Int32} {v3 : Int32} {rr : Int32} (H0 : L11 σ r0) (h : mX12_reachOf r0 v1 v2 v3 d = some rr) : CTv G yX12_reachOf cX12_reachOf 6 (some .int) 3 [.ref (gB G + r0), .int v1, .int v2, .int v3] σ d [.int rr] d := by
  refine CT_of pn_RX12 (Nat.le_of_ble_eq_true rfl) ?_
  rw [mX12_reachOf] at h
  refine V_iconst (pc := 0) (x := 0) dX12_reachOf_0 (by decide) ?_
  refine V_istore (pc := 1) (lv1 := [(4, _), (0, _), (1, _), (2, _), (3, _)]) dX12_reachOf_1 (by decide) rfl ?_
  refine V_iconst (pc := 3) (x := 0) dX12_reachOf_3 (by decide) ?_
  refine V_istore (pc := 4) (lv1 := [(5, _), (4, _), (0, _), (1, _), (2, _), (3, _)]) dX12_reachOf_4 (by decide) rfl ?_
  exact V_sub [2, 3, 4, 5, 1, 0] rfl (wX12_reachOf_6 H0 FUEL (0 : Int32) (0 : Int32) h)
theorem wX12_spliceOf_34 {G : Gl} {σ : Sg} {d : Dt} {r0 : Nat} {v1 : Int32} {v2 : Int32} {rr : Int32} (H0 : L11 σ r0) : ∀ (n : Nat) (v3 : Int32) (v4 : Int32), mX12_spliceOf_34 d r0 v1 v2 n v3 v4 = some rr → V G yX12_spliceOf cX12_spliceOf 5 (some .int) 4 0 0 (PH [.int rr] σ d) 34 [(0, .ref (gB G + r0)), (1, .int v1), (2, .int v2), (3, .int v3), (4, .int v4)] [] σ d := by
  intro n
  induction n with
  | zero =>
    intro v3 v4
    intros
    rename_i h
    exact absurd h (by rw [mX12_spliceOf_34]; exact fun q => nomatch q)
  | succ n ih =>
    intro v3 v4 h
    rw [mX12_spliceOf_34] at h
    refine V_iload (pc := 34) 4 dX12_spliceOf_34 rfl ?_
    refine V_aload_n (pc := 36) 0 dX12_spliceOf_36 rfl rfl ?_
    refine V_getR (pc := 37) (c := 11) (k := 6) dX12_spliceOf_37 (by decide) (by decide) kw1249 rfl rfl (L11_0 H0) (L11_r6 H0) ?_
    refine V_iconst (pc := 40) (x := 2) dX12_spliceOf_40 (by decide) ?_
    obtain ⟨b9, h⟩ := ite_o h
    refine V_iald (pc := 41) dX12_spliceOf_41 (L11_s6 H0) (inB_vp b9) ?_
    refine V_icmp_ge (pc := 42) (tgt := 76) dX12_spliceOf_42 (by decide) (fun c10 => ?_) (fun c10 => ?_)
    · have h := ite_p c10 h
      refine V_iload_n (pc := 76) 3 dX12_spliceOf_76 rfl rfl ?_
      cases h
      exact V_ret (pc := 77) dX12_spliceOf_77 ⟨rfl, _, rfl⟩ ⟨rfl, rfl, rfl⟩
    · have h := ite_n c10 h
      refine V_aload_n (pc := 45) 0 dX12_spliceOf_45 rfl rfl ?_
      refine V_iload_n (pc := 46) 1 dX12_spliceOf_46 rfl rfl ?_
      refine V_iload_n (pc := 47) 2 dX12_spliceOf_47 rfl rfl ?_
      refine V_iload (pc := 48) 4 dX12_spliceOf_48 rfl ?_
      obtain ⟨x12, h11, h⟩ := bnd h
      refine V_cV3 (pc := 50) dX12_spliceOf_50 kw1686 calX12_reachOf kw1688 ks102 (L11_0 H0) rfl (by decide) (Nat.le_of_ble_eq_true rfl) (ctX12_reachOf H0 h11) ?_
      refine V_aload_n (pc := 53) 0 dX12_spliceOf_53 rfl rfl ?_
      refine V_iload_n (pc := 54) 1 dX12_spliceOf_54 rfl rfl ?_
      refine V_iload_n (pc := 55) 2 dX12_spliceOf_55 rfl rfl ?_
      refine V_iload_n (pc := 56) 3 dX12_spliceOf_56 rfl rfl ?_
      obtain ⟨x14, h13, h⟩ := bnd h
      refine V_cV3 (pc := 57) dX12_spliceOf_57 kw1686 calX12_reachOf kw1688 ks102 (L11_0 H0) rfl (by decide) (Nat.le_of_ble_eq_true rfl) (ctX12_reachOf H0 h13) ?_
      refine V_icmp_ge (pc := 60) (tgt := 68) dX12_spliceOf_60 (by decide) (fun c15 => ?_) (fun c15 => ?_)
      · have h := ite_p c15 h
        refine V_iload_n (pc := 68) 3 dX12_spliceOf_68 rfl rfl ?_
        refine V_istore_n (pc := 69) (lv1 := [(3, _), (0, _), (1, _), (2, _), (4, _)]) dX12_spliceOf_69 rfl (by decide) rfl ?_
        refine V_iinc (pc := 70) (lv1 := [(4, _), (3, _), (0, _), (1, _), (2, _)]) (z := _ + (1 : Int32)) 4 dX12_spliceOf_70 rfl rfl (by decide) rfl ?_
        refine V_goto (pc := 73) (tgt := 34) dX12_spliceOf_73 (by decide) ?_
        exact V_sub [2, 3, 4, 1, 0] rfl (ih v3 (v4 + (1 : Int32)) h)
      · have h := ite_n c15 h
        refine V_iload (pc := 63) 4 dX12_spliceOf_63 rfl ?_
        refine V_goto (pc := 65) (tgt := 69) dX12_spliceOf_65 (by decide) ?_
        refine V_istore_n (pc := 69) (lv1 := [(3, _), (0, _), (1, _), (2, _), (4, _)]) dX12_spliceOf_69 rfl (by decide) rfl ?_
        refine V_iinc (pc := 70) (lv1 := [(4, _), (3, _), (0, _), (1, _), (2, _)]) (z := _ + (1 : Int32)) 4 dX12_spliceOf_70 rfl rfl (by decide) rfl ?_
        refine V_goto (pc := 73) (tgt := 34) dX12_spliceOf_73 (by decide) ?_
        exact V_sub [2, 3, 4, 1, 0] rfl (ih v4 (v4 + (1 : Int32)) h)
theorem calX12_spliceOf : Cal yX12_spliceOf cX12_spliceOf 5 (some .int) 2 := ⟨kw1682, kw11, by decide +kernel⟩
theorem ctX12_spliceOf {G : Gl} {σ : Sg} {d : Dt} {r0 : Nat} {v1 : Int32} {v2 : Int32} {rr : Int32} (H0 : L11 σ r0) (h : mX12_spliceOf r0 v1 v2 d = some rr) : CTv G yX12_spliceOf cX12_spliceOf 5 (some .int) 4 [.ref (gB G + r0), .int v1, .int v2] σ d [.int rr] d := by
  refine CT_of pn_RX12 (Nat.le_of_ble_eq_true rfl) ?_
  rw [mX12_spliceOf] at h
  refine V_iload_n (pc := 0) 2 dX12_spliceOf_0 rfl rfl ?_
  obtain ⟨x2, h1, h⟩ := bnd h
  refine V_cS1 (pc := 1) dX12_spliceOf_1 kw1683 calX12_bitsOf kw1684 (by decide) (Nat.le_of_ble_eq_true rfl) (ctX12_bitsOf h1) ?_
  refine V_iconst (pc := 4) (x := 3) dX12_spliceOf_4 (by decide) ?_
  refine V_icmp_ge (pc := 5) (tgt := 11) dX12_spliceOf_5 (by decide) (fun c3 => ?_) (fun c3 => ?_)
  · have h := ite_p c3 h
    refine V_aload_n (pc := 11) 0 dX12_spliceOf_11 rfl rfl ?_
    refine V_iload_n (pc := 12) 1 dX12_spliceOf_12 rfl rfl ?_
    refine V_iconst (pc := 13) (x := 5) dX12_spliceOf_13 (by decide) ?_
    obtain ⟨x5, h4, h⟩ := bnd h
    refine V_cV2 (pc := 14) dX12_spliceOf_14 kw1636 calX12_netOf kw1638 ks95 (L11_0 H0) rfl (by decide) (Nat.le_of_ble_eq_true rfl) (ctX12_netOf H0 h4) ?_
    refine V_bipush (pc := 17) (x := (-2)) dX12_spliceOf_17 (by decide) ?_
    refine V_icmp_eq (pc := 19) (tgt := 29) dX12_spliceOf_19 (by decide) (fun c6 => ?_) (fun c6 => ?_)
    · have h := ite_p c6 h
      refine V_iconst (pc := 29) (x := 0) dX12_spliceOf_29 (by decide) ?_
      refine V_istore_n (pc := 30) (lv1 := [(3, _), (0, _), (1, _), (2, _)]) dX12_spliceOf_30 rfl (by decide) rfl ?_
      refine V_iconst (pc := 31) (x := 1) dX12_spliceOf_31 (by decide) ?_
      refine V_istore (pc := 32) (lv1 := [(4, _), (3, _), (0, _), (1, _), (2, _)]) dX12_spliceOf_32 (by decide) rfl ?_
      exact V_sub [2, 3, 4, 1, 0] rfl (wX12_spliceOf_34 H0 FUEL (0 : Int32) (1 : Int32) h)
    · have h := ite_n c6 h
      refine V_aload_n (pc := 22) 0 dX12_spliceOf_22 rfl rfl ?_
      refine V_iload_n (pc := 23) 1 dX12_spliceOf_23 rfl rfl ?_
      refine V_iconst (pc := 24) (x := 5) dX12_spliceOf_24 (by decide) ?_
      obtain ⟨x8, h7, h⟩ := bnd h
      refine V_cV2 (pc := 25) dX12_spliceOf_25 kw1636 calX12_netOf kw1638 ks95 (L11_0 H0) rfl (by decide) (Nat.le_of_ble_eq_true rfl) (ctX12_netOf H0 h7) ?_
      cases h
      exact V_ret (pc := 28) dX12_spliceOf_28 ⟨rfl, _, rfl⟩ ⟨rfl, rfl, rfl⟩
  · have h := ite_n c3 h
    refine V_bipush (pc := 8) (x := (-2)) dX12_spliceOf_8 (by decide) ?_
    cases h
    exact V_ret (pc := 10) dX12_spliceOf_10 ⟨rfl, _, rfl⟩ ⟨rfl, rfl, rfl⟩
theorem wX12_countOf_46 {G : Gl} {σ : Sg} {d : Dt} {r0 : Nat} {v1 : Int32} {v2 : Int32} {v3 : Int32} {v5 : Int32} {rr : Int32} (H0 : L11 σ r0) : ∀ (n : Nat) (v6 : Int32) (v7 : Int32), mX12_countOf_46 d r0 v1 v2 v3 v5 n v6 v7 = some rr → V G yX12_countOf cX12_countOf 8 (some .int) 5 0 0 (PH [.int rr] σ d) 46 [(0, .ref (gB G + r0)), (1, .int v1), (2, .int v2), (3, .int v3), (5, .int v5), (6, .int v6), (7, .int v7)] [] σ d := by
  intro n
  induction n with
  | zero =>
    intro v6 v7
    intros
    rename_i h
    exact absurd h (by rw [mX12_countOf_46]; exact fun q => nomatch q)
  | succ n ih =>
    intro v6 v7 h
    rw [mX12_countOf_46] at h
    refine V_iload (pc := 46) 6 dX12_countOf_46 rfl ?_
    refine V_iconst (pc := 48) (x := 5) dX12_countOf_48 (by decide) ?_
    refine V_icmp_ge (pc := 49) (tgt := 94) dX12_countOf_49 (by decide) (fun c11 => ?_) (fun c11 => ?_)
    · have h := ite_p c11 h
      refine V_iload (pc := 94) 5 dX12_countOf_94 rfl ?_
      cases h
      exact V_ret (pc := 96) dX12_countOf_96 ⟨rfl, _, rfl⟩ ⟨rfl, rfl, rfl⟩
    · have h := ite_n c11 h
      refine V_iload (pc := 52) 5 dX12_countOf_52 rfl ?_
      refine V_iload_n (pc := 54) 2 dX12_countOf_54 rfl rfl ?_
      refine V_iload (pc := 55) 6 dX12_countOf_55 rfl ?_
      refine V_cS2 (pc := 57) dX12_countOf_57 kw1690 calX12_has kw1691 (by decide) (Nat.le_of_ble_eq_true rfl) (ctX12_has) ?_
      refine V_ifB_eq (pc := 60) (tgt := 84) dX12_countOf_60 (by decide) (fun c14 => ?_) (fun c14 => ?_)
      · have h := ite_f c14 h
        refine V_iconst (pc := 84) (x := 0) dX12_countOf_84 (by decide) ?_
        refine V_iadd (pc := 85) dX12_countOf_85 ?_
        refine V_istore (pc := 86) (lv1 := [(6, _), (0, _), (1, _), (2, _), (3, _), (5, _), (7, _)]) dX12_countOf_86 (by decide) rfl ?_
        refine V_iinc (pc := 88) (lv1 := [(7, _), (6, _), (0, _), (1, _), (2, _), (3, _), (5, _)]) (z := _ + (1 : Int32)) 6 dX12_countOf_88 rfl rfl (by decide) rfl ?_
        refine V_goto (pc := 91) (tgt := 46) dX12_countOf_91 (by decide) ?_
        exact V_sub [2, 3, 4, 5, 6, 1, 0] rfl (ih (v6 + (0 : Int32)) (v7 + (1 : Int32)) h)
      · have h := ite_p c14 h
        refine V_aload_n (pc := 63) 0 dX12_countOf_63 rfl rfl ?_
        refine V_iload (pc := 64) 4 dX12_countOf_64 rfl ?_
        refine V_aload_n (pc := 66) 0 dX12_countOf_66 rfl rfl ?_
        refine V_iload_n (pc := 67) 1 dX12_countOf_67 rfl rfl ?_
        refine V_iload (pc := 68) 6 dX12_countOf_68 rfl ?_
        obtain ⟨x16, h15, h⟩ := bnd h
        refine V_cV2 (pc := 70) dX12_countOf_70 kw1693 calX12_pinNode kw1695 ks103 (L11_0 H0) rfl (by decide) (Nat.le_of_ble_eq_true rfl) (ctX12_pinNode H0 h15) ?_
        refine V_iload_n (pc := 73) 3 dX12_countOf_73 rfl rfl ?_
        obtain ⟨x18, h17, h⟩ := bnd h
        refine V_cV3 (pc := 74) dX12_countOf_74 kw1546 calX12_isBetween kw1548 ks85 (L11_0 H0) rfl (by decide) (Nat.le_of_ble_eq_true rfl) (ctX12_isBetween H0 h17) ?_
        refine V_ifB_eq (pc := 77) (tgt := 84) dX12_countOf_77 (by decide) (fun c19 => ?_) (fun c19 => ?_)
        · have h := ite_f c19 h
          refine V_iconst (pc := 84) (x := 0) dX12_countOf_84 (by decide) ?_
          refine V_iadd (pc := 85) dX12_countOf_85 ?_
          refine V_istore (pc := 86) (lv1 := [(6, _), (0, _), (1, _), (2, _), (3, _), (5, _), (7, _)]) dX12_countOf_86 (by decide) rfl ?_
          refine V_iinc (pc := 88) (lv1 := [(7, _), (6, _), (0, _), (1, _), (2, _), (3, _), (5, _)]) (z := _ + (1 : Int32)) 6 dX12_countOf_88 rfl rfl (by decide) rfl ?_
          refine V_goto (pc := 91) (tgt := 46) dX12_countOf_91 (by decide) ?_
          exact V_sub [2, 3, 4, 5, 6, 1, 0] rfl (ih (v6 + (0 : Int32)) (v7 + (1 : Int32)) h)
        · have h := ite_p c19 h
          refine V_iconst (pc := 80) (x := 1) dX12_countOf_80 (by decide) ?_
          refine V_goto (pc := 81) (tgt := 85) dX12_countOf_81 (by decide) ?_
          refine V_iadd (pc := 85) dX12_countOf_85 ?_
          refine V_istore (pc := 86) (lv1 := [(6, _), (0, _), (1, _), (2, _), (3, _), (5, _), (7, _)]) dX12_countOf_86 (by decide) rfl ?_
          refine V_iinc (pc := 88) (lv1 := [(7, _), (6, _), (0, _), (1, _), (2, _), (3, _), (5, _)]) (z := _ + (1 : Int32)) 6 dX12_countOf_88 rfl rfl (by decide) rfl ?_
          refine V_goto (pc := 91) (tgt := 46) dX12_countOf_91 (by decide) ?_
          exact V_sub [2, 3, 4, 5, 6, 1, 0] rfl (ih (v6 + (1 : Int32)) (v7 + (1 : Int32)) h)
theorem calX12_countOf : Cal yX12_countOf cX12_countOf 8 (some .int) 3 := ⟨kw1734, kw11, by decide +kernel⟩
theorem ctX12_countOf {G : Gl} {σ : Sg} {d : Dt} {r0 : Nat} {v1 : Int32} {v2 : Int32} {v3 : Int32} {rr : Int32} (H0 : L11 σ r0) (h : mX12_countOf r0 v1 v2 v3 d = some rr) : CTv G yX12_countOf cX12_countOf 8 (some .int) 5 [.ref (gB G + r0), .int v1, .int v2, .int v3] σ d [.int rr] d := by
  refine CT_of pn_RX12 (Nat.le_of_ble_eq_true rfl) ?_
  rw [mX12_countOf] at h
  refine V_iload_n (pc := 0) 2 dX12_countOf_0 rfl rfl ?_
  obtain ⟨x2, h1, h⟩ := bnd h
  refine V_cS1 (pc := 1) dX12_countOf_1 kw1683 calX12_bitsOf kw1684 (by decide) (Nat.le_of_ble_eq_true rfl) (ctX12_bitsOf h1) ?_
  refine V_istore (pc := 4) (lv1 := [(4, _), (0, _), (1, _), (2, _), (3, _)]) dX12_countOf_4 (by decide) rfl ?_
  refine V_iload (pc := 6) 0 dX12_countOf_6 rfl ?_
  refine V_iconst (pc := 8) (x := 2) dX12_countOf_8 (by decide) ?_
  refine V_icmp_ge (pc := 9) (tgt := 14) dX12_countOf_9 (by decide) (fun c3 => ?_) (fun c3 => ?_)
  · have h := ite_p c3 h
    refine V_iload (pc := 14) 0 dX12_countOf_14 rfl ?_
    refine V_iconst (pc := 16) (x := 2) dX12_countOf_16 (by decide) ?_
    refine V_icmp_ne (pc := 17) (tgt := 32) dX12_countOf_17 (by decide) (fun c4 => ?_) (fun c4 => ?_)
    · have h := ite_n c4 h
      refine V_aload_n (pc := 32) 1 dX12_countOf_32 rfl rfl ?_
      refine V_iload_n (pc := 33) 2 dX12_countOf_33 rfl rfl ?_
      refine V_iload_n (pc := 34) 3 dX12_countOf_34 rfl rfl ?_
      obtain ⟨x6, h5, h⟩ := bnd h
      refine V_cV2 (pc := 35) dX12_countOf_35 kw1679 calX12_spliceOf kw1681 ks101 (L11_0 H0) rfl (by decide) (Nat.le_of_ble_eq_true rfl) (ctX12_spliceOf H0 h5) ?_
      refine V_istore (pc := 38) (lv1 := [(5, _), (4, _), (0, _), (1, _), (2, _), (3, _)]) dX12_countOf_38 (by decide) rfl ?_
      refine V_iconst (pc := 40) (x := 0) dX12_countOf_40 (by decide) ?_
      refine V_istore (pc := 41) (lv1 := [(6, _), (5, _), (4, _), (0, _), (1, _), (2, _), (3, _)]) dX12_countOf_41 (by decide) rfl ?_
      refine V_iconst (pc := 43) (x := 0) dX12_countOf_43 (by decide) ?_
      refine V_istore (pc := 44) (lv1 := [(7, _), (6, _), (5, _), (4, _), (0, _), (1, _), (2, _), (3, _)]) dX12_countOf_44 (by decide) rfl ?_
      exact V_sub [4, 5, 6, 7, 2, 1, 0] rfl (wX12_countOf_46 H0 FUEL (0 : Int32) (0 : Int32) h)
    · have h := ite_p c4 h
      refine V_aload_n (pc := 20) 1 dX12_countOf_20 rfl rfl ?_
      refine V_iload_n (pc := 21) 2 dX12_countOf_21 rfl rfl ?_
      refine V_iload_n (pc := 22) 3 dX12_countOf_22 rfl rfl ?_
      obtain ⟨x8, h7, h⟩ := bnd h
      refine V_cS1 (pc := 23) dX12_countOf_23 kw1712 calX12_firstOf kw1713 (by decide) (Nat.le_of_ble_eq_true rfl) (ctX12_firstOf h7) ?_
      obtain ⟨x10, h9, h⟩ := bnd h
      refine V_cV2 (pc := 26) dX12_countOf_26 kw1693 calX12_pinNode kw1695 ks103 (L11_0 H0) rfl (by decide) (Nat.le_of_ble_eq_true rfl) (ctX12_pinNode H0 h9) ?_
      refine V_goto (pc := 29) (tgt := 38) dX12_countOf_29 (by decide) ?_
      refine V_istore (pc := 38) (lv1 := [(5, _), (4, _), (0, _), (1, _), (2, _), (3, _)]) dX12_countOf_38 (by decide) rfl ?_
      refine V_iconst (pc := 40) (x := 0) dX12_countOf_40 (by decide) ?_
      refine V_istore (pc := 41) (lv1 := [(6, _), (5, _), (4, _), (0, _), (1, _), (2, _), (3, _)]) dX12_countOf_41 (by decide) rfl ?_
      refine V_iconst (pc := 43) (x := 0) dX12_countOf_43 (by decide) ?_
      refine V_istore (pc := 44) (lv1 := [(7, _), (6, _), (5, _), (4, _), (0, _), (1, _), (2, _), (3, _)]) dX12_countOf_44 (by decide) rfl ?_
      exact V_sub [4, 5, 6, 7, 2, 1, 0] rfl (wX12_countOf_46 H0 FUEL (0 : Int32) (0 : Int32) h)
  · have h := ite_n c3 h
    refine V_iconst (pc := 12) (x := 0) dX12_countOf_12 (by decide) ?_
    cases h
    exact V_ret (pc := 13) dX12_countOf_13 ⟨rfl, _, rfl⟩ ⟨rfl, rfl, rfl⟩
theorem wX12_bodyOf_5 {G : Gl} {σ : Sg} {d : Dt} {r0 : Nat} {v1 : Int32} {v2 : Int32} {rr : Int32} (H0 : L11 σ r0) : ∀ (n : Nat) (v3 : Int32) (v4 : Int32), mX12_bodyOf_5 d r0 v1 v2 n v3 v4 = some rr → V G yX12_bodyOf cX12_bodyOf 5 (some .int) 6 0 0 (PH [.int rr] σ d) 5 [(0, .ref (gB G + r0)), (1, .int v1), (2, .int v2), (3, .int v3), (4, .int v4)] [] σ d := by
  intro n
  induction n with
  | zero =>
    intro v3 v4
    intros
    rename_i h
    exact absurd h (by rw [mX12_bodyOf_5]; exact fun q => nomatch q)
  | succ n ih =>
    intro v3 v4 h
    rw [mX12_bodyOf_5] at h
    refine V_iload (pc := 5) 4 dX12_bodyOf_5 rfl ?_
    refine V_aload_n (pc := 7) 0 dX12_bodyOf_7 rfl rfl ?_
    refine V_getR (pc := 8) (c := 11) (k := 6) dX12_bodyOf_8 (by decide) (by decide) kw1249 rfl rfl (L11_0 H0) (L11_r6 H0) ?_
    refine V_iconst (pc := 11) (x := 5) dX12_bodyOf_11 (by decide) ?_
    obtain ⟨b1, h⟩ := ite_o h
    refine V_iald (pc := 12) dX12_bodyOf_12 (L11_s6 H0) (inB_vp b1) ?_
    refine V_icmp_ge (pc := 13) (tgt := 55) dX12_bodyOf_13 (by decide) (fun c2 => ?_) (fun c2 => ?_)
    · have h := ite_p c2 h
      refine V_iload_n (pc := 55) 3 dX12_bodyOf_55 rfl rfl ?_
      cases h
      exact V_ret (pc := 56) dX12_bodyOf_56 ⟨rfl, _, rfl⟩ ⟨rfl, rfl, rfl⟩
    · have h := ite_n c2 h
      refine V_iload_n (pc := 16) 3 dX12_bodyOf_16 rfl rfl ?_
      refine V_aload_n (pc := 17) 0 dX12_bodyOf_17 rfl rfl ?_
      refine V_iload (pc := 18) 4 dX12_bodyOf_18 rfl ?_
      refine V_aload_n (pc := 20) 0 dX12_bodyOf_20 rfl rfl ?_
      refine V_iload_n (pc := 21) 1 dX12_bodyOf_21 rfl rfl ?_
      refine V_iload (pc := 22) 4 dX12_bodyOf_22 rfl ?_
      obtain ⟨x4, h3, h⟩ := bnd h
      refine V_cV2 (pc := 24) dX12_bodyOf_24 kw1667 calX12_pinsOf kw1669 ks99 (L11_0 H0) rfl (by decide) (Nat.le_of_ble_eq_true rfl) (ctX12_pinsOf H0 h3) ?_
      refine V_iload_n (pc := 27) 2 dX12_bodyOf_27 rfl rfl ?_
      obtain ⟨x6, h5, h⟩ := bnd h
      refine V_cV3 (pc := 28) dX12_bodyOf_28 kw1731 calX12_countOf kw1733 ks106 (L11_0 H0) rfl (by decide) (Nat.le_of_ble_eq_true rfl) (ctX12_countOf H0 h5) ?_
      refine V_aload_n (pc := 31) 0 dX12_bodyOf_31 rfl rfl ?_
      refine V_iload (pc := 32) 4 dX12_bodyOf_32 rfl ?_
      refine V_iconst (pc := 34) (x := 1) dX12_bodyOf_34 (by decide) ?_
      obtain ⟨x8, h7, h⟩ := bnd h
      refine V_cV2 (pc := 35) dX12_bodyOf_35 kw1636 calX12_netOf kw1638 ks95 (L11_0 H0) rfl (by decide) (Nat.le_of_ble_eq_true rfl) (ctX12_netOf H0 h7) ?_
      refine V_imul (pc := 38) dX12_bodyOf_38 ?_
      refine V_aload_n (pc := 39) 0 dX12_bodyOf_39 rfl rfl ?_
      refine V_iload (pc := 40) 4 dX12_bodyOf_40 rfl ?_
      refine V_iconst (pc := 42) (x := 1) dX12_bodyOf_42 (by decide) ?_
      obtain ⟨x10, h9, h⟩ := bnd h
      refine V_cV2 (pc := 43) dX12_bodyOf_43 kw1636 calX12_netOf kw1638 ks95 (L11_0 H0) rfl (by decide) (Nat.le_of_ble_eq_true rfl) (ctX12_netOf H0 h9) ?_
      refine V_imul (pc := 46) dX12_bodyOf_46 ?_
      refine V_iadd (pc := 47) dX12_bodyOf_47 ?_
      refine V_istore_n (pc := 48) (lv1 := [(3, _), (0, _), (1, _), (2, _), (4, _)]) dX12_bodyOf_48 rfl (by decide) rfl ?_
      refine V_iinc (pc := 49) (lv1 := [(4, _), (3, _), (0, _), (1, _), (2, _)]) (z := _ + (1 : Int32)) 4 dX12_bodyOf_49 rfl rfl (by decide) rfl ?_
      refine V_goto (pc := 52) (tgt := 5) dX12_bodyOf_52 (by decide) ?_
      exact V_sub [2, 3, 4, 1, 0] rfl (ih (v3 + ((x6 * x8) * x10)) (v4 + (1 : Int32)) h)
theorem calX12_bodyOf : Cal yX12_bodyOf cX12_bodyOf 5 (some .int) 2 := ⟨kw1730, kw11, by decide +kernel⟩
theorem ctX12_bodyOf {G : Gl} {σ : Sg} {d : Dt} {r0 : Nat} {v1 : Int32} {v2 : Int32} {rr : Int32} (H0 : L11 σ r0) (h : mX12_bodyOf r0 v1 v2 d = some rr) : CTv G yX12_bodyOf cX12_bodyOf 5 (some .int) 6 [.ref (gB G + r0), .int v1, .int v2] σ d [.int rr] d := by
  refine CT_of pn_RX12 (Nat.le_of_ble_eq_true rfl) ?_
  rw [mX12_bodyOf] at h
  refine V_iconst (pc := 0) (x := 0) dX12_bodyOf_0 (by decide) ?_
  refine V_istore_n (pc := 1) (lv1 := [(3, _), (0, _), (1, _), (2, _)]) dX12_bodyOf_1 rfl (by decide) rfl ?_
  refine V_iconst (pc := 2) (x := 0) dX12_bodyOf_2 (by decide) ?_
  refine V_istore (pc := 3) (lv1 := [(4, _), (3, _), (0, _), (1, _), (2, _)]) dX12_bodyOf_3 (by decide) rfl ?_
  exact V_sub [2, 3, 4, 1, 0] rfl (wX12_bodyOf_5 H0 FUEL (0 : Int32) (0 : Int32) h)
theorem calX12_isBuild : Cal yX12_isBuild cX12_isBuild 2 (some .boolean) 1 := ⟨kw1798, kw11, by decide +kernel⟩
theorem ctX12_isBuild {G : Gl} {σ : Sg} {d : Dt} {r0 : Nat} {v1 : Int32} {rr : Bool} (H0 : L11 σ r0) (h : mX12_isBuild r0 v1 d = some rr) : CTv G yX12_isBuild cX12_isBuild 2 (some .boolean) 1 [.ref (gB G + r0), .int v1] σ d [.int (b2i rr)] d := by
  refine CT_of pn_RX12 (Nat.le_of_ble_eq_true rfl) ?_
  rw [mX12_isBuild] at h
  refine V_aload_n (pc := 0) 0 dX12_isBuild_0 rfl rfl ?_
  refine V_getI (pc := 1) (c := 11) (k := 14) dX12_isBuild_1 (by decide) (by decide) kw1257 rfl rfl (L11_0 H0) ?_
  refine V_if_eq (pc := 4) (tgt := 28) dX12_isBuild_4 (by decide) (fun c1 => ?_) (fun c1 => ?_)
  · have h := ite_p c1 h
    refine V_iconst (pc := 28) (x := 0) dX12_isBuild_28 (by decide) ?_
    cases h
    exact V_ret (pc := 29) dX12_isBuild_29 ⟨rfl, _, rfl, rfl⟩ ⟨rfl, rfl, rfl⟩
  · have h := ite_n c1 h
    refine V_iload_n (pc := 7) 1 dX12_isBuild_7 rfl rfl ?_
    refine V_iconst (pc := 8) (x := 0) dX12_isBuild_8 (by decide) ?_
    refine V_aload_n (pc := 9) 0 dX12_isBuild_9 rfl rfl ?_
    refine V_getR (pc := 10) (c := 11) (k := 6) dX12_isBuild_10 (by decide) (by decide) kw1249 rfl rfl (L11_0 H0) (L11_r6 H0) ?_
    refine V_bipush (pc := 13) (x := 6) dX12_isBuild_13 (by decide) ?_
    obtain ⟨b2, h⟩ := ite_o h
    refine V_iald (pc := 15) dX12_isBuild_15 (L11_s6 H0) (inB_vp b2) ?_
    refine V_iconst (pc := 16) (x := 1) dX12_isBuild_16 (by decide) ?_
    refine V_isub (pc := 17) dX12_isBuild_17 ?_
    refine V_cS3 (pc := 18) dX12_isBuild_18 kw1365 calX12_in kw1366 (by decide) (Nat.le_of_ble_eq_true rfl) (ctX12_in) ?_
    refine V_ifB_eq (pc := 21) (tgt := 28) dX12_isBuild_21 (by decide) (fun c5 => ?_) (fun c5 => ?_)
    · have h := ite_f c5 h
      refine V_iconst (pc := 28) (x := 0) dX12_isBuild_28 (by decide) ?_
      cases h
      exact V_ret (pc := 29) dX12_isBuild_29 ⟨rfl, _, rfl, rfl⟩ ⟨rfl, rfl, rfl⟩
    · have h := ite_p c5 h
      refine V_iconst (pc := 24) (x := 1) dX12_isBuild_24 (by decide) ?_
      refine V_goto (pc := 25) (tgt := 29) dX12_isBuild_25 (by decide) ?_
      cases h
      exact V_ret (pc := 29) dX12_isBuild_29 ⟨rfl, _, rfl, rfl⟩ ⟨rfl, rfl, rfl⟩
theorem wX12_build_23 {G : Gl} {σ : Sg} {d : Dt} {r0 : Nat} {v1 : Int32} {v2 : Int32} {vs0 : Int32} {rs1 : Nat} {rr : Int32 × Dt} (H0 : L11 σ r0) (Hs1 : L11 σ rs1) (h : mX12_build_23 r0 v1 v2 vs0 rs1 d = some rr) : V G yX12_build cX12_build 3 (some .int) 2 0 0 (PH [.int rr.1] σ rr.2) 23 [(0, .ref (gB G + r0)), (1, .int v1), (2, .int v2)] [.int vs0, .ref (gB G + rs1)] σ d := by
  rw [mX12_build_23] at h
  refine V_cS1 (pc := 23) dX12_build_23 kw1523 calX12_unless kw1524 (by decide) (Nat.le_of_ble_eq_true rfl) (ctX12_unless) ?_
  refine V_cV1 (pc := 26) dX12_build_26 kw1368 calX12_isRefused kw1370 ks54 (L11_0 Hs1) rfl (by decide) (Nat.le_of_ble_eq_true rfl) (ctX12_isRefused Hs1) ?_
  refine V_ifB_eq (pc := 29) (tgt := 36) dX12_build_29 (by decide) (fun c11 => ?_) (fun c11 => ?_)
  · have h := ite_f c11 h
    refine V_aload_n (pc := 36) 0 dX12_build_36 rfl rfl ?_
    refine V_getR (pc := 37) (c := 11) (k := 6) dX12_build_37 (by decide) (by decide) kw1249 rfl rfl (L11_0 H0) (L11_r6 H0) ?_
    refine V_sipush (pc := 40) (x := 257) dX12_build_40 (by decide) ?_
    refine V_iconst (pc := 43) (x := 2) dX12_build_43 (by decide) ?_
    refine V_iload_n (pc := 44) 1 dX12_build_44 rfl rfl ?_
    refine V_imul (pc := 45) dX12_build_45 ?_
    refine V_iadd (pc := 46) dX12_build_46 ?_
    refine V_iload_n (pc := 47) 2 dX12_build_47 rfl rfl ?_
    refine V_iadd (pc := 48) dX12_build_48 ?_
    obtain ⟨b12, h⟩ := ite_o h
    refine V_iald (pc := 49) dX12_build_49 (L11_s6 H0) (inB_vp b12) ?_
    cases h
    exact V_ret (pc := 50) dX12_build_50 ⟨rfl, _, rfl⟩ ⟨rfl, rfl, rfl⟩
  · have h := ite_p c11 h
    refine V_iconst (pc := 32) (x := (-1)) dX12_build_32 (by decide) ?_
    refine V_goto (pc := 33) (tgt := 50) dX12_build_33 (by decide) ?_
    cases h
    exact V_ret (pc := 50) dX12_build_50 ⟨rfl, _, rfl⟩ ⟨rfl, rfl, rfl⟩
theorem calX12_build : Cal yX12_build cX12_build 3 (some .int) 2 := ⟨kw1794, kw11, by decide +kernel⟩
theorem ctX12_build {G : Gl} {σ : Sg} {d : Dt} {r0 : Nat} {v1 : Int32} {v2 : Int32} {rr : Int32 × Dt} (H0 : L11 σ r0) (h : mX12_build r0 v1 v2 d = some rr) : CTv G yX12_build cX12_build 3 (some .int) 2 [.ref (gB G + r0), .int v1, .int v2] σ d [.int rr.1] rr.2 := by
  refine CT_of pn_RX12 (Nat.le_of_ble_eq_true rfl) ?_
  rw [mX12_build] at h
  refine V_aload_n (pc := 0) 0 dX12_build_0 rfl rfl ?_
  refine V_aload_n (pc := 1) 0 dX12_build_1 rfl rfl ?_
  refine V_iload_n (pc := 2) 1 dX12_build_2 rfl rfl ?_
  obtain ⟨x2, h1, h⟩ := bnd h
  refine V_cV1 (pc := 3) dX12_build_3 kw1795 calX12_isBuild kw1797 ks115 (L11_0 H0) rfl (by decide) (Nat.le_of_ble_eq_true rfl) (ctX12_isBuild H0 h1) ?_
  refine V_ifB_eq (pc := 6) (tgt := 22) dX12_build_6 (by decide) (fun c3 => ?_) (fun c3 => ?_)
  · have h := ite_f c3 h
    refine V_iconst (pc := 22) (x := 0) dX12_build_22 (by decide) ?_
    exact V_sub [0, 1, 2] rfl (wX12_build_23 H0 H0 h)
  · have h := ite_p c3 h
    refine V_iload_n (pc := 9) 2 dX12_build_9 rfl rfl ?_
    refine V_iconst (pc := 10) (x := 0) dX12_build_10 (by decide) ?_
    refine V_iconst (pc := 11) (x := 1) dX12_build_11 (by decide) ?_
    refine V_cS3 (pc := 12) dX12_build_12 kw1365 calX12_in kw1366 (by decide) (Nat.le_of_ble_eq_true rfl) (ctX12_in) ?_
    refine V_ifB_eq (pc := 15) (tgt := 22) dX12_build_15 (by decide) (fun c6 => ?_) (fun c6 => ?_)
    · have h := ite_f c6 h
      refine V_iconst (pc := 22) (x := 0) dX12_build_22 (by decide) ?_
      exact V_sub [0, 1, 2] rfl (wX12_build_23 H0 H0 h)
    · have h := ite_p c6 h
      refine V_iconst (pc := 18) (x := 1) dX12_build_18 (by decide) ?_
      refine V_goto (pc := 19) (tgt := 23) dX12_build_19 (by decide) ?_
      exact V_sub [0, 1, 2] rfl (wX12_build_23 H0 H0 h)
