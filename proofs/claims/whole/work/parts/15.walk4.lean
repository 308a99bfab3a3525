theorem calX12_buildsWhy : Cal yX12_buildsWhy cX12_buildsWhy 3 (some .int) 2 := ⟨kw1806, kw11, by decide +kernel⟩
theorem ctX12_buildsWhy {G : Gl} {σ : Sg} {d : Dt} {r0 : Nat} {v1 : Int32} {v2 : Int32} {rr : Int32} (H0 : L11 σ r0) (h : mX12_buildsWhy r0 v1 v2 d = some rr) : CTv G yX12_buildsWhy cX12_buildsWhy 3 (some .int) 1 [.ref (gB G + r0), .int v1, .int v2] σ d [.int rr] d := by
  refine CT_of pn_RX12 (Nat.le_of_ble_eq_true rfl) ?_
  rw [mX12_buildsWhy] at h
  refine V_aload_n (pc := 0) 0 dX12_buildsWhy_0 rfl rfl ?_
  refine V_getI (pc := 1) (c := 11) (k := 14) dX12_buildsWhy_1 (by decide) (by decide) kw1257 rfl rfl (L11_0 H0) ?_
  refine V_if_eq (pc := 4) (tgt := 11) dX12_buildsWhy_4 (by decide) (fun c1 => ?_) (fun c1 => ?_)
  · have h := ite_p c1 h
    refine V_iconst (pc := 11) (x := 1) dX12_buildsWhy_11 (by decide) ?_
    refine V_goto (pc := 12) (tgt := 39) dX12_buildsWhy_12 (by decide) ?_
    cases h
    exact V_ret (pc := 39) dX12_buildsWhy_39 ⟨rfl, _, rfl⟩ ⟨rfl, rfl, rfl⟩
  · have h := ite_n c1 h
    refine V_iload_n (pc := 7) 1 dX12_buildsWhy_7 rfl rfl ?_
    refine V_if_ne (pc := 8) (tgt := 15) dX12_buildsWhy_8 (by decide) (fun c2 => ?_) (fun c2 => ?_)
    · have h := ite_n c2 h
      refine V_iload_n (pc := 15) 2 dX12_buildsWhy_15 rfl rfl ?_
      refine V_iconst (pc := 16) (x := 1) dX12_buildsWhy_16 (by decide) ?_
      refine V_iconst (pc := 17) (x := 1) dX12_buildsWhy_17 (by decide) ?_
      refine V_aload_n (pc := 18) 0 dX12_buildsWhy_18 rfl rfl ?_
      refine V_getR (pc := 19) (c := 11) (k := 6) dX12_buildsWhy_19 (by decide) (by decide) kw1249 rfl rfl (L11_0 H0) (L11_r6 H0) ?_
      refine V_bipush (pc := 22) (x := 6) dX12_buildsWhy_22 (by decide) ?_
      obtain ⟨b3, h⟩ := ite_o h
      refine V_iald (pc := 24) dX12_buildsWhy_24 (L11_s6 H0) (inB_vp b3) ?_
      refine V_ishl (pc := 25) dX12_buildsWhy_25 ?_
      refine V_iconst (pc := 26) (x := 1) dX12_buildsWhy_26 (by decide) ?_
      refine V_isub (pc := 27) dX12_buildsWhy_27 ?_
      refine V_cS3 (pc := 28) dX12_buildsWhy_28 kw1365 calX12_in kw1366 (by decide) (Nat.le_of_ble_eq_true rfl) (ctX12_in) ?_
      refine V_ifB_eq (pc := 31) (tgt := 38) dX12_buildsWhy_31 (by decide) (fun c6 => ?_) (fun c6 => ?_)
      · have h := ite_f c6 h
        refine V_iconst (pc := 38) (x := 2) dX12_buildsWhy_38 (by decide) ?_
        cases h
        exact V_ret (pc := 39) dX12_buildsWhy_39 ⟨rfl, _, rfl⟩ ⟨rfl, rfl, rfl⟩
      · have h := ite_p c6 h
        refine V_iconst (pc := 34) (x := 0) dX12_buildsWhy_34 (by decide) ?_
        refine V_goto (pc := 35) (tgt := 39) dX12_buildsWhy_35 (by decide) ?_
        cases h
        exact V_ret (pc := 39) dX12_buildsWhy_39 ⟨rfl, _, rfl⟩ ⟨rfl, rfl, rfl⟩
    · have h := ite_p c2 h
      refine V_iconst (pc := 11) (x := 1) dX12_buildsWhy_11 (by decide) ?_
      refine V_goto (pc := 12) (tgt := 39) dX12_buildsWhy_12 (by decide) ?_
      cases h
      exact V_ret (pc := 39) dX12_buildsWhy_39 ⟨rfl, _, rfl⟩ ⟨rfl, rfl, rfl⟩
theorem calX12_isNode : Cal yX12_isNode cX12_isNode 2 (some .boolean) 1 := ⟨kw1537, kw11, by decide +kernel⟩
theorem ctX12_isNode {G : Gl} {σ : Sg} {d : Dt} {r0 : Nat} {v1 : Int32} {rr : Bool} (H0 : L11 σ r0) (h : mX12_isNode r0 v1 d = some rr) : CTv G yX12_isNode cX12_isNode 2 (some .boolean) 1 [.ref (gB G + r0), .int v1] σ d [.int (b2i rr)] d := by
  refine CT_of pn_RX12 (Nat.le_of_ble_eq_true rfl) ?_
  rw [mX12_isNode] at h
  refine V_aload_n (pc := 0) 0 dX12_isNode_0 rfl rfl ?_
  refine V_getI (pc := 1) (c := 11) (k := 14) dX12_isNode_1 (by decide) (by decide) kw1257 rfl rfl (L11_0 H0) ?_
  refine V_if_eq (pc := 4) (tgt := 27) dX12_isNode_4 (by decide) (fun c1 => ?_) (fun c1 => ?_)
  · have h := ite_p c1 h
    refine V_iconst (pc := 27) (x := 0) dX12_isNode_27 (by decide) ?_
    cases h
    exact V_ret (pc := 28) dX12_isNode_28 ⟨rfl, _, rfl, rfl⟩ ⟨rfl, rfl, rfl⟩
  · have h := ite_n c1 h
    refine V_iload_n (pc := 7) 1 dX12_isNode_7 rfl rfl ?_
    refine V_iconst (pc := 8) (x := 0) dX12_isNode_8 (by decide) ?_
    refine V_aload_n (pc := 9) 0 dX12_isNode_9 rfl rfl ?_
    refine V_getR (pc := 10) (c := 11) (k := 6) dX12_isNode_10 (by decide) (by decide) kw1249 rfl rfl (L11_0 H0) (L11_r6 H0) ?_
    refine V_iconst (pc := 13) (x := 2) dX12_isNode_13 (by decide) ?_
    obtain ⟨b2, h⟩ := ite_o h
    refine V_iald (pc := 14) dX12_isNode_14 (L11_s6 H0) (inB_vp b2) ?_
    refine V_iconst (pc := 15) (x := 1) dX12_isNode_15 (by decide) ?_
    refine V_isub (pc := 16) dX12_isNode_16 ?_
    refine V_cS3 (pc := 17) dX12_isNode_17 kw1365 calX12_in kw1366 (by decide) (Nat.le_of_ble_eq_true rfl) (ctX12_in) ?_
    refine V_ifB_eq (pc := 20) (tgt := 27) dX12_isNode_20 (by decide) (fun c5 => ?_) (fun c5 => ?_)
    · have h := ite_f c5 h
      refine V_iconst (pc := 27) (x := 0) dX12_isNode_27 (by decide) ?_
      cases h
      exact V_ret (pc := 28) dX12_isNode_28 ⟨rfl, _, rfl, rfl⟩ ⟨rfl, rfl, rfl⟩
    · have h := ite_p c5 h
      refine V_iconst (pc := 23) (x := 1) dX12_isNode_23 (by decide) ?_
      refine V_goto (pc := 24) (tgt := 28) dX12_isNode_24 (by decide) ?_
      cases h
      exact V_ret (pc := 28) dX12_isNode_28 ⟨rfl, _, rfl, rfl⟩ ⟨rfl, rfl, rfl⟩
theorem calX12_isBundle : Cal yX12_isBundle cX12_isBundle 2 (some .boolean) 1 := ⟨kw1573, kw11, by decide +kernel⟩
theorem ctX12_isBundle {G : Gl} {σ : Sg} {d : Dt} {r0 : Nat} {v1 : Int32} {rr : Bool} (H0 : L11 σ r0) (h : mX12_isBundle r0 v1 d = some rr) : CTv G yX12_isBundle cX12_isBundle 2 (some .boolean) 2 [.ref (gB G + r0), .int v1] σ d [.int (b2i rr)] d := by
  refine CT_of pn_RX12 (Nat.le_of_ble_eq_true rfl) ?_
  rw [mX12_isBundle] at h
  refine V_aload_n (pc := 0) 0 dX12_isBundle_0 rfl rfl ?_
  refine V_iload_n (pc := 1) 1 dX12_isBundle_1 rfl rfl ?_
  obtain ⟨x2, h1, h⟩ := bnd h
  refine V_cV1 (pc := 2) dX12_isBundle_2 kw1534 calX12_isNode kw1536 ks83 (L11_0 H0) rfl (by decide) (Nat.le_of_ble_eq_true rfl) (ctX12_isNode H0 h1) ?_
  refine V_ifB_eq (pc := 5) (tgt := 16) dX12_isBundle_5 (by decide) (fun c3 => ?_) (fun c3 => ?_)
  · have h := ite_f c3 h
    refine V_iconst (pc := 16) (x := 0) dX12_isBundle_16 (by decide) ?_
    cases h
    exact V_ret (pc := 17) dX12_isBundle_17 ⟨rfl, _, rfl, rfl⟩ ⟨rfl, rfl, rfl⟩
  · have h := ite_p c3 h
    refine V_iload_n (pc := 8) 1 dX12_isBundle_8 rfl rfl ?_
    refine V_if_le (pc := 9) (tgt := 16) dX12_isBundle_9 (by decide) (fun c4 => ?_) (fun c4 => ?_)
    · have h := ite_p c4 h
      refine V_iconst (pc := 16) (x := 0) dX12_isBundle_16 (by decide) ?_
      cases h
      exact V_ret (pc := 17) dX12_isBundle_17 ⟨rfl, _, rfl, rfl⟩ ⟨rfl, rfl, rfl⟩
    · have h := ite_n c4 h
      refine V_iconst (pc := 12) (x := 1) dX12_isBundle_12 (by decide) ?_
      refine V_goto (pc := 13) (tgt := 17) dX12_isBundle_13 (by decide) ?_
      cases h
      exact V_ret (pc := 17) dX12_isBundle_17 ⟨rfl, _, rfl, rfl⟩ ⟨rfl, rfl, rfl⟩
theorem calX12_variantWhy : Cal yX12_variantWhy cX12_variantWhy 3 (some .int) 2 := ⟨kw1655, kw11, by decide +kernel⟩
theorem ctX12_variantWhy {G : Gl} {σ : Sg} {d : Dt} {r0 : Nat} {v1 : Int32} {v2 : Int32} {rr : Int32} (H0 : L11 σ r0) (h : mX12_variantWhy r0 v1 v2 d = some rr) : CTv G yX12_variantWhy cX12_variantWhy 3 (some .int) 1 [.ref (gB G + r0), .int v1, .int v2] σ d [.int rr] d := by
  refine CT_of pn_RX12 (Nat.le_of_ble_eq_true rfl) ?_
  rw [mX12_variantWhy] at h
  refine V_aload_n (pc := 0) 0 dX12_variantWhy_0 rfl rfl ?_
  refine V_getI (pc := 1) (c := 11) (k := 14) dX12_variantWhy_1 (by decide) (by decide) kw1257 rfl rfl (L11_0 H0) ?_
  refine V_if_eq (pc := 4) (tgt := 11) dX12_variantWhy_4 (by decide) (fun c1 => ?_) (fun c1 => ?_)
  · have h := ite_p c1 h
    refine V_iconst (pc := 11) (x := 1) dX12_variantWhy_11 (by decide) ?_
    refine V_goto (pc := 12) (tgt := 38) dX12_variantWhy_12 (by decide) ?_
    cases h
    exact V_ret (pc := 38) dX12_variantWhy_38 ⟨rfl, _, rfl⟩ ⟨rfl, rfl, rfl⟩
  · have h := ite_n c1 h
    refine V_iload_n (pc := 7) 1 dX12_variantWhy_7 rfl rfl ?_
    refine V_if_ne (pc := 8) (tgt := 15) dX12_variantWhy_8 (by decide) (fun c2 => ?_) (fun c2 => ?_)
    · have h := ite_n c2 h
      refine V_iload_n (pc := 15) 2 dX12_variantWhy_15 rfl rfl ?_
      refine V_iconst (pc := 16) (x := 0) dX12_variantWhy_16 (by decide) ?_
      refine V_iconst (pc := 17) (x := 1) dX12_variantWhy_17 (by decide) ?_
      refine V_aload_n (pc := 18) 0 dX12_variantWhy_18 rfl rfl ?_
      refine V_getR (pc := 19) (c := 11) (k := 6) dX12_variantWhy_19 (by decide) (by decide) kw1249 rfl rfl (L11_0 H0) (L11_r6 H0) ?_
      refine V_iconst (pc := 22) (x := 3) dX12_variantWhy_22 (by decide) ?_
      obtain ⟨b3, h⟩ := ite_o h
      refine V_iald (pc := 23) dX12_variantWhy_23 (L11_s6 H0) (inB_vp b3) ?_
      refine V_ishl (pc := 24) dX12_variantWhy_24 ?_
      refine V_iconst (pc := 25) (x := 1) dX12_variantWhy_25 (by decide) ?_
      refine V_isub (pc := 26) dX12_variantWhy_26 ?_
      refine V_cS3 (pc := 27) dX12_variantWhy_27 kw1365 calX12_in kw1366 (by decide) (Nat.le_of_ble_eq_true rfl) (ctX12_in) ?_
      refine V_ifB_eq (pc := 30) (tgt := 37) dX12_variantWhy_30 (by decide) (fun c6 => ?_) (fun c6 => ?_)
      · have h := ite_f c6 h
        refine V_iconst (pc := 37) (x := 2) dX12_variantWhy_37 (by decide) ?_
        cases h
        exact V_ret (pc := 38) dX12_variantWhy_38 ⟨rfl, _, rfl⟩ ⟨rfl, rfl, rfl⟩
      · have h := ite_p c6 h
        refine V_iconst (pc := 33) (x := 0) dX12_variantWhy_33 (by decide) ?_
        refine V_goto (pc := 34) (tgt := 38) dX12_variantWhy_34 (by decide) ?_
        cases h
        exact V_ret (pc := 38) dX12_variantWhy_38 ⟨rfl, _, rfl⟩ ⟨rfl, rfl, rfl⟩
    · have h := ite_p c2 h
      refine V_iconst (pc := 11) (x := 1) dX12_variantWhy_11 (by decide) ?_
      refine V_goto (pc := 12) (tgt := 38) dX12_variantWhy_12 (by decide) ?_
      cases h
      exact V_ret (pc := 38) dX12_variantWhy_38 ⟨rfl, _, rfl⟩ ⟨rfl, rfl, rfl⟩
theorem wX12_bundle_101 {G : Gl} {σ : Sg} {v4 : Int32} {rr : Int32 × Dt} : ∀ (n : Nat) (v5 : Int32) (d : Dt), mX12_bundle_101 v4 n v5 d = some rr → V G yX12_bundle cX12_bundle 7 (some .int) 7 0 0 (PH [.int rr.1] σ rr.2) 101 [(4, .int v4), (5, .int v5)] [] σ d := by
  intro n
  induction n with
  | zero =>
    intro v5 d
    intros
    rename_i h
    exact absurd h (by rw [mX12_bundle_101]; exact fun q => nomatch q)
  | succ n ih =>
    intro v5 d h
    rw [mX12_bundle_101] at h
    refine V_bipush (pc := 101) (x := 10) dX12_bundle_101 (by decide) ?_
    refine V_iload (pc := 103) 1 dX12_bundle_103 rfl ?_
    refine V_imul (pc := 105) dX12_bundle_105 ?_
    refine V_iload (pc := 106) 1 dX12_bundle_106 rfl ?_
    refine V_imul (pc := 108) dX12_bundle_108 ?_
    refine V_bipush (pc := 109) (x := 12) dX12_bundle_109 (by decide) ?_
    refine V_iload (pc := 111) 0 dX12_bundle_111 rfl ?_
    refine V_imul (pc := 113) dX12_bundle_113 ?_
    refine V_icmp_ge (pc := 114) (tgt := 123) dX12_bundle_114 (by decide) (fun c16 => ?_) (fun c16 => ?_)
    · have h := ite_p c16 h
      refine V_iload (pc := 123) 1 dX12_bundle_123 rfl ?_
      cases h
      exact V_ret (pc := 125) dX12_bundle_125 ⟨rfl, _, rfl⟩ ⟨rfl, rfl, rfl⟩
    · have h := ite_n c16 h
      refine V_iinc (pc := 117) (lv1 := [(5, _), (4, _)]) (z := _ + (1 : Int32)) 1 dX12_bundle_117 rfl rfl (by decide) rfl ?_
      refine V_goto (pc := 120) (tgt := 101) dX12_bundle_120 (by decide) ?_
      exact V_sub [1, 0] rfl (ih (v5 + (1 : Int32)) d h)
theorem wX12_bundle_62 {G : Gl} {σ : Sg} {r0 : Nat} {v1 : Int32} {v2 : Int32} {rr : Int32 × Dt} (H0 : L11 σ r0) : ∀ (n : Nat) (v5 : Int32) (v6 : Int32) (d : Dt), mX12_bundle_62 r0 v1 v2 n v5 v6 d = some rr → V G yX12_bundle cX12_bundle 7 (some .int) 7 0 0 (PH [.int rr.1] σ rr.2) 62 [(0, .ref (gB G + r0)), (1, .int v1), (2, .int v2), (5, .int v5), (6, .int v6)] [] σ d := by
  intro n
  induction n with
  | zero =>
    intro v5 v6 d
    intros
    rename_i h
    exact absurd h (by rw [mX12_bundle_62]; exact fun q => nomatch q)
  | succ n ih =>
    intro v5 v6 d h
    rw [mX12_bundle_62] at h
    refine V_iload (pc := 62) 4 dX12_bundle_62 rfl ?_
    refine V_aload_n (pc := 64) 0 dX12_bundle_64 rfl rfl ?_
    refine V_getR (pc := 65) (c := 11) (k := 6) dX12_bundle_65 (by decide) (by decide) kw1249 rfl rfl (L11_0 H0) (L11_r6 H0) ?_
    refine V_iconst (pc := 68) (x := 5) dX12_bundle_68 (by decide) ?_
    obtain ⟨b17, h⟩ := ite_o h
    refine V_iald (pc := 69) dX12_bundle_69 (L11_s6 H0) (inB_vp b17) ?_
    refine V_icmp_ge (pc := 70) (tgt := 98) dX12_bundle_70 (by decide) (fun c18 => ?_) (fun c18 => ?_)
    · have h := ite_p c18 h
      refine V_iload (pc := 98) 3 dX12_bundle_98 rfl ?_
      cases h
      exact V_ret (pc := 100) dX12_bundle_100 ⟨rfl, _, rfl⟩ ⟨rfl, rfl, rfl⟩
    · have h := ite_n c18 h
      refine V_iload (pc := 73) 3 dX12_bundle_73 rfl ?_
      refine V_aload_n (pc := 75) 0 dX12_bundle_75 rfl rfl ?_
      refine V_iload (pc := 76) 4 dX12_bundle_76 rfl ?_
      refine V_aload_n (pc := 78) 0 dX12_bundle_78 rfl rfl ?_
      refine V_iload_n (pc := 79) 1 dX12_bundle_79 rfl rfl ?_
      refine V_iload (pc := 80) 4 dX12_bundle_80 rfl ?_
      obtain ⟨x20, h19, h⟩ := bnd h
      refine V_cV2 (pc := 82) dX12_bundle_82 kw1667 calX12_pinsOf kw1669 ks99 (L11_0 H0) rfl (by decide) (Nat.le_of_ble_eq_true rfl) (ctX12_pinsOf H0 h19) ?_
      refine V_iload_n (pc := 85) 2 dX12_bundle_85 rfl rfl ?_
      obtain ⟨x22, h21, h⟩ := bnd h
      refine V_cV3 (pc := 86) dX12_bundle_86 kw1731 calX12_countOf kw1733 ks106 (L11_0 H0) rfl (by decide) (Nat.le_of_ble_eq_true rfl) (ctX12_countOf H0 h21) ?_
      refine V_iadd (pc := 89) dX12_bundle_89 ?_
      refine V_istore (pc := 90) (lv1 := [(5, _), (0, _), (1, _), (2, _), (6, _)]) dX12_bundle_90 (by decide) rfl ?_
      refine V_iinc (pc := 92) (lv1 := [(6, _), (5, _), (0, _), (1, _), (2, _)]) (z := _ + (1 : Int32)) 4 dX12_bundle_92 rfl rfl (by decide) rfl ?_
      refine V_goto (pc := 95) (tgt := 62) dX12_bundle_95 (by decide) ?_
      exact V_sub [2, 3, 4, 1, 0] rfl (ih (v5 + x22) (v6 + (1 : Int32)) d h)
theorem wX12_bundle_24 {G : Gl} {σ : Sg} {d : Dt} {r0 : Nat} {v1 : Int32} {v2 : Int32} {v3 : Int32} {vs0 : Int32} {rs1 : Nat} {rs2 : Nat} {rr : Int32 × Dt} (H0 : L11 σ r0) (Hs1 : L11 σ rs1) (Hs2 : L11 σ rs2) (h : mX12_bundle_24 r0 v1 v2 v3 vs0 rs1 rs2 d = some rr) : V G yX12_bundle cX12_bundle 7 (some .int) 7 0 0 (PH [.int rr.1] σ rr.2) 24 [(0, .ref (gB G + r0)), (1, .int v1), (2, .int v2), (3, .int v3)] [.int vs0, .ref (gB G + rs1), .ref (gB G + rs2)] σ d := by
  rw [mX12_bundle_24] at h
  refine V_iload_n (pc := 24) 1 dX12_bundle_24 rfl rfl ?_
  obtain ⟨x8, h7, h⟩ := bnd h
  refine V_cV2 (pc := 25) dX12_bundle_25 kw1652 calX12_variantWhy kw1654 ks97 (L11_0 Hs1) rfl (by decide) (Nat.le_of_ble_eq_true rfl) (ctX12_variantWhy Hs1 h7) ?_
  refine V_cV1 (pc := 28) dX12_bundle_28 kw1368 calX12_isRefused kw1370 ks54 (L11_0 Hs2) rfl (by decide) (Nat.le_of_ble_eq_true rfl) (ctX12_isRefused Hs2) ?_
  refine V_ifB_eq (pc := 31) (tgt := 36) dX12_bundle_31 (by decide) (fun c11 => ?_) (fun c11 => ?_)
  · have h := ite_f c11 h
    refine V_aload_n (pc := 36) 0 dX12_bundle_36 rfl rfl ?_
    refine V_iload_n (pc := 37) 1 dX12_bundle_37 rfl rfl ?_
    refine V_iload_n (pc := 38) 2 dX12_bundle_38 rfl rfl ?_
    obtain ⟨x13, h12, h⟩ := bnd h
    refine V_cV2 (pc := 39) dX12_bundle_39 kw1727 calX12_bodyOf kw1729 ks105 (L11_0 H0) rfl (by decide) (Nat.le_of_ble_eq_true rfl) (ctX12_bodyOf H0 h12) ?_
    refine V_istore (pc := 42) (lv1 := [(4, _), (0, _), (1, _), (2, _), (3, _)]) dX12_bundle_42 (by decide) rfl ?_
    refine V_iload_n (pc := 44) 4 dX12_bundle_44 rfl rfl ?_
    refine V_iconst (pc := 45) (x := 1) dX12_bundle_45 (by decide) ?_
    refine V_icmp_ne (pc := 46) (tgt := 52) dX12_bundle_46 (by decide) (fun c14 => ?_) (fun c14 => ?_)
    · have h := ite_n c14 h
      refine V_iconst (pc := 52) (x := 0) dX12_bundle_52 (by decide) ?_
      refine V_istore (pc := 53) (lv1 := [(5, _), (4, _), (0, _), (1, _), (2, _), (3, _)]) dX12_bundle_53 (by decide) rfl ?_
      refine V_iload_n (pc := 55) 5 dX12_bundle_55 rfl rfl ?_
      refine V_if_ne (pc := 56) (tgt := 101) dX12_bundle_56 (by decide) (fun c15 => ?_) (fun c15 => ?_)
      · have h := ite_n c15 h
        exact V_sub [1, 0] rfl (wX12_bundle_101 FUEL (0 : Int32) ((mX12_isRefused rs2 x8 d).2) h)
      · have h := ite_p c15 h
        refine V_iconst (pc := 59) (x := 0) dX12_bundle_59 (by decide) ?_
        refine V_istore (pc := 60) (lv1 := [(6, _), (5, _), (4, _), (0, _), (1, _), (2, _), (3, _)]) dX12_bundle_60 (by decide) rfl ?_
        exact V_sub [3, 4, 5, 1, 0] rfl (wX12_bundle_62 H0 FUEL (0 : Int32) (0 : Int32) ((mX12_isRefused rs2 x8 d).2) h)
    · have h := ite_p c14 h
      refine V_iload (pc := 49) 0 dX12_bundle_49 rfl ?_
      cases h
      exact V_ret (pc := 51) dX12_bundle_51 ⟨rfl, _, rfl⟩ ⟨rfl, rfl, rfl⟩
  · have h := ite_p c11 h
    refine V_iconst (pc := 34) (x := (-1)) dX12_bundle_34 (by decide) ?_
    cases h
    exact V_ret (pc := 35) dX12_bundle_35 ⟨rfl, _, rfl⟩ ⟨rfl, rfl, rfl⟩
theorem calX12_bundle : Cal yX12_bundle cX12_bundle 7 (some .int) 3 := ⟨kw1726, kw11, by decide +kernel⟩
theorem ctX12_bundle {G : Gl} {σ : Sg} {d : Dt} {r0 : Nat} {v1 : Int32} {v2 : Int32} {v3 : Int32} {rr : Int32 × Dt} (H0 : L11 σ r0) (h : mX12_bundle r0 v1 v2 v3 d = some rr) : CTv G yX12_bundle cX12_bundle 7 (some .int) 7 [.ref (gB G + r0), .int v1, .int v2, .int v3] σ d [.int rr.1] rr.2 := by
  refine CT_of pn_RX12 (Nat.le_of_ble_eq_true rfl) ?_
  rw [mX12_bundle] at h
  refine V_aload_n (pc := 0) 0 dX12_bundle_0 rfl rfl ?_
  refine V_aload_n (pc := 1) 0 dX12_bundle_1 rfl rfl ?_
  refine V_aload_n (pc := 2) 0 dX12_bundle_2 rfl rfl ?_
  refine V_iload_n (pc := 3) 2 dX12_bundle_3 rfl rfl ?_
  obtain ⟨x2, h1, h⟩ := bnd h
  refine V_cV1 (pc := 4) dX12_bundle_4 kw1570 calX12_isBundle kw1572 ks88 (L11_0 H0) rfl (by decide) (Nat.le_of_ble_eq_true rfl) (ctX12_isBundle H0 h1) ?_
  refine V_ifB_eq (pc := 7) (tgt := 23) dX12_bundle_7 (by decide) (fun c3 => ?_) (fun c3 => ?_)
  · have h := ite_f c3 h
    refine V_iconst (pc := 23) (x := 0) dX12_bundle_23 (by decide) ?_
    exact V_sub [0, 1, 2, 3] rfl (wX12_bundle_24 H0 H0 H0 h)
  · have h := ite_p c3 h
    refine V_iload_n (pc := 10) 3 dX12_bundle_10 rfl rfl ?_
    refine V_iconst (pc := 11) (x := 0) dX12_bundle_11 (by decide) ?_
    refine V_iconst (pc := 12) (x := 2) dX12_bundle_12 (by decide) ?_
    refine V_cS3 (pc := 13) dX12_bundle_13 kw1365 calX12_in kw1366 (by decide) (Nat.le_of_ble_eq_true rfl) (ctX12_in) ?_
    refine V_ifB_eq (pc := 16) (tgt := 23) dX12_bundle_16 (by decide) (fun c6 => ?_) (fun c6 => ?_)
    · have h := ite_f c6 h
      refine V_iconst (pc := 23) (x := 0) dX12_bundle_23 (by decide) ?_
      exact V_sub [0, 1, 2, 3] rfl (wX12_bundle_24 H0 H0 H0 h)
    · have h := ite_p c6 h
      refine V_iconst (pc := 19) (x := 1) dX12_bundle_19 (by decide) ?_
      refine V_goto (pc := 20) (tgt := 24) dX12_bundle_20 (by decide) ?_
      exact V_sub [0, 1, 2, 3] rfl (wX12_bundle_24 H0 H0 H0 h)
theorem wX12_changes_61 {G : Gl} {σ : Sg} {d : Dt} {r0 : Nat} {v1 : Int32} {v2 : Int32} {rr : Int32 × Dt} (H0 : L11 σ r0) (h : mX12_changes_61 r0 v1 v2 d = some rr) : V G yX12_changes cX12_changes 4 (some .int) 0 0 0 (PH [.int rr.1] σ rr.2) 61 [(0, .ref (gB G + r0)), (1, .int v1), (2, .int v2)] [] σ d := by
  rw [mX12_changes_61] at h
  refine V_aload_n (pc := 61) 0 dX12_changes_61 rfl rfl ?_
  refine V_getR (pc := 62) (c := 11) (k := 6) dX12_changes_62 (by decide) (by decide) kw1249 rfl rfl (L11_0 H0) (L11_r6 H0) ?_
  refine V_iload_n (pc := 65) 1 dX12_changes_65 rfl rfl ?_
  obtain ⟨b2, h⟩ := ite_o h
  refine V_iald (pc := 66) dX12_changes_66 (L11_s6 H0) (inB_vp b2) ?_
  refine V_istore_n (pc := 67) (lv1 := [(3, _), (0, _), (1, _), (2, _)]) dX12_changes_67 rfl (by decide) rfl ?_
  refine V_aload_n (pc := 68) 1 dX12_changes_68 rfl rfl ?_
  refine V_getR (pc := 69) (c := 11) (k := 32) dX12_changes_69 (by decide) (by decide) kw1275 rfl rfl (L11_0 H0) (L11_r32 H0) ?_
  refine V_aload_n (pc := 72) 1 dX12_changes_72 rfl rfl ?_
  refine V_getI (pc := 73) (c := 11) (k := 34) dX12_changes_73 (by decide) (by decide) kw1277 rfl rfl (L11_0 H0) ?_
  refine V_iload_n (pc := 76) 2 dX12_changes_76 rfl rfl ?_
  obtain ⟨b3, h⟩ := ite_o h
  refine V_iast (pc := 77) dX12_changes_77 (L11_s32 H0) (inB_vp b3) ?_
  refine V_aload_n (pc := 78) 1 dX12_changes_78 rfl rfl ?_
  refine V_getR (pc := 79) (c := 11) (k := 33) dX12_changes_79 (by decide) (by decide) kw1276 rfl rfl (L11_0 H0) (L11_r33 H0) ?_
  refine V_aload_n (pc := 82) 1 dX12_changes_82 rfl rfl ?_
  refine V_getI (pc := 83) (c := 11) (k := 34) dX12_changes_83 (by decide) (by decide) kw1277 rfl rfl (L11_0 H0) ?_
  refine V_iload_n (pc := 86) 0 dX12_changes_86 rfl rfl ?_
  obtain ⟨b4, h⟩ := ite_o h
  refine V_iast (pc := 87) dX12_changes_87 (L11_s33 H0) (inB_vp b4) ?_
  refine V_aload_n (pc := 88) 1 dX12_changes_88 rfl rfl ?_
  refine V_dup (pc := 89) dX12_changes_89 rfl ?_
  refine V_getI (pc := 90) (c := 11) (k := 34) dX12_changes_90 (by decide) (by decide) kw1277 rfl rfl (L11_0 H0) ?_
  refine V_iconst (pc := 93) (x := 1) dX12_changes_93 (by decide) ?_
  refine V_iadd (pc := 94) dX12_changes_94 ?_
  refine V_putI (pc := 95) (c := 11) (k := 34) dX12_changes_95 (by decide) (by decide) kw1277 rfl rfl rfl ⟨rfl, rfl⟩ (L11_0 H0) ?_
  refine V_aload_n (pc := 98) 1 dX12_changes_98 rfl rfl ?_
  refine V_getR (pc := 99) (c := 11) (k := 6) dX12_changes_99 (by decide) (by decide) kw1249 rfl rfl (L11_0 H0) (L11_r6 H0) ?_
  refine V_iload_n (pc := 102) 2 dX12_changes_102 rfl rfl ?_
  refine V_iload_n (pc := 103) 3 dX12_changes_103 rfl rfl ?_
  obtain ⟨b5, h⟩ := ite_o h
  refine V_iast (pc := 104) dX12_changes_104 (L11_s6 H0) (inB_vp b5) ?_
  refine V_iload_n (pc := 105) 0 dX12_changes_105 rfl rfl ?_
  cases h
  exact V_ret (pc := 106) dX12_changes_106 ⟨rfl, _, rfl⟩ ⟨rfl, rfl, rfl⟩
theorem wX12_changes_11 {G : Gl} {σ : Sg} {r0 : Nat} {v1 : Int32} {v2 : Int32} {rr : Int32 × Dt} (H0 : L11 σ r0) : ∀ (n : Nat) (v3 : Int32) (d : Dt), mX12_changes_11 r0 v1 v2 n v3 d = some rr → V G yX12_changes cX12_changes 4 (some .int) 0 0 0 (PH [.int rr.1] σ rr.2) 11 [(0, .ref (gB G + r0)), (1, .int v1), (2, .int v2), (3, .int v3)] [] σ d := by
  intro n
  induction n with
  | zero =>
    intro v3 d
    intros
    rename_i h
    exact absurd h (by rw [mX12_changes_11]; exact fun q => nomatch q)
  | succ n ih =>
    intro v3 d h
    rw [mX12_changes_11] at h
    refine V_iload_n (pc := 11) 3 dX12_changes_11 rfl rfl ?_
    refine V_bipush (pc := 12) (x := 10) dX12_changes_12 (by decide) ?_
    refine V_icmp_ge (pc := 14) (tgt := 51) dX12_changes_14 (by decide) (fun c6 => ?_) (fun c6 => ?_)
    · have h := ite_p c6 h
      refine V_aload_n (pc := 51) 0 dX12_changes_51 rfl rfl ?_
      refine V_dup (pc := 52) dX12_changes_52 rfl ?_
      refine V_getI (pc := 53) (c := 11) (k := 34) dX12_changes_53 (by decide) (by decide) kw1277 rfl rfl (L11_0 H0) ?_
      refine V_iconst (pc := 56) (x := 1) dX12_changes_56 (by decide) ?_
      refine V_isub (pc := 57) dX12_changes_57 ?_
      refine V_putI (pc := 58) (c := 11) (k := 34) dX12_changes_58 (by decide) (by decide) kw1277 rfl rfl rfl ⟨rfl, rfl⟩ (L11_0 H0) ?_
      exact V_sub [0, 1, 2] rfl (wX12_changes_61 H0 h)
    · have h := ite_n c6 h
      refine V_aload_n (pc := 17) 0 dX12_changes_17 rfl rfl ?_
      refine V_getR (pc := 18) (c := 11) (k := 32) dX12_changes_18 (by decide) (by decide) kw1275 rfl rfl (L11_0 H0) (L11_r32 H0) ?_
      refine V_iload_n (pc := 21) 3 dX12_changes_21 rfl rfl ?_
      refine V_iconst (pc := 22) (x := 1) dX12_changes_22 (by decide) ?_
      refine V_isub (pc := 23) dX12_changes_23 ?_
      refine V_aload_n (pc := 24) 0 dX12_changes_24 rfl rfl ?_
      refine V_getR (pc := 25) (c := 11) (k := 32) dX12_changes_25 (by decide) (by decide) kw1275 rfl rfl (L11_0 H0) (L11_r32 H0) ?_
      refine V_iload_n (pc := 28) 3 dX12_changes_28 rfl rfl ?_
      obtain ⟨b7, h⟩ := ite_o h
      refine V_iald (pc := 29) dX12_changes_29 (L11_s32 H0) (inB_vp b7) ?_
      obtain ⟨b8, h⟩ := ite_o h
      refine V_iast (pc := 30) dX12_changes_30 (L11_s32 H0) (inB_vp b8) ?_
      refine V_aload_n (pc := 31) 0 dX12_changes_31 rfl rfl ?_
      refine V_getR (pc := 32) (c := 11) (k := 33) dX12_changes_32 (by decide) (by decide) kw1276 rfl rfl (L11_0 H0) (L11_r33 H0) ?_
      refine V_iload_n (pc := 35) 3 dX12_changes_35 rfl rfl ?_
      refine V_iconst (pc := 36) (x := 1) dX12_changes_36 (by decide) ?_
      refine V_isub (pc := 37) dX12_changes_37 ?_
      refine V_aload_n (pc := 38) 0 dX12_changes_38 rfl rfl ?_
      refine V_getR (pc := 39) (c := 11) (k := 33) dX12_changes_39 (by decide) (by decide) kw1276 rfl rfl (L11_0 H0) (L11_r33 H0) ?_
      refine V_iload_n (pc := 42) 3 dX12_changes_42 rfl rfl ?_
      obtain ⟨b9, h⟩ := ite_o h
      refine V_iald (pc := 43) dX12_changes_43 (L11_s33 H0) (inB_vp b9) ?_
      obtain ⟨b10, h⟩ := ite_o h
      refine V_iast (pc := 44) dX12_changes_44 (L11_s33 H0) (inB_vp b10) ?_
      refine V_iinc (pc := 45) (lv1 := [(3, _), (0, _), (1, _), (2, _)]) (z := _ + (1 : Int32)) 3 dX12_changes_45 rfl rfl (by decide) rfl ?_
      refine V_goto (pc := 48) (tgt := 11) dX12_changes_48 (by decide) ?_
      exact V_sub [1, 2, 3, 0] rfl (ih (v3 + (1 : Int32)) (uI (uI d (r0 + 13) (v3 - (1 : Int32)).toNatClampNeg (d.1 (r0 + 13) v3.toNatClampNeg)) (r0 + 14) (v3 - (1 : Int32)).toNatClampNeg ((uI d (r0 + 13) (v3 - (1 : Int32)).toNatClampNeg (d.1 (r0 + 13) v3.toNatClampNeg)).1 (r0 + 14) v3.toNatClampNeg)) h)
theorem calX12_changes : Cal yX12_changes cX12_changes 4 (some .int) 2 := ⟨kw1862, kw11, by decide +kernel⟩
theorem ctX12_changes {G : Gl} {σ : Sg} {d : Dt} {r0 : Nat} {v1 : Int32} {v2 : Int32} {rr : Int32 × Dt} (H0 : L11 σ r0) (h : mX12_changes r0 v1 v2 d = some rr) : CTv G yX12_changes cX12_changes 4 (some .int) 0 [.ref (gB G + r0), .int v1, .int v2] σ d [.int rr.1] rr.2 := by
  refine CT_of pn_RX12 (Nat.le_of_ble_eq_true rfl) ?_
  rw [mX12_changes] at h
  refine V_aload_n (pc := 0) 0 dX12_changes_0 rfl rfl ?_
  refine V_getI (pc := 1) (c := 11) (k := 34) dX12_changes_1 (by decide) (by decide) kw1277 rfl rfl (L11_0 H0) ?_
  refine V_bipush (pc := 4) (x := 10) dX12_changes_4 (by decide) ?_
  refine V_icmp_ne (pc := 6) (tgt := 61) dX12_changes_6 (by decide) (fun c1 => ?_) (fun c1 => ?_)
  · have h := ite_n c1 h
    exact V_sub [0, 1, 2] rfl (wX12_changes_61 H0 h)
  · have h := ite_p c1 h
    refine V_iconst (pc := 9) (x := 1) dX12_changes_9 (by decide) ?_
    refine V_istore_n (pc := 10) (lv1 := [(3, _), (0, _), (1, _), (2, _)]) dX12_changes_10 rfl (by decide) rfl ?_
    exact V_sub [1, 2, 3, 0] rfl (wX12_changes_11 H0 FUEL (1 : Int32) d h)
theorem wX12_clashing_3 {G : Gl} {σ : Sg} {d : Dt} {r0 : Nat} {v1 : Int32} {v2 : Int32} {v3 : Int32} {rr : Int32} (H0 : L11 σ r0) : ∀ (n : Nat) (v4 : Int32), mX12_clashing_3 d r0 v1 v2 v3 n v4 = some rr → V G yX12_clashing cX12_clashing 5 (some .int) 4 0 0 (PH [.int rr] σ d) 3 [(0, .ref (gB G + r0)), (1, .int v1), (2, .int v2), (3, .int v3), (4, .int v4)] [] σ d := by
  intro n
  induction n with
  | zero =>
    intro v4
    intros
    rename_i h
    exact absurd h (by rw [mX12_clashing_3]; exact fun q => nomatch q)
  | succ n ih =>
    intro v4 h
    rw [mX12_clashing_3] at h
    refine V_iload (pc := 3) 4 dX12_clashing_3 rfl ?_
    refine V_iload_n (pc := 5) 2 dX12_clashing_5 rfl rfl ?_
    refine V_icmp_ge (pc := 6) (tgt := 40) dX12_clashing_6 (by decide) (fun c1 => ?_) (fun c1 => ?_)
    · have h := ite_p c1 h
      refine V_iconst (pc := 40) (x := (-1)) dX12_clashing_40 (by decide) ?_
      cases h
      exact V_ret (pc := 41) dX12_clashing_41 ⟨rfl, _, rfl⟩ ⟨rfl, rfl, rfl⟩
    · have h := ite_n c1 h
      refine V_aload_n (pc := 9) 0 dX12_clashing_9 rfl rfl ?_
      refine V_iload_n (pc := 10) 1 dX12_clashing_10 rfl rfl ?_
      refine V_iload (pc := 11) 4 dX12_clashing_11 rfl ?_
      refine V_aload_n (pc := 13) 0 dX12_clashing_13 rfl rfl ?_
      refine V_iload_n (pc := 14) 2 dX12_clashing_14 rfl rfl ?_
      refine V_iload_n (pc := 15) 3 dX12_clashing_15 rfl rfl ?_
      obtain ⟨x3, h2, h⟩ := bnd h
      refine V_cV2 (pc := 16) dX12_clashing_16 kw1671 calX12_pinPlug kw1673 ks100 (L11_0 H0) rfl (by decide) (Nat.le_of_ble_eq_true rfl) (ctX12_pinPlug H0 h2) ?_
      refine V_aload_n (pc := 19) 0 dX12_clashing_19 rfl rfl ?_
      refine V_iload_n (pc := 20) 2 dX12_clashing_20 rfl rfl ?_
      refine V_iload_n (pc := 21) 3 dX12_clashing_21 rfl rfl ?_
      obtain ⟨x5, h4, h⟩ := bnd h
      refine V_cV2 (pc := 22) dX12_clashing_22 kw1755 calX12_pinHole kw1757 ks109 (L11_0 H0) rfl (by decide) (Nat.le_of_ble_eq_true rfl) (ctX12_pinHole H0 h4) ?_
      obtain ⟨x7, h6, h⟩ := bnd h
      refine V_cV4 (pc := 25) dX12_clashing_25 kw1767 calX12_hasPin kw1769 ks112 (L11_0 H0) rfl (by decide) (Nat.le_of_ble_eq_true rfl) (ctX12_hasPin H0 h6) ?_
      refine V_ifB_eq (pc := 28) (tgt := 34) dX12_clashing_28 (by decide) (fun c8 => ?_) (fun c8 => ?_)
      · have h := ite_f c8 h
        refine V_iinc (pc := 34) (lv1 := [(4, _), (0, _), (1, _), (2, _), (3, _)]) (z := _ + (1 : Int32)) 4 dX12_clashing_34 rfl rfl (by decide) rfl ?_
        refine V_goto (pc := 37) (tgt := 3) dX12_clashing_37 (by decide) ?_
        exact V_sub [1, 2, 3, 4, 0] rfl (ih (v4 + (1 : Int32)) h)
      · have h := ite_p c8 h
        refine V_iload (pc := 31) 4 dX12_clashing_31 rfl ?_
        cases h
        exact V_ret (pc := 33) dX12_clashing_33 ⟨rfl, _, rfl⟩ ⟨rfl, rfl, rfl⟩
theorem calX12_clashing : Cal yX12_clashing cX12_clashing 5 (some .int) 3 := ⟨kw1766, kw11, by decide +kernel⟩
theorem ctX12_clashing {G : Gl} {σ : Sg} {d : Dt} {r0 : Nat} {v1 : Int32} {v2 : Int32} {v3 : Int32} {rr : Int32} (H0 : L11 σ r0) (h : mX12_clashing r0 v1 v2 v3 d = some rr) : CTv G yX12_clashing cX12_clashing 5 (some .int) 4 [.ref (gB G + r0), .int v1, .int v2, .int v3] σ d [.int rr] d := by
  refine CT_of pn_RX12 (Nat.le_of_ble_eq_true rfl) ?_
  rw [mX12_clashing] at h
  refine V_iconst (pc := 0) (x := 0) dX12_clashing_0 (by decide) ?_
  refine V_istore (pc := 1) (lv1 := [(4, _), (0, _), (1, _), (2, _), (3, _)]) dX12_clashing_1 (by decide) rfl ?_
  exact V_sub [1, 2, 3, 4, 0] rfl (wX12_clashing_3 H0 FUEL (0 : Int32) h)
theorem calX12_variantOf : Cal yX12_variantOf cX12_variantOf 2 (some .int) 1 := ⟨kw1790, kw11, by decide +kernel⟩
theorem ctX12_variantOf {G : Gl} {σ : Sg} {d : Dt} {r0 : Nat} {v1 : Int32} {rr : Int32} (H0 : L11 σ r0) (h : mX12_variantOf r0 v1 d = some rr) : CTv G yX12_variantOf cX12_variantOf 2 (some .int) 0 [.ref (gB G + r0), .int v1] σ d [.int rr] d := by
  refine CT_of pn_RX12 (Nat.le_of_ble_eq_true rfl) ?_
  rw [mX12_variantOf] at h
  refine V_aload_n (pc := 0) 0 dX12_variantOf_0 rfl rfl ?_
  refine V_getR (pc := 1) (c := 11) (k := 6) dX12_variantOf_1 (by decide) (by decide) kw1249 rfl rfl (L11_0 H0) (L11_r6 H0) ?_
  refine V_sipush (pc := 4) (x := 257) dX12_variantOf_4 (by decide) ?_
  refine V_iconst (pc := 7) (x := 2) dX12_variantOf_7 (by decide) ?_
  refine V_iload_n (pc := 8) 1 dX12_variantOf_8 rfl rfl ?_
  refine V_imul (pc := 9) dX12_variantOf_9 ?_
  refine V_iadd (pc := 10) dX12_variantOf_10 ?_
  obtain ⟨b1, h⟩ := ite_o h
  refine V_iald (pc := 11) dX12_variantOf_11 (L11_s6 H0) (inB_vp b1) ?_
  cases h
  exact V_ret (pc := 12) dX12_variantOf_12 ⟨rfl, _, rfl⟩ ⟨rfl, rfl, rfl⟩
theorem wX12_commonPinsOf_41 {G : Gl} {σ : Sg} {d : Dt} {g5 : Int32 → Int32 → Option Int32} {r0 : Nat} {v1 : Int32} {v2 : Int32} {v3 : Int32} {v4 : Int32} {vs0 : Int32} {rr : Int32} (H0 : L11 σ r0) (hg5 : ∀ (v3 : Int32) (v4 : Int32), g5 v3 v4 = some rr → V G yX12_commonPinsOf cX12_commonPinsOf 6 (some .int) 3 0 0 (PH [.int rr] σ d) 5 [(0, .ref (gB G + r0)), (1, .int v1), (2, .int v2), (3, .int v3), (4, .int v4)] [] σ d) (h : mX12_commonPinsOf_41 g5 d r0 v1 v2 v3 v4 vs0 = some rr) : V G yX12_commonPinsOf cX12_commonPinsOf 6 (some .int) 3 0 0 (PH [.int rr] σ d) 41 [(0, .ref (gB G + r0)), (1, .int v1), (2, .int v2), (3, .int v3), (4, .int v4)] [.int vs0] σ d := by
  rw [mX12_commonPinsOf_41] at h
  refine V_istore (pc := 41) (lv1 := [(5, _), (0, _), (1, _), (2, _), (3, _), (4, _)]) dX12_commonPinsOf_41 (by decide) rfl ?_
  refine V_iload_n (pc := 43) 4 dX12_commonPinsOf_43 rfl rfl ?_
  refine V_iload (pc := 44) 0 dX12_commonPinsOf_44 rfl ?_
  obtain ⟨x11, h10, h⟩ := bnd h
  refine V_cS1 (pc := 46) dX12_commonPinsOf_46 kw1683 calX12_bitsOf kw1684 (by decide) (Nat.le_of_ble_eq_true rfl) (ctX12_bitsOf h10) ?_
  refine V_iconst (pc := 49) (x := 1) dX12_commonPinsOf_49 (by decide) ?_
  refine V_icmp_le (pc := 50) (tgt := 58) dX12_commonPinsOf_50 (by decide) (fun c12 => ?_) (fun c12 => ?_)
  · have h := ite_p c12 h
    refine V_iconst (pc := 58) (x := 0) dX12_commonPinsOf_58 (by decide) ?_
    refine V_ior (pc := 59) dX12_commonPinsOf_59 ?_
    refine V_istore_n (pc := 60) (lv1 := [(3, _), (5, _), (0, _), (1, _), (2, _), (4, _)]) dX12_commonPinsOf_60 rfl (by decide) rfl ?_
    refine V_iinc (pc := 61) (lv1 := [(4, _), (3, _), (5, _), (0, _), (1, _), (2, _)]) (z := _ + (1 : Int32)) 5 dX12_commonPinsOf_61 rfl rfl (by decide) rfl ?_
    refine V_goto (pc := 64) (tgt := 5) dX12_commonPinsOf_64 (by decide) ?_
    exact V_sub [3, 4, 5, 1, 0] rfl (hg5 (v3 ||| (0 : Int32)) (v4 + (1 : Int32)) h)
  · have h := ite_n c12 h
    refine V_iload (pc := 53) 0 dX12_commonPinsOf_53 rfl ?_
    refine V_goto (pc := 55) (tgt := 59) dX12_commonPinsOf_55 (by decide) ?_
    refine V_ior (pc := 59) dX12_commonPinsOf_59 ?_
    refine V_istore_n (pc := 60) (lv1 := [(3, _), (5, _), (0, _), (1, _), (2, _), (4, _)]) dX12_commonPinsOf_60 rfl (by decide) rfl ?_
    refine V_iinc (pc := 61) (lv1 := [(4, _), (3, _), (5, _), (0, _), (1, _), (2, _)]) (z := _ + (1 : Int32)) 5 dX12_commonPinsOf_61 rfl rfl (by decide) rfl ?_
    refine V_goto (pc := 64) (tgt := 5) dX12_commonPinsOf_64 (by decide) ?_
    exact V_sub [3, 4, 5, 1, 0] rfl (hg5 (v3 ||| vs0) (v4 + (1 : Int32)) h)
theorem wX12_commonPinsOf_5 {G : Gl} {σ : Sg} {d : Dt} {r0 : Nat} {v1 : Int32} {v2 : Int32} {rr : Int32} (H0 : L11 σ r0) : ∀ (n : Nat) (v3 : Int32) (v4 : Int32), mX12_commonPinsOf_5 d r0 v1 v2 n v3 v4 = some rr → V G yX12_commonPinsOf cX12_commonPinsOf 6 (some .int) 3 0 0 (PH [.int rr] σ d) 5 [(0, .ref (gB G + r0)), (1, .int v1), (2, .int v2), (3, .int v3), (4, .int v4)] [] σ d := by
  intro n
  induction n with
  | zero =>
    intro v3 v4
    intros
    rename_i h
    exact absurd h (by rw [mX12_commonPinsOf_5]; exact fun q => nomatch q)
  | succ n ih =>
    intro v3 v4 h
    rw [mX12_commonPinsOf_5] at h
    refine V_iload (pc := 5) 4 dX12_commonPinsOf_5 rfl ?_
    refine V_aload_n (pc := 7) 0 dX12_commonPinsOf_7 rfl rfl ?_
    refine V_getR (pc := 8) (c := 11) (k := 6) dX12_commonPinsOf_8 (by decide) (by decide) kw1249 rfl rfl (L11_0 H0) (L11_r6 H0) ?_
    refine V_bipush (pc := 11) (x := 6) dX12_commonPinsOf_11 (by decide) ?_
    obtain ⟨b1, h⟩ := ite_o h
    refine V_iald (pc := 13) dX12_commonPinsOf_13 (L11_s6 H0) (inB_vp b1) ?_
    refine V_icmp_ge (pc := 14) (tgt := 67) dX12_commonPinsOf_14 (by decide) (fun c2 => ?_) (fun c2 => ?_)
    · have h := ite_p c2 h
      refine V_iload_n (pc := 67) 3 dX12_commonPinsOf_67 rfl rfl ?_
      cases h
      exact V_ret (pc := 68) dX12_commonPinsOf_68 ⟨rfl, _, rfl⟩ ⟨rfl, rfl, rfl⟩
    · have h := ite_n c2 h
      refine V_iload_n (pc := 17) 1 dX12_commonPinsOf_17 rfl rfl ?_
      refine V_iload (pc := 18) 4 dX12_commonPinsOf_18 rfl ?_
      refine V_cS2 (pc := 20) dX12_commonPinsOf_20 kw1690 calX12_has kw1691 (by decide) (Nat.le_of_ble_eq_true rfl) (ctX12_has) ?_
      refine V_ifB_eq (pc := 23) (tgt := 40) dX12_commonPinsOf_23 (by decide) (fun c5 => ?_) (fun c5 => ?_)
      · have h := ite_f c5 h
        refine V_iconst (pc := 40) (x := 0) dX12_commonPinsOf_40 (by decide) ?_
        exact V_sub [0, 1, 2, 3, 4] rfl (wX12_commonPinsOf_41 H0 ih h)
      · have h := ite_p c5 h
        refine V_aload_n (pc := 26) 0 dX12_commonPinsOf_26 rfl rfl ?_
        refine V_aload_n (pc := 27) 0 dX12_commonPinsOf_27 rfl rfl ?_
        refine V_iload (pc := 28) 4 dX12_commonPinsOf_28 rfl ?_
        obtain ⟨x7, h6, h⟩ := bnd h
        refine V_cV1 (pc := 30) dX12_commonPinsOf_30 kw1787 calX12_variantOf kw1789 ks114 (L11_0 H0) rfl (by decide) (Nat.le_of_ble_eq_true rfl) (ctX12_variantOf H0 h6) ?_
        refine V_iload_n (pc := 33) 2 dX12_commonPinsOf_33 rfl rfl ?_
        obtain ⟨x9, h8, h⟩ := bnd h
        refine V_cV2 (pc := 34) dX12_commonPinsOf_34 kw1667 calX12_pinsOf kw1669 ks99 (L11_0 H0) rfl (by decide) (Nat.le_of_ble_eq_true rfl) (ctX12_pinsOf H0 h8) ?_
        refine V_goto (pc := 37) (tgt := 41) dX12_commonPinsOf_37 (by decide) ?_
        exact V_sub [0, 1, 2, 3, 4] rfl (wX12_commonPinsOf_41 H0 ih h)
theorem calX12_commonPinsOf : Cal yX12_commonPinsOf cX12_commonPinsOf 6 (some .int) 2 := ⟨kw1814, kw11, by decide +kernel⟩
theorem ctX12_commonPinsOf {G : Gl} {σ : Sg} {d : Dt} {r0 : Nat} {v1 : Int32} {v2 : Int32} {rr : Int32} (H0 : L11 σ r0) (h : mX12_commonPinsOf r0 v1 v2 d = some rr) : CTv G yX12_commonPinsOf cX12_commonPinsOf 6 (some .int) 3 [.ref (gB G + r0), .int v1, .int v2] σ d [.int rr] d := by
  refine CT_of pn_RX12 (Nat.le_of_ble_eq_true rfl) ?_
  rw [mX12_commonPinsOf] at h
  refine V_iconst (pc := 0) (x := 0) dX12_commonPinsOf_0 (by decide) ?_
  refine V_istore_n (pc := 1) (lv1 := [(3, _), (0, _), (1, _), (2, _)]) dX12_commonPinsOf_1 rfl (by decide) rfl ?_
  refine V_iconst (pc := 2) (x := 0) dX12_commonPinsOf_2 (by decide) ?_
  refine V_istore (pc := 3) (lv1 := [(4, _), (3, _), (0, _), (1, _), (2, _)]) dX12_commonPinsOf_3 (by decide) rfl ?_
  exact V_sub [2, 3, 4, 1, 0] rfl (wX12_commonPinsOf_5 H0 FUEL (0 : Int32) (0 : Int32) h)
theorem calX12_lengthOf : Cal yX12_lengthOf cX12_lengthOf 5 (some .int) 2 := ⟨kw1711, kw11, by decide +kernel⟩
theorem ctX12_lengthOf {G : Gl} {σ : Sg} {d : Dt} {r0 : Nat} {v1 : Int32} {v2 : Int32} {rr : Int32} (H0 : L11 σ r0) (h : mX12_lengthOf r0 v1 v2 d = some rr) : CTv G yX12_lengthOf cX12_lengthOf 5 (some .int) 5 [.ref (gB G + r0), .int v1, .int v2] σ d [.int rr] d := by
  refine CT_of pn_RX12 (Nat.le_of_ble_eq_true rfl) ?_
  rw [mX12_lengthOf] at h
  refine V_iload_n (pc := 0) 2 dX12_lengthOf_0 rfl rfl ?_
  obtain ⟨x2, h1, h⟩ := bnd h
  refine V_cS1 (pc := 1) dX12_lengthOf_1 kw1683 calX12_bitsOf kw1684 (by decide) (Nat.le_of_ble_eq_true rfl) (ctX12_bitsOf h1) ?_
  refine V_istore_n (pc := 4) (lv1 := [(3, _), (0, _), (1, _), (2, _)]) dX12_lengthOf_4 rfl (by decide) rfl ?_
  refine V_iload_n (pc := 5) 0 dX12_lengthOf_5 rfl rfl ?_
  refine V_iconst (pc := 6) (x := 2) dX12_lengthOf_6 (by decide) ?_
  refine V_icmp_ge (pc := 7) (tgt := 12) dX12_lengthOf_7 (by decide) (fun c3 => ?_) (fun c3 => ?_)
  · have h := ite_p c3 h
    refine V_iload_n (pc := 12) 0 dX12_lengthOf_12 rfl rfl ?_
    refine V_iconst (pc := 13) (x := 2) dX12_lengthOf_13 (by decide) ?_
    refine V_icmp_ne (pc := 14) (tgt := 46) dX12_lengthOf_14 (by decide) (fun c4 => ?_) (fun c4 => ?_)
    · have h := ite_n c4 h
      refine V_aload_n (pc := 46) 1 dX12_lengthOf_46 rfl rfl ?_
      refine V_iload_n (pc := 47) 2 dX12_lengthOf_47 rfl rfl ?_
      refine V_iload_n (pc := 48) 3 dX12_lengthOf_48 rfl rfl ?_
      refine V_aload_n (pc := 49) 1 dX12_lengthOf_49 rfl rfl ?_
      refine V_iload_n (pc := 50) 2 dX12_lengthOf_50 rfl rfl ?_
      refine V_iload_n (pc := 51) 3 dX12_lengthOf_51 rfl rfl ?_
      obtain ⟨x6, h5, h⟩ := bnd h
      refine V_cV2 (pc := 52) dX12_lengthOf_52 kw1679 calX12_spliceOf kw1681 ks101 (L11_0 H0) rfl (by decide) (Nat.le_of_ble_eq_true rfl) (ctX12_spliceOf H0 h5) ?_
      obtain ⟨x8, h7, h⟩ := bnd h
      refine V_cV3 (pc := 55) dX12_lengthOf_55 kw1686 calX12_reachOf kw1688 ks102 (L11_0 H0) rfl (by decide) (Nat.le_of_ble_eq_true rfl) (ctX12_reachOf H0 h7) ?_
      refine V_iload_n (pc := 58) 0 dX12_lengthOf_58 rfl rfl ?_
      refine V_aload_n (pc := 59) 1 dX12_lengthOf_59 rfl rfl ?_
      refine V_getR (pc := 60) (c := 11) (k := 6) dX12_lengthOf_60 (by decide) (by decide) kw1249 rfl rfl (L11_0 H0) (L11_r6 H0) ?_
      refine V_iconst (pc := 63) (x := 0) dX12_lengthOf_63 (by decide) ?_
      obtain ⟨b9, h⟩ := ite_o h
      refine V_iald (pc := 64) dX12_lengthOf_64 (L11_s6 H0) (inB_vp b9) ?_
      refine V_aload_n (pc := 65) 1 dX12_lengthOf_65 rfl rfl ?_
      refine V_getR (pc := 66) (c := 11) (k := 6) dX12_lengthOf_66 (by decide) (by decide) kw1249 rfl rfl (L11_0 H0) (L11_r6 H0) ?_
      refine V_iconst (pc := 69) (x := 1) dX12_lengthOf_69 (by decide) ?_
      obtain ⟨b10, h⟩ := ite_o h
      refine V_iald (pc := 70) dX12_lengthOf_70 (L11_s6 H0) (inB_vp b10) ?_
      refine V_iadd (pc := 71) dX12_lengthOf_71 ?_
      refine V_imul (pc := 72) dX12_lengthOf_72 ?_
      refine V_iadd (pc := 73) dX12_lengthOf_73 ?_
      cases h
      exact V_ret (pc := 74) dX12_lengthOf_74 ⟨rfl, _, rfl⟩ ⟨rfl, rfl, rfl⟩
    · have h := ite_p c4 h
      refine V_iload_n (pc := 17) 3 dX12_lengthOf_17 rfl rfl ?_
      obtain ⟨x12, h11, h⟩ := bnd h
      refine V_cS1 (pc := 18) dX12_lengthOf_18 kw1712 calX12_firstOf kw1713 (by decide) (Nat.le_of_ble_eq_true rfl) (ctX12_firstOf h11) ?_
      refine V_istore (pc := 21) (lv1 := [(4, _), (3, _), (0, _), (1, _), (2, _)]) dX12_lengthOf_21 (by decide) rfl ?_
      refine V_aload_n (pc := 23) 2 dX12_lengthOf_23 rfl rfl ?_
      refine V_iload_n (pc := 24) 3 dX12_lengthOf_24 rfl rfl ?_
      refine V_iload_n (pc := 25) 4 dX12_lengthOf_25 rfl rfl ?_
      refine V_aload_n (pc := 26) 2 dX12_lengthOf_26 rfl rfl ?_
      refine V_iload_n (pc := 27) 3 dX12_lengthOf_27 rfl rfl ?_
      refine V_iload (pc := 28) 0 dX12_lengthOf_28 rfl ?_
      obtain ⟨x14, h13, h⟩ := bnd h
      refine V_cV2 (pc := 30) dX12_lengthOf_30 kw1693 calX12_pinNode kw1695 ks103 (L11_0 H0) rfl (by decide) (Nat.le_of_ble_eq_true rfl) (ctX12_pinNode H0 h13) ?_
      obtain ⟨x16, h15, h⟩ := bnd h
      refine V_cV3 (pc := 33) dX12_lengthOf_33 kw1686 calX12_reachOf kw1688 ks102 (L11_0 H0) rfl (by decide) (Nat.le_of_ble_eq_true rfl) (ctX12_reachOf H0 h15) ?_
      refine V_iconst (pc := 36) (x := 2) dX12_lengthOf_36 (by decide) ?_
      refine V_aload_n (pc := 37) 2 dX12_lengthOf_37 rfl rfl ?_
      refine V_getR (pc := 38) (c := 11) (k := 6) dX12_lengthOf_38 (by decide) (by decide) kw1249 rfl rfl (L11_0 H0) (L11_r6 H0) ?_
      refine V_iconst (pc := 41) (x := 0) dX12_lengthOf_41 (by decide) ?_
      obtain ⟨b17, h⟩ := ite_o h
      refine V_iald (pc := 42) dX12_lengthOf_42 (L11_s6 H0) (inB_vp b17) ?_
      refine V_imul (pc := 43) dX12_lengthOf_43 ?_
      refine V_iadd (pc := 44) dX12_lengthOf_44 ?_
      cases h
      exact V_ret (pc := 45) dX12_lengthOf_45 ⟨rfl, _, rfl⟩ ⟨rfl, rfl, rfl⟩
  · have h := ite_n c3 h
    refine V_iconst (pc := 10) (x := 0) dX12_lengthOf_10 (by decide) ?_
    cases h
    exact V_ret (pc := 11) dX12_lengthOf_11 ⟨rfl, _, rfl⟩ ⟨rfl, rfl, rfl⟩
theorem wX12_commonOf_4 {G : Gl} {σ : Sg} {d : Dt} {r0 : Nat} {v1 : Int32} {rr : Int32} (H0 : L11 σ r0) : ∀ (n : Nat) (v2 : Int32) (v3 : Int32), mX12_commonOf_4 d r0 v1 n v2 v3 = some rr → V G yX12_commonOf cX12_commonOf 4 (some .int) 6 0 0 (PH [.int rr] σ d) 4 [(0, .ref (gB G + r0)), (1, .int v1), (2, .int v2), (3, .int v3)] [] σ d := by
  intro n
  induction n with
  | zero =>
    intro v2 v3
    intros
    rename_i h
    exact absurd h (by rw [mX12_commonOf_4]; exact fun q => nomatch q)
  | succ n ih =>
    intro v2 v3 h
    rw [mX12_commonOf_4] at h
    refine V_iload_n (pc := 4) 3 dX12_commonOf_4 rfl rfl ?_
    refine V_aload_n (pc := 5) 0 dX12_commonOf_5 rfl rfl ?_
    refine V_getR (pc := 6) (c := 11) (k := 6) dX12_commonOf_6 (by decide) (by decide) kw1249 rfl rfl (L11_0 H0) (L11_r6 H0) ?_
    refine V_iconst (pc := 9) (x := 5) dX12_commonOf_9 (by decide) ?_
    obtain ⟨b1, h⟩ := ite_o h
    refine V_iald (pc := 10) dX12_commonOf_10 (L11_s6 H0) (inB_vp b1) ?_
    refine V_icmp_ge (pc := 11) (tgt := 34) dX12_commonOf_11 (by decide) (fun c2 => ?_) (fun c2 => ?_)
    · have h := ite_p c2 h
      refine V_iload_n (pc := 34) 2 dX12_commonOf_34 rfl rfl ?_
      cases h
      exact V_ret (pc := 35) dX12_commonOf_35 ⟨rfl, _, rfl⟩ ⟨rfl, rfl, rfl⟩
    · have h := ite_n c2 h
      refine V_iload_n (pc := 14) 2 dX12_commonOf_14 rfl rfl ?_
      refine V_aload_n (pc := 15) 0 dX12_commonOf_15 rfl rfl ?_
      refine V_iload_n (pc := 16) 3 dX12_commonOf_16 rfl rfl ?_
      refine V_aload_n (pc := 17) 0 dX12_commonOf_17 rfl rfl ?_
      refine V_iload_n (pc := 18) 1 dX12_commonOf_18 rfl rfl ?_
      refine V_iload_n (pc := 19) 3 dX12_commonOf_19 rfl rfl ?_
      obtain ⟨x4, h3, h⟩ := bnd h
      refine V_cV2 (pc := 20) dX12_commonOf_20 kw1811 calX12_commonPinsOf kw1813 ks118 (L11_0 H0) rfl (by decide) (Nat.le_of_ble_eq_true rfl) (ctX12_commonPinsOf H0 h3) ?_
      obtain ⟨x6, h5, h⟩ := bnd h
      refine V_cV2 (pc := 23) dX12_commonOf_23 kw1708 calX12_lengthOf kw1710 ks104 (L11_0 H0) rfl (by decide) (Nat.le_of_ble_eq_true rfl) (ctX12_lengthOf H0 h5) ?_
      refine V_iadd (pc := 26) dX12_commonOf_26 ?_
      refine V_istore_n (pc := 27) (lv1 := [(2, _), (0, _), (1, _), (3, _)]) dX12_commonOf_27 rfl (by decide) rfl ?_
      refine V_iinc (pc := 28) (lv1 := [(3, _), (2, _), (0, _), (1, _)]) (z := _ + (1 : Int32)) 3 dX12_commonOf_28 rfl rfl (by decide) rfl ?_
      refine V_goto (pc := 31) (tgt := 4) dX12_commonOf_31 (by decide) ?_
      exact V_sub [2, 3, 1, 0] rfl (ih (v2 + x6) (v3 + (1 : Int32)) h)
theorem calX12_commonOf : Cal yX12_commonOf cX12_commonOf 4 (some .int) 1 := ⟨kw1810, kw11, by decide +kernel⟩
theorem ctX12_commonOf {G : Gl} {σ : Sg} {d : Dt} {r0 : Nat} {v1 : Int32} {rr : Int32} (H0 : L11 σ r0) (h : mX12_commonOf r0 v1 d = some rr) : CTv G yX12_commonOf cX12_commonOf 4 (some .int) 6 [.ref (gB G + r0), .int v1] σ d [.int rr] d := by
  refine CT_of pn_RX12 (Nat.le_of_ble_eq_true rfl) ?_
  rw [mX12_commonOf] at h
  refine V_iconst (pc := 0) (x := 0) dX12_commonOf_0 (by decide) ?_
  refine V_istore_n (pc := 1) (lv1 := [(2, _), (0, _), (1, _)]) dX12_commonOf_1 rfl (by decide) rfl ?_
  refine V_iconst (pc := 2) (x := 0) dX12_commonOf_2 (by decide) ?_
  refine V_istore_n (pc := 3) (lv1 := [(3, _), (2, _), (0, _), (1, _)]) dX12_commonOf_3 rfl (by decide) rfl ?_
  exact V_sub [2, 3, 1, 0] rfl (wX12_commonOf_4 H0 FUEL (0 : Int32) (0 : Int32) h)
theorem calX12_common : Cal yX12_common cX12_common 2 (some .int) 1 := ⟨kw1802, kw11, by decide +kernel⟩
theorem ctX12_common {G : Gl} {σ : Sg} {d : Dt} {r0 : Nat} {v1 : Int32} {rr : Int32 × Dt} (H0 : L11 σ r0) (h : mX12_common r0 v1 d = some rr) : CTv G yX12_common cX12_common 2 (some .int) 7 [.ref (gB G + r0), .int v1] σ d [.int rr.1] rr.2 := by
  refine CT_of pn_RX12 (Nat.le_of_ble_eq_true rfl) ?_
  rw [mX12_common] at h
  refine V_aload_n (pc := 0) 0 dX12_common_0 rfl rfl ?_
  refine V_aload_n (pc := 1) 0 dX12_common_1 rfl rfl ?_
  refine V_iconst (pc := 2) (x := 1) dX12_common_2 (by decide) ?_
  refine V_iload_n (pc := 3) 1 dX12_common_3 rfl rfl ?_
  obtain ⟨x2, h1, h⟩ := bnd h
  refine V_cV2 (pc := 4) dX12_common_4 kw1803 calX12_buildsWhy kw1805 ks116 (L11_0 H0) rfl (by decide) (Nat.le_of_ble_eq_true rfl) (ctX12_buildsWhy H0 h1) ?_
  refine V_cV1 (pc := 7) dX12_common_7 kw1368 calX12_isRefused kw1370 ks54 (L11_0 H0) rfl (by decide) (Nat.le_of_ble_eq_true rfl) (ctX12_isRefused H0) ?_
  refine V_ifB_eq (pc := 10) (tgt := 17) dX12_common_10 (by decide) (fun c5 => ?_) (fun c5 => ?_)
  · have h := ite_f c5 h
    refine V_aload_n (pc := 17) 0 dX12_common_17 rfl rfl ?_
    refine V_iload_n (pc := 18) 1 dX12_common_18 rfl rfl ?_
    obtain ⟨x7, h6, h⟩ := bnd h
    refine V_cV1 (pc := 19) dX12_common_19 kw1807 calX12_commonOf kw1809 ks117 (L11_0 H0) rfl (by decide) (Nat.le_of_ble_eq_true rfl) (ctX12_commonOf H0 h6) ?_
    cases h
    exact V_ret (pc := 22) dX12_common_22 ⟨rfl, _, rfl⟩ ⟨rfl, rfl, rfl⟩
  · have h := ite_p c5 h
    refine V_iconst (pc := 13) (x := (-1)) dX12_common_13 (by decide) ?_
    refine V_goto (pc := 14) (tgt := 22) dX12_common_14 (by decide) ?_
    cases h
    exact V_ret (pc := 22) dX12_common_22 ⟨rfl, _, rfl⟩ ⟨rfl, rfl, rfl⟩
theorem calX12_isNet : Cal yX12_isNet cX12_isNet 2 (some .boolean) 1 := ⟨kw1635, kw11, by decide +kernel⟩
theorem ctX12_isNet {G : Gl} {σ : Sg} {d : Dt} {r0 : Nat} {v1 : Int32} {rr : Bool} (H0 : L11 σ r0) (h : mX12_isNet r0 v1 d = some rr) : CTv G yX12_isNet cX12_isNet 2 (some .boolean) 1 [.ref (gB G + r0), .int v1] σ d [.int (b2i rr)] d := by
  refine CT_of pn_RX12 (Nat.le_of_ble_eq_true rfl) ?_
  rw [mX12_isNet] at h
  refine V_aload_n (pc := 0) 0 dX12_isNet_0 rfl rfl ?_
  refine V_getI (pc := 1) (c := 11) (k := 14) dX12_isNet_1 (by decide) (by decide) kw1257 rfl rfl (L11_0 H0) ?_
  refine V_if_eq (pc := 4) (tgt := 27) dX12_isNet_4 (by decide) (fun c1 => ?_) (fun c1 => ?_)
  · have h := ite_p c1 h
    refine V_iconst (pc := 27) (x := 0) dX12_isNet_27 (by decide) ?_
    cases h
    exact V_ret (pc := 28) dX12_isNet_28 ⟨rfl, _, rfl, rfl⟩ ⟨rfl, rfl, rfl⟩
  · have h := ite_n c1 h
    refine V_iload_n (pc := 7) 1 dX12_isNet_7 rfl rfl ?_
    refine V_iconst (pc := 8) (x := 0) dX12_isNet_8 (by decide) ?_
    refine V_aload_n (pc := 9) 0 dX12_isNet_9 rfl rfl ?_
    refine V_getR (pc := 10) (c := 11) (k := 6) dX12_isNet_10 (by decide) (by decide) kw1249 rfl rfl (L11_0 H0) (L11_r6 H0) ?_
    refine V_iconst (pc := 13) (x := 5) dX12_isNet_13 (by decide) ?_
    obtain ⟨b2, h⟩ := ite_o h
    refine V_iald (pc := 14) dX12_isNet_14 (L11_s6 H0) (inB_vp b2) ?_
    refine V_iconst (pc := 15) (x := 1) dX12_isNet_15 (by decide) ?_
    refine V_isub (pc := 16) dX12_isNet_16 ?_
    refine V_cS3 (pc := 17) dX12_isNet_17 kw1365 calX12_in kw1366 (by decide) (Nat.le_of_ble_eq_true rfl) (ctX12_in) ?_
    refine V_ifB_eq (pc := 20) (tgt := 27) dX12_isNet_20 (by decide) (fun c5 => ?_) (fun c5 => ?_)
    · have h := ite_f c5 h
      refine V_iconst (pc := 27) (x := 0) dX12_isNet_27 (by decide) ?_
      cases h
      exact V_ret (pc := 28) dX12_isNet_28 ⟨rfl, _, rfl, rfl⟩ ⟨rfl, rfl, rfl⟩
    · have h := ite_p c5 h
      refine V_iconst (pc := 23) (x := 1) dX12_isNet_23 (by decide) ?_
      refine V_goto (pc := 24) (tgt := 28) dX12_isNet_24 (by decide) ?_
      cases h
      exact V_ret (pc := 28) dX12_isNet_28 ⟨rfl, _, rfl, rfl⟩ ⟨rfl, rfl, rfl⟩
theorem calX12_commonPins : Cal yX12_commonPins cX12_commonPins 3 (some .int) 2 := ⟨kw1818, kw11, by decide +kernel⟩
theorem ctX12_commonPins {G : Gl} {σ : Sg} {d : Dt} {r0 : Nat} {v1 : Int32} {v2 : Int32} {rr : Int32 × Dt} (H0 : L11 σ r0) (h : mX12_commonPins r0 v1 v2 d = some rr) : CTv G yX12_commonPins cX12_commonPins 3 (some .int) 4 [.ref (gB G + r0), .int v1, .int v2] σ d [.int rr.1] rr.2 := by
  refine CT_of pn_RX12 (Nat.le_of_ble_eq_true rfl) ?_
  rw [mX12_commonPins] at h
  refine V_aload_n (pc := 0) 0 dX12_commonPins_0 rfl rfl ?_
  refine V_aload_n (pc := 1) 0 dX12_commonPins_1 rfl rfl ?_
  refine V_aload_n (pc := 2) 0 dX12_commonPins_2 rfl rfl ?_
  refine V_iload_n (pc := 3) 2 dX12_commonPins_3 rfl rfl ?_
  obtain ⟨x2, h1, h⟩ := bnd h
  refine V_cV1 (pc := 4) dX12_commonPins_4 kw1632 calX12_isNet kw1634 ks94 (L11_0 H0) rfl (by decide) (Nat.le_of_ble_eq_true rfl) (ctX12_isNet H0 h1) ?_
  refine V_iload_n (pc := 7) 1 dX12_commonPins_7 rfl rfl ?_
  obtain ⟨x4, h3, h⟩ := bnd h
  refine V_cV2 (pc := 8) dX12_commonPins_8 kw1803 calX12_buildsWhy kw1805 ks116 (L11_0 H0) rfl (by decide) (Nat.le_of_ble_eq_true rfl) (ctX12_buildsWhy H0 h3) ?_
  refine V_cV1 (pc := 11) dX12_commonPins_11 kw1368 calX12_isRefused kw1370 ks54 (L11_0 H0) rfl (by decide) (Nat.le_of_ble_eq_true rfl) (ctX12_isRefused H0) ?_
  refine V_ifB_eq (pc := 14) (tgt := 21) dX12_commonPins_14 (by decide) (fun c7 => ?_) (fun c7 => ?_)
  · have h := ite_f c7 h
    refine V_aload_n (pc := 21) 0 dX12_commonPins_21 rfl rfl ?_
    refine V_iload_n (pc := 22) 1 dX12_commonPins_22 rfl rfl ?_
    refine V_iload_n (pc := 23) 2 dX12_commonPins_23 rfl rfl ?_
    obtain ⟨x9, h8, h⟩ := bnd h
    refine V_cV2 (pc := 24) dX12_commonPins_24 kw1811 calX12_commonPinsOf kw1813 ks118 (L11_0 H0) rfl (by decide) (Nat.le_of_ble_eq_true rfl) (ctX12_commonPinsOf H0 h8) ?_
    cases h
    exact V_ret (pc := 27) dX12_commonPins_27 ⟨rfl, _, rfl⟩ ⟨rfl, rfl, rfl⟩
  · have h := ite_p c7 h
    refine V_iconst (pc := 17) (x := (-1)) dX12_commonPins_17 (by decide) ?_
    refine V_goto (pc := 18) (tgt := 27) dX12_commonPins_18 (by decide) ?_
    cases h
    exact V_ret (pc := 27) dX12_commonPins_27 ⟨rfl, _, rfl⟩ ⟨rfl, rfl, rfl⟩
theorem calX12_most : Cal yX12_most cX12_most 2 (some .int) 2 := ⟨kw1596, kw11, by decide +kernel⟩
theorem ctX12_most {G : Gl} {σ : Sg} {d : Dt} {v0 : Int32} {v1 : Int32} : CTv G yX12_most cX12_most 2 (some .int) 0 [.int v0, .int v1] σ d [.int (mX12_most v0 v1)] d := by
  refine CT_of pn_RX12 (Nat.le_of_ble_eq_true rfl) ?_
  generalize h : mX12_most v0 v1 = rr
  rw [mX12_most] at h
  refine V_iload_n (pc := 0) 0 dX12_most_0 rfl rfl ?_
  refine V_iload_n (pc := 1) 1 dX12_most_1 rfl rfl ?_
  refine V_icmp_le (pc := 2) (tgt := 9) dX12_most_2 (by decide) (fun c1 => ?_) (fun c1 => ?_)
  · have h := ite_p c1 h
    refine V_iload_n (pc := 9) 1 dX12_most_9 rfl rfl ?_
    subst h
    exact V_ret (pc := 10) dX12_most_10 ⟨rfl, _, rfl⟩ ⟨rfl, rfl, rfl⟩
  · have h := ite_n c1 h
    refine V_iload_n (pc := 5) 0 dX12_most_5 rfl rfl ?_
    refine V_goto (pc := 6) (tgt := 10) dX12_most_6 (by decide) ?_
    subst h
    exact V_ret (pc := 10) dX12_most_10 ⟨rfl, _, rfl⟩ ⟨rfl, rfl, rfl⟩
theorem calX12_least : Cal yX12_least cX12_least 2 (some .int) 2 := ⟨kw1599, kw11, by decide +kernel⟩
theorem ctX12_least {G : Gl} {σ : Sg} {d : Dt} {v0 : Int32} {v1 : Int32} : CTv G yX12_least cX12_least 2 (some .int) 0 [.int v0, .int v1] σ d [.int (mX12_least v0 v1)] d := by
  refine CT_of pn_RX12 (Nat.le_of_ble_eq_true rfl) ?_
  generalize h : mX12_least v0 v1 = rr
  rw [mX12_least] at h
  refine V_iload_n (pc := 0) 0 dX12_least_0 rfl rfl ?_
  refine V_iload_n (pc := 1) 1 dX12_least_1 rfl rfl ?_
  refine V_icmp_ge (pc := 2) (tgt := 9) dX12_least_2 (by decide) (fun c1 => ?_) (fun c1 => ?_)
  · have h := ite_p c1 h
    refine V_iload_n (pc := 9) 1 dX12_least_9 rfl rfl ?_
    subst h
    exact V_ret (pc := 10) dX12_least_10 ⟨rfl, _, rfl⟩ ⟨rfl, rfl, rfl⟩
  · have h := ite_n c1 h
    refine V_iload_n (pc := 5) 0 dX12_least_5 rfl rfl ?_
    refine V_goto (pc := 6) (tgt := 10) dX12_least_6 (by decide) ?_
    subst h
    exact V_ret (pc := 10) dX12_least_10 ⟨rfl, _, rfl⟩ ⟨rfl, rfl, rfl⟩
theorem calX12_shared : Cal yX12_shared cX12_shared 4 (some .int) 4 := ⟨kw1593, kw11, by decide +kernel⟩
theorem ctX12_shared {G : Gl} {σ : Sg} {d : Dt} {v0 : Int32} {v1 : Int32} {v2 : Int32} {v3 : Int32} : CTv G yX12_shared cX12_shared 4 (some .int) 1 [.int v0, .int v1, .int v2, .int v3] σ d [.int (mX12_shared v0 v1 v2 v3)] d := by
  refine CT_of pn_RX12 (Nat.le_of_ble_eq_true rfl) ?_
  generalize h : mX12_shared v0 v1 v2 v3 = rr
  rw [mX12_shared] at h
  refine V_iload_n (pc := 0) 0 dX12_shared_0 rfl rfl ?_
  refine V_iload_n (pc := 1) 1 dX12_shared_1 rfl rfl ?_
  refine V_cS2 (pc := 2) dX12_shared_2 kw1594 calX12_most kw1595 (by decide) (Nat.le_of_ble_eq_true rfl) (ctX12_most) ?_
  refine V_iload_n (pc := 5) 2 dX12_shared_5 rfl rfl ?_
  refine V_iload_n (pc := 6) 3 dX12_shared_6 rfl rfl ?_
  refine V_cS2 (pc := 7) dX12_shared_7 kw1594 calX12_most kw1595 (by decide) (Nat.le_of_ble_eq_true rfl) (ctX12_most) ?_
  refine V_cS2 (pc := 10) dX12_shared_10 kw1597 calX12_least kw1598 (by decide) (Nat.le_of_ble_eq_true rfl) (ctX12_least) ?_
  refine V_iload_n (pc := 13) 0 dX12_shared_13 rfl rfl ?_
  refine V_iload_n (pc := 14) 1 dX12_shared_14 rfl rfl ?_
  refine V_cS2 (pc := 15) dX12_shared_15 kw1597 calX12_least kw1598 (by decide) (Nat.le_of_ble_eq_true rfl) (ctX12_least) ?_
  refine V_iload_n (pc := 18) 2 dX12_shared_18 rfl rfl ?_
  refine V_iload_n (pc := 19) 3 dX12_shared_19 rfl rfl ?_
  refine V_cS2 (pc := 20) dX12_shared_20 kw1597 calX12_least kw1598 (by decide) (Nat.le_of_ble_eq_true rfl) (ctX12_least) ?_
  refine V_cS2 (pc := 23) dX12_shared_23 kw1594 calX12_most kw1595 (by decide) (Nat.le_of_ble_eq_true rfl) (ctX12_most) ?_
  refine V_isub (pc := 26) dX12_shared_26 ?_
  refine V_iconst (pc := 27) (x := 1) dX12_shared_27 (by decide) ?_
  refine V_iadd (pc := 28) dX12_shared_28 ?_
  subst h
  exact V_ret (pc := 29) dX12_shared_29 ⟨rfl, _, rfl⟩ ⟨rfl, rfl, rfl⟩
theorem calX12_haveNode : Cal yX12_haveNode cX12_haveNode 3 (some .boolean) 2 := ⟨kw1603, kw11, by decide +kernel⟩
theorem ctX12_haveNode {G : Gl} {σ : Sg} {d : Dt} {r0 : Nat} {v1 : Int32} {v2 : Int32} {rr : Bool} (H0 : L11 σ r0) (h : mX12_haveNode r0 v1 v2 d = some rr) : CTv G yX12_haveNode cX12_haveNode 3 (some .boolean) 0 [.ref (gB G + r0), .int v1, .int v2] σ d [.int (b2i rr)] d := by
  refine CT_of pn_RX12 (Nat.le_of_ble_eq_true rfl) ?_
  rw [mX12_haveNode] at h
  refine V_aload_n (pc := 0) 0 dX12_haveNode_0 rfl rfl ?_
  refine V_getR (pc := 1) (c := 11) (k := 6) dX12_haveNode_1 (by decide) (by decide) kw1249 rfl rfl (L11_0 H0) (L11_r6 H0) ?_
  refine V_bipush (pc := 4) (x := 7) dX12_haveNode_4 (by decide) ?_
  refine V_iload_n (pc := 6) 1 dX12_haveNode_6 rfl rfl ?_
  refine V_iadd (pc := 7) dX12_haveNode_7 ?_
  obtain ⟨b1, h⟩ := ite_o h
  refine V_iald (pc := 8) dX12_haveNode_8 (L11_s6 H0) (inB_vp b1) ?_
  refine V_iload_n (pc := 9) 2 dX12_haveNode_9 rfl rfl ?_
  refine V_icmp_eq (pc := 10) (tgt := 47) dX12_haveNode_10 (by decide) (fun c2 => ?_) (fun c2 => ?_)
  · have h := ite_p c2 h
    refine V_iconst (pc := 47) (x := 1) dX12_haveNode_47 (by decide) ?_
    refine V_goto (pc := 48) (tgt := 52) dX12_haveNode_48 (by decide) ?_
    cases h
    exact V_ret (pc := 52) dX12_haveNode_52 ⟨rfl, _, rfl, rfl⟩ ⟨rfl, rfl, rfl⟩
  · have h := ite_n c2 h
    refine V_aload_n (pc := 13) 0 dX12_haveNode_13 rfl rfl ?_
    refine V_getR (pc := 14) (c := 11) (k := 6) dX12_haveNode_14 (by decide) (by decide) kw1249 rfl rfl (L11_0 H0) (L11_r6 H0) ?_
    refine V_bipush (pc := 17) (x := 7) dX12_haveNode_17 (by decide) ?_
    refine V_iload_n (pc := 19) 2 dX12_haveNode_19 rfl rfl ?_
    refine V_iadd (pc := 20) dX12_haveNode_20 ?_
    obtain ⟨b3, h⟩ := ite_o h
    refine V_iald (pc := 21) dX12_haveNode_21 (L11_s6 H0) (inB_vp b3) ?_
    refine V_iload_n (pc := 22) 1 dX12_haveNode_22 rfl rfl ?_
    refine V_icmp_eq (pc := 23) (tgt := 47) dX12_haveNode_23 (by decide) (fun c4 => ?_) (fun c4 => ?_)
    · have h := ite_p c4 h
      refine V_iconst (pc := 47) (x := 1) dX12_haveNode_47 (by decide) ?_
      refine V_goto (pc := 48) (tgt := 52) dX12_haveNode_48 (by decide) ?_
      cases h
      exact V_ret (pc := 52) dX12_haveNode_52 ⟨rfl, _, rfl, rfl⟩ ⟨rfl, rfl, rfl⟩
    · have h := ite_n c4 h
      refine V_aload_n (pc := 26) 0 dX12_haveNode_26 rfl rfl ?_
      refine V_getR (pc := 27) (c := 11) (k := 6) dX12_haveNode_27 (by decide) (by decide) kw1249 rfl rfl (L11_0 H0) (L11_r6 H0) ?_
      refine V_bipush (pc := 30) (x := 7) dX12_haveNode_30 (by decide) ?_
      refine V_iload_n (pc := 32) 1 dX12_haveNode_32 rfl rfl ?_
      refine V_iadd (pc := 33) dX12_haveNode_33 ?_
      obtain ⟨b5, h⟩ := ite_o h
      refine V_iald (pc := 34) dX12_haveNode_34 (L11_s6 H0) (inB_vp b5) ?_
      refine V_aload_n (pc := 35) 0 dX12_haveNode_35 rfl rfl ?_
      refine V_getR (pc := 36) (c := 11) (k := 6) dX12_haveNode_36 (by decide) (by decide) kw1249 rfl rfl (L11_0 H0) (L11_r6 H0) ?_
      refine V_bipush (pc := 39) (x := 7) dX12_haveNode_39 (by decide) ?_
      refine V_iload_n (pc := 41) 2 dX12_haveNode_41 rfl rfl ?_
      refine V_iadd (pc := 42) dX12_haveNode_42 ?_
      obtain ⟨b6, h⟩ := ite_o h
      refine V_iald (pc := 43) dX12_haveNode_43 (L11_s6 H0) (inB_vp b6) ?_
      refine V_icmp_ne (pc := 44) (tgt := 51) dX12_haveNode_44 (by decide) (fun c7 => ?_) (fun c7 => ?_)
      · have h := ite_n c7 h
        refine V_iconst (pc := 51) (x := 0) dX12_haveNode_51 (by decide) ?_
        cases h
        exact V_ret (pc := 52) dX12_haveNode_52 ⟨rfl, _, rfl, rfl⟩ ⟨rfl, rfl, rfl⟩
      · have h := ite_p c7 h
        refine V_iconst (pc := 47) (x := 1) dX12_haveNode_47 (by decide) ?_
        refine V_goto (pc := 48) (tgt := 52) dX12_haveNode_48 (by decide) ?_
        cases h
        exact V_ret (pc := 52) dX12_haveNode_52 ⟨rfl, _, rfl, rfl⟩ ⟨rfl, rfl, rfl⟩
theorem calX12_doMeet : Cal yX12_doMeet cX12_doMeet 7 (some .boolean) 2 := ⟨kw1590, kw11, by decide +kernel⟩
theorem ctX12_doMeet {G : Gl} {σ : Sg} {d : Dt} {r0 : Nat} {v1 : Int32} {v2 : Int32} {rr : Bool} (H0 : L11 σ r0) (h : mX12_doMeet r0 v1 v2 d = some rr) : CTv G yX12_doMeet cX12_doMeet 7 (some .boolean) 2 [.ref (gB G + r0), .int v1, .int v2] σ d [.int (b2i rr)] d := by
  refine CT_of pn_RX12 (Nat.le_of_ble_eq_true rfl) ?_
  rw [mX12_doMeet] at h
  refine V_aload_n (pc := 0) 0 dX12_doMeet_0 rfl rfl ?_
  refine V_getR (pc := 1) (c := 11) (k := 6) dX12_doMeet_1 (by decide) (by decide) kw1249 rfl rfl (L11_0 H0) (L11_r6 H0) ?_
  refine V_bipush (pc := 4) (x := 7) dX12_doMeet_4 (by decide) ?_
  refine V_iload_n (pc := 6) 1 dX12_doMeet_6 rfl rfl ?_
  refine V_iadd (pc := 7) dX12_doMeet_7 ?_
  obtain ⟨b1, h⟩ := ite_o h
  refine V_iald (pc := 8) dX12_doMeet_8 (L11_s6 H0) (inB_vp b1) ?_
  refine V_istore_n (pc := 9) (lv1 := [(3, _), (0, _), (1, _), (2, _)]) dX12_doMeet_9 rfl (by decide) rfl ?_
  refine V_aload_n (pc := 10) 1 dX12_doMeet_10 rfl rfl ?_
  refine V_getR (pc := 11) (c := 11) (k := 6) dX12_doMeet_11 (by decide) (by decide) kw1249 rfl rfl (L11_0 H0) (L11_r6 H0) ?_
  refine V_bipush (pc := 14) (x := 7) dX12_doMeet_14 (by decide) ?_
  refine V_iload_n (pc := 16) 3 dX12_doMeet_16 rfl rfl ?_
  refine V_iadd (pc := 17) dX12_doMeet_17 ?_
  obtain ⟨b2, h⟩ := ite_o h
  refine V_iald (pc := 18) dX12_doMeet_18 (L11_s6 H0) (inB_vp b2) ?_
  refine V_istore (pc := 19) (lv1 := [(4, _), (3, _), (0, _), (1, _), (2, _)]) dX12_doMeet_19 (by decide) rfl ?_
  refine V_aload_n (pc := 21) 2 dX12_doMeet_21 rfl rfl ?_
  refine V_getR (pc := 22) (c := 11) (k := 24) dX12_doMeet_22 (by decide) (by decide) kw1267 rfl rfl (L11_0 H0) (L11_r24 H0) ?_
  refine V_iload_n (pc := 25) 3 dX12_doMeet_25 rfl rfl ?_
  obtain ⟨b3, h⟩ := ite_o h
  refine V_iald (pc := 26) dX12_doMeet_26 (L11_s24 H0) (inB_vp b3) ?_
  refine V_aload_n (pc := 27) 2 dX12_doMeet_27 rfl rfl ?_
  refine V_getR (pc := 28) (c := 11) (k := 24) dX12_doMeet_28 (by decide) (by decide) kw1267 rfl rfl (L11_0 H0) (L11_r24 H0) ?_
  refine V_iload_n (pc := 31) 1 dX12_doMeet_31 rfl rfl ?_
  obtain ⟨b4, h⟩ := ite_o h
  refine V_iald (pc := 32) dX12_doMeet_32 (L11_s24 H0) (inB_vp b4) ?_
  refine V_aload_n (pc := 33) 2 dX12_doMeet_33 rfl rfl ?_
  refine V_getR (pc := 34) (c := 11) (k := 24) dX12_doMeet_34 (by decide) (by decide) kw1267 rfl rfl (L11_0 H0) (L11_r24 H0) ?_
  refine V_iload_n (pc := 37) 4 dX12_doMeet_37 rfl rfl ?_
  obtain ⟨b5, h⟩ := ite_o h
  refine V_iald (pc := 38) dX12_doMeet_38 (L11_s24 H0) (inB_vp b5) ?_
  refine V_aload_n (pc := 39) 2 dX12_doMeet_39 rfl rfl ?_
  refine V_getR (pc := 40) (c := 11) (k := 24) dX12_doMeet_40 (by decide) (by decide) kw1267 rfl rfl (L11_0 H0) (L11_r24 H0) ?_
  refine V_iload (pc := 43) 0 dX12_doMeet_43 rfl ?_
  obtain ⟨b6, h⟩ := ite_o h
  refine V_iald (pc := 45) dX12_doMeet_45 (L11_s24 H0) (inB_vp b6) ?_
  refine V_cS4 (pc := 46) dX12_doMeet_46 kw1591 calX12_shared kw1592 (by decide) (Nat.le_of_ble_eq_true rfl) (ctX12_shared) ?_
  refine V_istore (pc := 49) (lv1 := [(5, _), (4, _), (3, _), (0, _), (1, _), (2, _)]) dX12_doMeet_49 (by decide) rfl ?_
  refine V_aload_n (pc := 51) 3 dX12_doMeet_51 rfl rfl ?_
  refine V_getR (pc := 52) (c := 11) (k := 25) dX12_doMeet_52 (by decide) (by decide) kw1268 rfl rfl (L11_0 H0) (L11_r25 H0) ?_
  refine V_iload_n (pc := 55) 4 dX12_doMeet_55 rfl rfl ?_
  obtain ⟨b9, h⟩ := ite_o h
  refine V_iald (pc := 56) dX12_doMeet_56 (L11_s25 H0) (inB_vp b9) ?_
  refine V_aload_n (pc := 57) 3 dX12_doMeet_57 rfl rfl ?_
  refine V_getR (pc := 58) (c := 11) (k := 25) dX12_doMeet_58 (by decide) (by decide) kw1268 rfl rfl (L11_0 H0) (L11_r25 H0) ?_
  refine V_iload_n (pc := 61) 2 dX12_doMeet_61 rfl rfl ?_
  obtain ⟨b10, h⟩ := ite_o h
  refine V_iald (pc := 62) dX12_doMeet_62 (L11_s25 H0) (inB_vp b10) ?_
  refine V_aload_n (pc := 63) 3 dX12_doMeet_63 rfl rfl ?_
  refine V_getR (pc := 64) (c := 11) (k := 25) dX12_doMeet_64 (by decide) (by decide) kw1268 rfl rfl (L11_0 H0) (L11_r25 H0) ?_
  refine V_iload_n (pc := 67) 5 dX12_doMeet_67 rfl rfl ?_
  obtain ⟨b11, h⟩ := ite_o h
  refine V_iald (pc := 68) dX12_doMeet_68 (L11_s25 H0) (inB_vp b11) ?_
  refine V_aload_n (pc := 69) 3 dX12_doMeet_69 rfl rfl ?_
  refine V_getR (pc := 70) (c := 11) (k := 25) dX12_doMeet_70 (by decide) (by decide) kw1268 rfl rfl (L11_0 H0) (L11_r25 H0) ?_
  refine V_iload (pc := 73) 1 dX12_doMeet_73 rfl ?_
  obtain ⟨b12, h⟩ := ite_o h
  refine V_iald (pc := 75) dX12_doMeet_75 (L11_s25 H0) (inB_vp b12) ?_
  refine V_cS4 (pc := 76) dX12_doMeet_76 kw1591 calX12_shared kw1592 (by decide) (Nat.le_of_ble_eq_true rfl) (ctX12_shared) ?_
  refine V_istore (pc := 79) (lv1 := [(6, _), (5, _), (4, _), (3, _), (0, _), (1, _), (2, _)]) dX12_doMeet_79 (by decide) rfl ?_
  refine V_iload (pc := 81) 1 dX12_doMeet_81 rfl ?_
  refine V_if_le (pc := 83) (tgt := 117) dX12_doMeet_83 (by decide) (fun c15 => ?_) (fun c15 => ?_)
  · have h := ite_p c15 h
    refine V_iconst (pc := 117) (x := 0) dX12_doMeet_117 (by decide) ?_
    cases h
    exact V_ret (pc := 118) dX12_doMeet_118 ⟨rfl, _, rfl, rfl⟩ ⟨rfl, rfl, rfl⟩
  · have h := ite_n c15 h
    refine V_iload (pc := 86) 0 dX12_doMeet_86 rfl ?_
    refine V_if_le (pc := 88) (tgt := 117) dX12_doMeet_88 (by decide) (fun c16 => ?_) (fun c16 => ?_)
    · have h := ite_p c16 h
      refine V_iconst (pc := 117) (x := 0) dX12_doMeet_117 (by decide) ?_
      cases h
      exact V_ret (pc := 118) dX12_doMeet_118 ⟨rfl, _, rfl, rfl⟩ ⟨rfl, rfl, rfl⟩
    · have h := ite_n c16 h
      refine V_iload (pc := 91) 1 dX12_doMeet_91 rfl ?_
      refine V_iload (pc := 93) 0 dX12_doMeet_93 rfl ?_
      refine V_imul (pc := 95) dX12_doMeet_95 ?_
      refine V_aload_n (pc := 96) 4 dX12_doMeet_96 rfl rfl ?_
      refine V_iload_n (pc := 97) 5 dX12_doMeet_97 rfl rfl ?_
      refine V_iload_n (pc := 98) 6 dX12_doMeet_98 rfl rfl ?_
      obtain ⟨x18, h17, h⟩ := bnd h
      refine V_cV2 (pc := 99) dX12_doMeet_99 kw1600 calX12_haveNode kw1602 ks91 (L11_0 H0) rfl (by decide) (Nat.le_of_ble_eq_true rfl) (ctX12_haveNode H0 h17) ?_
      refine V_ifB_eq (pc := 102) (tgt := 109) dX12_doMeet_102 (by decide) (fun c19 => ?_) (fun c19 => ?_)
      · have h := ite_f c19 h
        refine V_iconst (pc := 109) (x := 0) dX12_doMeet_109 (by decide) ?_
        refine V_icmp_le (pc := 110) (tgt := 117) dX12_doMeet_110 (by decide) (fun c20 => ?_) (fun c20 => ?_)
        · have h := ite_p c20 h
          refine V_iconst (pc := 117) (x := 0) dX12_doMeet_117 (by decide) ?_
          cases h
          exact V_ret (pc := 118) dX12_doMeet_118 ⟨rfl, _, rfl, rfl⟩ ⟨rfl, rfl, rfl⟩
        · have h := ite_n c20 h
          refine V_iconst (pc := 113) (x := 1) dX12_doMeet_113 (by decide) ?_
          refine V_goto (pc := 114) (tgt := 118) dX12_doMeet_114 (by decide) ?_
          cases h
          exact V_ret (pc := 118) dX12_doMeet_118 ⟨rfl, _, rfl, rfl⟩ ⟨rfl, rfl, rfl⟩
      · have h := ite_p c19 h
        refine V_iconst (pc := 105) (x := 1) dX12_doMeet_105 (by decide) ?_
        refine V_goto (pc := 106) (tgt := 110) dX12_doMeet_106 (by decide) ?_
        refine V_icmp_le (pc := 110) (tgt := 117) dX12_doMeet_110 (by decide) (fun c21 => ?_) (fun c21 => ?_)
        · have h := ite_p c21 h
          refine V_iconst (pc := 117) (x := 0) dX12_doMeet_117 (by decide) ?_
          cases h
          exact V_ret (pc := 118) dX12_doMeet_118 ⟨rfl, _, rfl, rfl⟩ ⟨rfl, rfl, rfl⟩
        · have h := ite_n c21 h
          refine V_iconst (pc := 113) (x := 1) dX12_doMeet_113 (by decide) ?_
          refine V_goto (pc := 114) (tgt := 118) dX12_doMeet_114 (by decide) ?_
          cases h
          exact V_ret (pc := 118) dX12_doMeet_118 ⟨rfl, _, rfl, rfl⟩ ⟨rfl, rfl, rfl⟩
theorem wX12_laysPlaces_90 {G : Gl} {σ : Sg} {d : Dt} {g16 : Int32 → Dt → Option Dt} {r0 : Nat} {v1 : Int32} {v2 : Int32} {v3 : Int32} {v4 : Int32} {vs0 : Int32} {vs1 : Int32} {vs2 : Int32} {rs3 : Nat} {rr : Dt} (H0 : L11 σ r0) (Hs3 : σ.2.1 rs3 = some (1, 14)) (hg16 : ∀ (v1 : Int32) (d : Dt), g16 v1 d = some rr → V G yX12_laysPlaces cX12_laysPlaces 5 none 0 0 0 (PH [] σ rr) 16 [(0, .ref (gB G + r0)), (1, .int v1)] [] σ d) (h : mX12_laysPlaces_90 g16 r0 v1 v2 v3 v4 vs0 vs1 vs2 rs3 d = some rr) : V G yX12_laysPlaces cX12_laysPlaces 5 none 0 0 0 (PH [] σ rr) 90 [(0, .ref (gB G + r0)), (1, .int v1), (2, .int v2), (3, .int v3), (4, .int v4)] [.int vs0, .int vs1, .int vs2, .ref (gB G + rs3)] σ d := by
  rw [mX12_laysPlaces_90] at h
  refine V_iadd (pc := 90) dX12_laysPlaces_90 ?_
  obtain ⟨b11, h⟩ := ite_o h
  refine V_iast (pc := 91) dX12_laysPlaces_91 Hs3 (inB_vp b11) ?_
  refine V_aload_n (pc := 92) 0 dX12_laysPlaces_92 rfl rfl ?_
  refine V_getR (pc := 93) (c := 11) (k := 25) dX12_laysPlaces_93 (by decide) (by decide) kw1268 rfl rfl (L11_0 H0) (L11_r25 H0) ?_
  refine V_iload_n (pc := 96) 1 dX12_laysPlaces_96 rfl rfl ?_
  refine V_aload_n (pc := 97) 0 dX12_laysPlaces_97 rfl rfl ?_
  refine V_getR (pc := 98) (c := 11) (k := 25) dX12_laysPlaces_98 (by decide) (by decide) kw1268 rfl rfl (L11_0 H0) (L11_r25 H0) ?_
  refine V_iload_n (pc := 101) 2 dX12_laysPlaces_101 rfl rfl ?_
  obtain ⟨b12, h⟩ := ite_o h
  refine V_iald (pc := 102) dX12_laysPlaces_102 (L11_s25 H0) (inB_vp b12) ?_
  refine V_iload (pc := 103) 4 dX12_laysPlaces_103 rfl ?_
  refine V_if_ne (pc := 105) (tgt := 112) dX12_laysPlaces_105 (by decide) (fun c13 => ?_) (fun c13 => ?_)
  · have h := ite_n c13 h
    refine V_iload (pc := 112) 4 dX12_laysPlaces_112 rfl ?_
    refine V_iconst (pc := 114) (x := 2) dX12_laysPlaces_114 (by decide) ?_
    refine V_icmp_ne (pc := 115) (tgt := 123) dX12_laysPlaces_115 (by decide) (fun c14 => ?_) (fun c14 => ?_)
    · have h := ite_n c14 h
      refine V_iconst (pc := 123) (x := 0) dX12_laysPlaces_123 (by decide) ?_
      refine V_iadd (pc := 124) dX12_laysPlaces_124 ?_
      obtain ⟨b15, h⟩ := ite_o h
      refine V_iast (pc := 125) dX12_laysPlaces_125 (L11_s25 H0) (inB_vp b15) ?_
      refine V_iinc (pc := 126) (lv1 := [(1, _), (0, _), (2, _), (3, _), (4, _)]) (z := _ + (1 : Int32)) 1 dX12_laysPlaces_126 rfl rfl (by decide) rfl ?_
      refine V_goto (pc := 129) (tgt := 16) dX12_laysPlaces_129 (by decide) ?_
      exact V_sub [1, 0] rfl (hg16 (v1 + (1 : Int32)) (uI (uI d rs3 vs2.toNatClampNeg (vs1 + vs0)) (r0 + 9) v1.toNatClampNeg (((uI d rs3 vs2.toNatClampNeg (vs1 + vs0)).1 (r0 + 9) v2.toNatClampNeg) + (0 : Int32))) h)
    · have h := ite_p c14 h
      refine V_iload_n (pc := 118) 3 dX12_laysPlaces_118 rfl rfl ?_
      refine V_ineg (pc := 119) dX12_laysPlaces_119 ?_
      refine V_goto (pc := 120) (tgt := 124) dX12_laysPlaces_120 (by decide) ?_
      refine V_iadd (pc := 124) dX12_laysPlaces_124 ?_
      obtain ⟨b16, h⟩ := ite_o h
      refine V_iast (pc := 125) dX12_laysPlaces_125 (L11_s25 H0) (inB_vp b16) ?_
      refine V_iinc (pc := 126) (lv1 := [(1, _), (0, _), (2, _), (3, _), (4, _)]) (z := _ + (1 : Int32)) 1 dX12_laysPlaces_126 rfl rfl (by decide) rfl ?_
      refine V_goto (pc := 129) (tgt := 16) dX12_laysPlaces_129 (by decide) ?_
      exact V_sub [1, 0] rfl (hg16 (v1 + (1 : Int32)) (uI (uI d rs3 vs2.toNatClampNeg (vs1 + vs0)) (r0 + 9) v1.toNatClampNeg (((uI d rs3 vs2.toNatClampNeg (vs1 + vs0)).1 (r0 + 9) v2.toNatClampNeg) + (-v3))) h)
  · have h := ite_p c13 h
    refine V_iload_n (pc := 108) 3 dX12_laysPlaces_108 rfl rfl ?_
    refine V_goto (pc := 109) (tgt := 124) dX12_laysPlaces_109 (by decide) ?_
    refine V_iadd (pc := 124) dX12_laysPlaces_124 ?_
    obtain ⟨b17, h⟩ := ite_o h
    refine V_iast (pc := 125) dX12_laysPlaces_125 (L11_s25 H0) (inB_vp b17) ?_
    refine V_iinc (pc := 126) (lv1 := [(1, _), (0, _), (2, _), (3, _), (4, _)]) (z := _ + (1 : Int32)) 1 dX12_laysPlaces_126 rfl rfl (by decide) rfl ?_
    refine V_goto (pc := 129) (tgt := 16) dX12_laysPlaces_129 (by decide) ?_
    exact V_sub [1, 0] rfl (hg16 (v1 + (1 : Int32)) (uI (uI d rs3 vs2.toNatClampNeg (vs1 + vs0)) (r0 + 9) v1.toNatClampNeg (((uI d rs3 vs2.toNatClampNeg (vs1 + vs0)).1 (r0 + 9) v2.toNatClampNeg) + v3)) h)
theorem wX12_laysPlaces_16 {G : Gl} {σ : Sg} {r0 : Nat} {rr : Dt} (H0 : L11 σ r0) : ∀ (n : Nat) (v1 : Int32) (d : Dt), mX12_laysPlaces_16 r0 n v1 d = some rr → V G yX12_laysPlaces cX12_laysPlaces 5 none 0 0 0 (PH [] σ rr) 16 [(0, .ref (gB G + r0)), (1, .int v1)] [] σ d := by
  intro n
  induction n with
  | zero =>
    intro v1 d
    intros
    rename_i h
    exact absurd h (by rw [mX12_laysPlaces_16]; exact fun q => nomatch q)
  | succ n ih =>
    intro v1 d h
    rw [mX12_laysPlaces_16] at h
    refine V_iload_n (pc := 16) 1 dX12_laysPlaces_16 rfl rfl ?_
    refine V_aload_n (pc := 17) 0 dX12_laysPlaces_17 rfl rfl ?_
    refine V_getR (pc := 18) (c := 11) (k := 6) dX12_laysPlaces_18 (by decide) (by decide) kw1249 rfl rfl (L11_0 H0) (L11_r6 H0) ?_
    refine V_iconst (pc := 21) (x := 2) dX12_laysPlaces_21 (by decide) ?_
    obtain ⟨b3, h⟩ := ite_o h
    refine V_iald (pc := 22) dX12_laysPlaces_22 (L11_s6 H0) (inB_vp b3) ?_
    refine V_icmp_ge (pc := 23) (tgt := 132) dX12_laysPlaces_23 (by decide) (fun c4 => ?_) (fun c4 => ?_)
    · have h := ite_p c4 h
      cases h
      exact V_ret (pc := 132) dX12_laysPlaces_132 ⟨rfl, rfl⟩ ⟨rfl, rfl, rfl⟩
    · have h := ite_n c4 h
      refine V_aload_n (pc := 26) 0 dX12_laysPlaces_26 rfl rfl ?_
      refine V_getR (pc := 27) (c := 11) (k := 6) dX12_laysPlaces_27 (by decide) (by decide) kw1249 rfl rfl (L11_0 H0) (L11_r6 H0) ?_
      refine V_bipush (pc := 30) (x := 7) dX12_laysPlaces_30 (by decide) ?_
      refine V_iload_n (pc := 32) 1 dX12_laysPlaces_32 rfl rfl ?_
      refine V_iadd (pc := 33) dX12_laysPlaces_33 ?_
      obtain ⟨b5, h⟩ := ite_o h
      refine V_iald (pc := 34) dX12_laysPlaces_34 (L11_s6 H0) (inB_vp b5) ?_
      refine V_istore_n (pc := 35) (lv1 := [(2, _), (0, _), (1, _)]) dX12_laysPlaces_35 rfl (by decide) rfl ?_
      refine V_aload_n (pc := 36) 1 dX12_laysPlaces_36 rfl rfl ?_
      refine V_getR (pc := 37) (c := 11) (k := 6) dX12_laysPlaces_37 (by decide) (by decide) kw1249 rfl rfl (L11_0 H0) (L11_r6 H0) ?_
      refine V_bipush (pc := 40) (x := 21) dX12_laysPlaces_40 (by decide) ?_
      refine V_iload_n (pc := 42) 2 dX12_laysPlaces_42 rfl rfl ?_
      refine V_iadd (pc := 43) dX12_laysPlaces_43 ?_
      obtain ⟨b6, h⟩ := ite_o h
      refine V_iald (pc := 44) dX12_laysPlaces_44 (L11_s6 H0) (inB_vp b6) ?_
      refine V_istore_n (pc := 45) (lv1 := [(3, _), (2, _), (0, _), (1, _)]) dX12_laysPlaces_45 rfl (by decide) rfl ?_
      refine V_aload_n (pc := 46) 2 dX12_laysPlaces_46 rfl rfl ?_
      refine V_getR (pc := 47) (c := 11) (k := 6) dX12_laysPlaces_47 (by decide) (by decide) kw1249 rfl rfl (L11_0 H0) (L11_r6 H0) ?_
      refine V_bipush (pc := 50) (x := 35) dX12_laysPlaces_50 (by decide) ?_
      refine V_iload_n (pc := 52) 3 dX12_laysPlaces_52 rfl rfl ?_
      refine V_iadd (pc := 53) dX12_laysPlaces_53 ?_
      obtain ⟨b7, h⟩ := ite_o h
      refine V_iald (pc := 54) dX12_laysPlaces_54 (L11_s6 H0) (inB_vp b7) ?_
      refine V_istore (pc := 55) (lv1 := [(4, _), (3, _), (2, _), (0, _), (1, _)]) dX12_laysPlaces_55 (by decide) rfl ?_
      refine V_aload_n (pc := 57) 3 dX12_laysPlaces_57 rfl rfl ?_
      refine V_getR (pc := 58) (c := 11) (k := 24) dX12_laysPlaces_58 (by decide) (by decide) kw1267 rfl rfl (L11_0 H0) (L11_r24 H0) ?_
      refine V_iload_n (pc := 61) 4 dX12_laysPlaces_61 rfl rfl ?_
      refine V_aload_n (pc := 62) 3 dX12_laysPlaces_62 rfl rfl ?_
      refine V_getR (pc := 63) (c := 11) (k := 24) dX12_laysPlaces_63 (by decide) (by decide) kw1267 rfl rfl (L11_0 H0) (L11_r24 H0) ?_
      refine V_iload_n (pc := 66) 2 dX12_laysPlaces_66 rfl rfl ?_
      obtain ⟨b8, h⟩ := ite_o h
      refine V_iald (pc := 67) dX12_laysPlaces_67 (L11_s24 H0) (inB_vp b8) ?_
      refine V_iload (pc := 68) 0 dX12_laysPlaces_68 rfl ?_
      refine V_iconst (pc := 70) (x := 1) dX12_laysPlaces_70 (by decide) ?_
      refine V_icmp_ne (pc := 71) (tgt := 78) dX12_laysPlaces_71 (by decide) (fun c9 => ?_) (fun c9 => ?_)
      · have h := ite_n c9 h
        refine V_iload (pc := 78) 0 dX12_laysPlaces_78 rfl ?_
        refine V_iconst (pc := 80) (x := 3) dX12_laysPlaces_80 (by decide) ?_
        refine V_icmp_ne (pc := 81) (tgt := 89) dX12_laysPlaces_81 (by decide) (fun c10 => ?_) (fun c10 => ?_)
        · have h := ite_n c10 h
          refine V_iconst (pc := 89) (x := 0) dX12_laysPlaces_89 (by decide) ?_
          exact V_sub [3, 4, 2, 1, 0] rfl (wX12_laysPlaces_90 H0 (L11_s24 H0) ih h)
        · have h := ite_p c10 h
          refine V_iload_n (pc := 84) 1 dX12_laysPlaces_84 rfl rfl ?_
          refine V_ineg (pc := 85) dX12_laysPlaces_85 ?_
          refine V_goto (pc := 86) (tgt := 90) dX12_laysPlaces_86 (by decide) ?_
          exact V_sub [3, 4, 2, 1, 0] rfl (wX12_laysPlaces_90 H0 (L11_s24 H0) ih h)
      · have h := ite_p c9 h
        refine V_iload_n (pc := 74) 1 dX12_laysPlaces_74 rfl rfl ?_
        refine V_goto (pc := 75) (tgt := 90) dX12_laysPlaces_75 (by decide) ?_
        exact V_sub [3, 4, 2, 1, 0] rfl (wX12_laysPlaces_90 H0 (L11_s24 H0) ih h)
theorem calX12_laysPlaces : Cal yX12_laysPlaces cX12_laysPlaces 5 none 0 := ⟨kw1582, kw11, by decide +kernel⟩
theorem ctX12_laysPlaces {G : Gl} {σ : Sg} {d : Dt} {r0 : Nat} {rr : Dt} (H0 : L11 σ r0) (h : mX12_laysPlaces r0 d = some rr) : CTv G yX12_laysPlaces cX12_laysPlaces 5 none 0 [.ref (gB G + r0)] σ d [] rr := by
  refine CT_of pn_RX12 (Nat.le_of_ble_eq_true rfl) ?_
  rw [mX12_laysPlaces] at h
  refine V_aload_n (pc := 0) 0 dX12_laysPlaces_0 rfl rfl ?_
  refine V_getR (pc := 1) (c := 11) (k := 24) dX12_laysPlaces_1 (by decide) (by decide) kw1267 rfl rfl (L11_0 H0) (L11_r24 H0) ?_
  refine V_iconst (pc := 4) (x := 0) dX12_laysPlaces_4 (by decide) ?_
  refine V_iconst (pc := 5) (x := 0) dX12_laysPlaces_5 (by decide) ?_
  obtain ⟨b1, h⟩ := ite_o h
  refine V_iast (pc := 6) dX12_laysPlaces_6 (L11_s24 H0) (inB_vp b1) ?_
  refine V_aload_n (pc := 7) 0 dX12_laysPlaces_7 rfl rfl ?_
  refine V_getR (pc := 8) (c := 11) (k := 25) dX12_laysPlaces_8 (by decide) (by decide) kw1268 rfl rfl (L11_0 H0) (L11_r25 H0) ?_
  refine V_iconst (pc := 11) (x := 0) dX12_laysPlaces_11 (by decide) ?_
  refine V_iconst (pc := 12) (x := 0) dX12_laysPlaces_12 (by decide) ?_
  obtain ⟨b2, h⟩ := ite_o h
  refine V_iast (pc := 13) dX12_laysPlaces_13 (L11_s25 H0) (inB_vp b2) ?_
  refine V_iconst (pc := 14) (x := 1) dX12_laysPlaces_14 (by decide) ?_
  refine V_istore_n (pc := 15) (lv1 := [(1, _), (0, _)]) dX12_laysPlaces_15 rfl (by decide) rfl ?_
  exact V_sub [1, 0] rfl (wX12_laysPlaces_16 H0 FUEL (1 : Int32) (uI (uI d (r0 + 8) (0 : Int32).toNatClampNeg (0 : Int32)) (r0 + 9) (0 : Int32).toNatClampNeg (0 : Int32)) h)
theorem wX12_extent_74 {G : Gl} {σ : Sg} {d : Dt} {g44 : Int32 → Int32 → Dt → Option (Int32 × Dt)} {r0 : Nat} {v1 : Int32} {v2 : Int32} {v3 : Int32} {vs0 : Int32} {rr : Int32 × Dt} (H0 : L11 σ r0) (hg44 : ∀ (v2 : Int32) (v3 : Int32) (d : Dt), g44 v2 v3 d = some rr → V G yX12_extent cX12_extent 5 (some .int) 2 0 0 (PH [.int rr.1] σ rr.2) 44 [(0, .ref (gB G + r0)), (1, .int v1), (2, .int v2), (3, .int v3)] [] σ d) (h : mX12_extent_74 g44 r0 v1 v2 v3 vs0 d = some rr) : V G yX12_extent cX12_extent 5 (some .int) 2 0 0 (PH [.int rr.1] σ rr.2) 74 [(0, .ref (gB G + r0)), (1, .int v1), (2, .int v2), (3, .int v3)] [.int vs0] σ d := by
  rw [mX12_extent_74] at h
  refine V_istore (pc := 74) (lv1 := [(4, _), (0, _), (1, _), (2, _), (3, _)]) dX12_extent_74 (by decide) rfl ?_
  refine V_iload_n (pc := 76) 2 dX12_extent_76 rfl rfl ?_
  refine V_iconst (pc := 77) (x := 2) dX12_extent_77 (by decide) ?_
  refine V_irem (pc := 78) dX12_extent_78 (by decide) ?_
  refine V_if_ne (pc := 79) (tgt := 91) dX12_extent_79 (by decide) (fun c19 => ?_) (fun c19 => ?_)
  · have h := ite_n c19 h
    refine V_iload_n (pc := 91) 3 dX12_extent_91 rfl rfl ?_
    refine V_iload (pc := 92) 0 dX12_extent_92 rfl ?_
    refine V_cS2 (pc := 94) dX12_extent_94 kw1594 calX12_most kw1595 (by decide) (Nat.le_of_ble_eq_true rfl) (ctX12_most) ?_
    refine V_istore_n (pc := 97) (lv1 := [(2, _), (4, _), (0, _), (1, _), (3, _)]) dX12_extent_97 rfl (by decide) rfl ?_
    refine V_iinc (pc := 98) (lv1 := [(3, _), (2, _), (4, _), (0, _), (1, _)]) (z := _ + (1 : Int32)) 4 dX12_extent_98 rfl rfl (by decide) rfl ?_
    refine V_goto (pc := 101) (tgt := 44) dX12_extent_101 (by decide) ?_
    exact V_sub [3, 4, 1, 0] rfl (hg44 (mX12_most v2 vs0) (v3 + (1 : Int32)) d h)
  · have h := ite_p c19 h
    refine V_iload_n (pc := 82) 3 dX12_extent_82 rfl rfl ?_
    refine V_iload (pc := 83) 0 dX12_extent_83 rfl ?_
    refine V_cS2 (pc := 85) dX12_extent_85 kw1597 calX12_least kw1598 (by decide) (Nat.le_of_ble_eq_true rfl) (ctX12_least) ?_
    refine V_goto (pc := 88) (tgt := 97) dX12_extent_88 (by decide) ?_
    refine V_istore_n (pc := 97) (lv1 := [(2, _), (4, _), (0, _), (1, _), (3, _)]) dX12_extent_97 rfl (by decide) rfl ?_
    refine V_iinc (pc := 98) (lv1 := [(3, _), (2, _), (4, _), (0, _), (1, _)]) (z := _ + (1 : Int32)) 4 dX12_extent_98 rfl rfl (by decide) rfl ?_
    refine V_goto (pc := 101) (tgt := 44) dX12_extent_101 (by decide) ?_
    exact V_sub [3, 4, 1, 0] rfl (hg44 (mX12_least v2 vs0) (v3 + (1 : Int32)) d h)
theorem wX12_extent_44 {G : Gl} {σ : Sg} {r0 : Nat} {v1 : Int32} {rr : Int32 × Dt} (H0 : L11 σ r0) : ∀ (n : Nat) (v2 : Int32) (v3 : Int32) (d : Dt), mX12_extent_44 r0 v1 n v2 v3 d = some rr → V G yX12_extent cX12_extent 5 (some .int) 2 0 0 (PH [.int rr.1] σ rr.2) 44 [(0, .ref (gB G + r0)), (1, .int v1), (2, .int v2), (3, .int v3)] [] σ d := by
  intro n
  induction n with
  | zero =>
    intro v2 v3 d
    intros
    rename_i h
    exact absurd h (by rw [mX12_extent_44]; exact fun q => nomatch q)
  | succ n ih =>
    intro v2 v3 d h
    rw [mX12_extent_44] at h
    refine V_iload_n (pc := 44) 3 dX12_extent_44 rfl rfl ?_
    refine V_aload_n (pc := 45) 0 dX12_extent_45 rfl rfl ?_
    refine V_getR (pc := 46) (c := 11) (k := 6) dX12_extent_46 (by decide) (by decide) kw1249 rfl rfl (L11_0 H0) (L11_r6 H0) ?_
    refine V_iconst (pc := 49) (x := 2) dX12_extent_49 (by decide) ?_
    obtain ⟨b14, h⟩ := ite_o h
    refine V_iald (pc := 50) dX12_extent_50 (L11_s6 H0) (inB_vp b14) ?_
    refine V_icmp_ge (pc := 51) (tgt := 104) dX12_extent_51 (by decide) (fun c15 => ?_) (fun c15 => ?_)
    · have h := ite_p c15 h
      refine V_iload_n (pc := 104) 2 dX12_extent_104 rfl rfl ?_
      cases h
      exact V_ret (pc := 105) dX12_extent_105 ⟨rfl, _, rfl⟩ ⟨rfl, rfl, rfl⟩
    · have h := ite_n c15 h
      refine V_iload_n (pc := 54) 1 dX12_extent_54 rfl rfl ?_
      refine V_iconst (pc := 55) (x := 2) dX12_extent_55 (by decide) ?_
      refine V_icmp_ge (pc := 56) (tgt := 68) dX12_extent_56 (by decide) (fun c16 => ?_) (fun c16 => ?_)
      · have h := ite_p c16 h
        refine V_aload_n (pc := 68) 0 dX12_extent_68 rfl rfl ?_
        refine V_getR (pc := 69) (c := 11) (k := 25) dX12_extent_69 (by decide) (by decide) kw1268 rfl rfl (L11_0 H0) (L11_r25 H0) ?_
        refine V_iload_n (pc := 72) 3 dX12_extent_72 rfl rfl ?_
        obtain ⟨b17, h⟩ := ite_o h
        refine V_iald (pc := 73) dX12_extent_73 (L11_s25 H0) (inB_vp b17) ?_
        exact V_sub [0, 1, 2, 3] rfl (wX12_extent_74 H0 ih h)
      · have h := ite_n c16 h
        refine V_aload_n (pc := 59) 0 dX12_extent_59 rfl rfl ?_
        refine V_getR (pc := 60) (c := 11) (k := 24) dX12_extent_60 (by decide) (by decide) kw1267 rfl rfl (L11_0 H0) (L11_r24 H0) ?_
        refine V_iload_n (pc := 63) 3 dX12_extent_63 rfl rfl ?_
        obtain ⟨b18, h⟩ := ite_o h
        refine V_iald (pc := 64) dX12_extent_64 (L11_s24 H0) (inB_vp b18) ?_
        refine V_goto (pc := 65) (tgt := 74) dX12_extent_65 (by decide) ?_
        exact V_sub [0, 1, 2, 3] rfl (wX12_extent_74 H0 ih h)
theorem wX12_extent_23 {G : Gl} {σ : Sg} {d : Dt} {r0 : Nat} {v1 : Int32} {vs0 : Int32} {rs1 : Nat} {rr : Int32 × Dt} (H0 : L11 σ r0) (Hs1 : L11 σ rs1) (h : mX12_extent_23 r0 v1 vs0 rs1 d = some rr) : V G yX12_extent cX12_extent 5 (some .int) 2 0 0 (PH [.int rr.1] σ rr.2) 23 [(0, .ref (gB G + r0)), (1, .int v1)] [.int vs0, .ref (gB G + rs1)] σ d := by
  rw [mX12_extent_23] at h
  refine V_cS1 (pc := 23) dX12_extent_23 kw1523 calX12_unless kw1524 (by decide) (Nat.le_of_ble_eq_true rfl) (ctX12_unless) ?_
  refine V_cV1 (pc := 26) dX12_extent_26 kw1368 calX12_isRefused kw1370 ks54 (L11_0 Hs1) rfl (by decide) (Nat.le_of_ble_eq_true rfl) (ctX12_isRefused Hs1) ?_
  refine V_ifB_eq (pc := 29) (tgt := 36) dX12_extent_29 (by decide) (fun c11 => ?_) (fun c11 => ?_)
  · have h := ite_f c11 h
    refine V_aload_n (pc := 36) 0 dX12_extent_36 rfl rfl ?_
    obtain ⟨x13, h12, h⟩ := bnd h
    refine V_cV0 (pc := 37) dX12_extent_37 kw1579 calX12_laysPlaces kw1581 ks89 (L11_0 H0) rfl (by decide) (Nat.le_of_ble_eq_true rfl) (ctX12_laysPlaces H0 h12) ?_
    refine V_iconst (pc := 40) (x := 0) dX12_extent_40 (by decide) ?_
    refine V_istore_n (pc := 41) (lv1 := [(2, _), (0, _), (1, _)]) dX12_extent_41 rfl (by decide) rfl ?_
    refine V_iconst (pc := 42) (x := 0) dX12_extent_42 (by decide) ?_
    refine V_istore_n (pc := 43) (lv1 := [(3, _), (2, _), (0, _), (1, _)]) dX12_extent_43 rfl (by decide) rfl ?_
    exact V_sub [2, 3, 1, 0] rfl (wX12_extent_44 H0 FUEL (0 : Int32) (0 : Int32) x13 h)
  · have h := ite_p c11 h
    refine V_ldcw (pc := 32) dX12_extent_32 kw1578 ?_
    cases h
    exact V_ret (pc := 35) dX12_extent_35 ⟨rfl, _, rfl⟩ ⟨rfl, rfl, rfl⟩
theorem calX12_extent : Cal yX12_extent cX12_extent 5 (some .int) 1 := ⟨kw1615, kw11, by decide +kernel⟩
theorem ctX12_extent {G : Gl} {σ : Sg} {d : Dt} {r0 : Nat} {v1 : Int32} {rr : Int32 × Dt} (H0 : L11 σ r0) (h : mX12_extent r0 v1 d = some rr) : CTv G yX12_extent cX12_extent 5 (some .int) 2 [.ref (gB G + r0), .int v1] σ d [.int rr.1] rr.2 := by
  refine CT_of pn_RX12 (Nat.le_of_ble_eq_true rfl) ?_
  rw [mX12_extent] at h
  refine V_aload_n (pc := 0) 0 dX12_extent_0 rfl rfl ?_
  refine V_aload_n (pc := 1) 0 dX12_extent_1 rfl rfl ?_
  refine V_iconst (pc := 2) (x := 0) dX12_extent_2 (by decide) ?_
  obtain ⟨x2, h1, h⟩ := bnd h
  refine V_cV1 (pc := 3) dX12_extent_3 kw1534 calX12_isNode kw1536 ks83 (L11_0 H0) rfl (by decide) (Nat.le_of_ble_eq_true rfl) (ctX12_isNode H0 h1) ?_
  refine V_ifB_eq (pc := 6) (tgt := 22) dX12_extent_6 (by decide) (fun c3 => ?_) (fun c3 => ?_)
  · have h := ite_f c3 h
    refine V_iconst (pc := 22) (x := 0) dX12_extent_22 (by decide) ?_
    exact V_sub [0, 1] rfl (wX12_extent_23 H0 H0 h)
  · have h := ite_p c3 h
    refine V_iload_n (pc := 9) 1 dX12_extent_9 rfl rfl ?_
    refine V_iconst (pc := 10) (x := 0) dX12_extent_10 (by decide) ?_
    refine V_iconst (pc := 11) (x := 3) dX12_extent_11 (by decide) ?_
    refine V_cS3 (pc := 12) dX12_extent_12 kw1365 calX12_in kw1366 (by decide) (Nat.le_of_ble_eq_true rfl) (ctX12_in) ?_
    refine V_ifB_eq (pc := 15) (tgt := 22) dX12_extent_15 (by decide) (fun c6 => ?_) (fun c6 => ?_)
    · have h := ite_f c6 h
      refine V_iconst (pc := 22) (x := 0) dX12_extent_22 (by decide) ?_
      exact V_sub [0, 1] rfl (wX12_extent_23 H0 H0 h)
    · have h := ite_p c6 h
      refine V_iconst (pc := 18) (x := 1) dX12_extent_18 (by decide) ?_
      refine V_goto (pc := 19) (tgt := 23) dX12_extent_19 (by decide) ?_
      exact V_sub [0, 1] rfl (wX12_extent_23 H0 H0 h)
theorem calX12_familiesWhy : Cal yX12_familiesWhy cX12_familiesWhy 2 (some .int) 1 := ⟨kw1834, kw11, by decide +kernel⟩
theorem ctX12_familiesWhy {G : Gl} {σ : Sg} {d : Dt} {r0 : Nat} {v1 : Int32} {rr : Int32} (H0 : L11 σ r0) (h : mX12_familiesWhy r0 v1 d = some rr) : CTv G yX12_familiesWhy cX12_familiesWhy 2 (some .int) 1 [.ref (gB G + r0), .int v1] σ d [.int rr] d := by
  refine CT_of pn_RX12 (Nat.le_of_ble_eq_true rfl) ?_
  rw [mX12_familiesWhy] at h
  refine V_aload_n (pc := 0) 0 dX12_familiesWhy_0 rfl rfl ?_
  refine V_getI (pc := 1) (c := 11) (k := 14) dX12_familiesWhy_1 (by decide) (by decide) kw1257 rfl rfl (L11_0 H0) ?_
  refine V_if_ne (pc := 4) (tgt := 11) dX12_familiesWhy_4 (by decide) (fun c1 => ?_) (fun c1 => ?_)
  · have h := ite_n c1 h
    refine V_iload_n (pc := 11) 1 dX12_familiesWhy_11 rfl rfl ?_
    refine V_iconst (pc := 12) (x := 1) dX12_familiesWhy_12 (by decide) ?_
    refine V_iconst (pc := 13) (x := 5) dX12_familiesWhy_13 (by decide) ?_
    refine V_cS3 (pc := 14) dX12_familiesWhy_14 kw1365 calX12_in kw1366 (by decide) (Nat.le_of_ble_eq_true rfl) (ctX12_in) ?_
    refine V_ifB_ne (pc := 17) (tgt := 24) dX12_familiesWhy_17 (by decide) (fun c4 => ?_) (fun c4 => ?_)
    · have h := ite_p c4 h
      refine V_aload_n (pc := 24) 0 dX12_familiesWhy_24 rfl rfl ?_
      refine V_getR (pc := 25) (c := 11) (k := 6) dX12_familiesWhy_25 (by decide) (by decide) kw1249 rfl rfl (L11_0 H0) (L11_r6 H0) ?_
      refine V_bipush (pc := 28) (x := 6) dX12_familiesWhy_28 (by decide) ?_
      obtain ⟨b5, h⟩ := ite_o h
      refine V_iald (pc := 30) dX12_familiesWhy_30 (L11_s6 H0) (inB_vp b5) ?_
      refine V_if_ne (pc := 31) (tgt := 38) dX12_familiesWhy_31 (by decide) (fun c6 => ?_) (fun c6 => ?_)
      · have h := ite_n c6 h
        refine V_iconst (pc := 38) (x := 0) dX12_familiesWhy_38 (by decide) ?_
        cases h
        exact V_ret (pc := 39) dX12_familiesWhy_39 ⟨rfl, _, rfl⟩ ⟨rfl, rfl, rfl⟩
      · have h := ite_p c6 h
        refine V_iconst (pc := 34) (x := 5) dX12_familiesWhy_34 (by decide) ?_
        refine V_goto (pc := 35) (tgt := 39) dX12_familiesWhy_35 (by decide) ?_
        cases h
        exact V_ret (pc := 39) dX12_familiesWhy_39 ⟨rfl, _, rfl⟩ ⟨rfl, rfl, rfl⟩
    · have h := ite_f c4 h
      refine V_iconst (pc := 20) (x := 2) dX12_familiesWhy_20 (by decide) ?_
      refine V_goto (pc := 21) (tgt := 39) dX12_familiesWhy_21 (by decide) ?_
      cases h
      exact V_ret (pc := 39) dX12_familiesWhy_39 ⟨rfl, _, rfl⟩ ⟨rfl, rfl, rfl⟩
  · have h := ite_p c1 h
    refine V_iconst (pc := 7) (x := 1) dX12_familiesWhy_7 (by decide) ?_
    refine V_goto (pc := 8) (tgt := 39) dX12_familiesWhy_8 (by decide) ?_
    cases h
    exact V_ret (pc := 39) dX12_familiesWhy_39 ⟨rfl, _, rfl⟩ ⟨rfl, rfl, rfl⟩
theorem calX12_manyOf : Cal yX12_manyOf cX12_manyOf 2 (some .int) 1 := ⟨kw1826, kw11, by decide +kernel⟩
theorem ctX12_manyOf {G : Gl} {σ : Sg} {d : Dt} {r0 : Nat} {v1 : Int32} {rr : Int32} (H0 : L11 σ r0) (h : mX12_manyOf r0 v1 d = some rr) : CTv G yX12_manyOf cX12_manyOf 2 (some .int) 0 [.ref (gB G + r0), .int v1] σ d [.int rr] d := by
  refine CT_of pn_RX12 (Nat.le_of_ble_eq_true rfl) ?_
  rw [mX12_manyOf] at h
  refine V_aload_n (pc := 0) 0 dX12_manyOf_0 rfl rfl ?_
  refine V_getR (pc := 1) (c := 11) (k := 6) dX12_manyOf_1 (by decide) (by decide) kw1249 rfl rfl (L11_0 H0) (L11_r6 H0) ?_
  refine V_sipush (pc := 4) (x := 257) dX12_manyOf_4 (by decide) ?_
  refine V_iconst (pc := 7) (x := 2) dX12_manyOf_7 (by decide) ?_
  refine V_iload_n (pc := 8) 1 dX12_manyOf_8 rfl rfl ?_
  refine V_imul (pc := 9) dX12_manyOf_9 ?_
  refine V_iadd (pc := 10) dX12_manyOf_10 ?_
  refine V_iconst (pc := 11) (x := 1) dX12_manyOf_11 (by decide) ?_
  refine V_iadd (pc := 12) dX12_manyOf_12 ?_
  obtain ⟨b1, h⟩ := ite_o h
  refine V_iald (pc := 13) dX12_manyOf_13 (L11_s6 H0) (inB_vp b1) ?_
  cases h
  exact V_ret (pc := 14) dX12_manyOf_14 ⟨rfl, _, rfl⟩ ⟨rfl, rfl, rfl⟩
theorem wX12_wireOfGroups_51 {G : Gl} {σ : Sg} {d : Dt} {g4 : Int32 → Int32 → Option Int32} {g18 : Int32 → Int32 → Int32 → Option Int32} {r0 : Nat} {v1 : Int32} {v2 : Int32} {v3 : Int32} {v5 : Int32} {v6 : Int32} {vs0 : Int32} {vs1 : Int32} {rr : Int32} (H0 : L11 σ r0) (hg4 : ∀ (v2 : Int32) (v3 : Int32), g4 v2 v3 = some rr → V G yX12_wireOfGroups cX12_wireOfGroups 7 (some .int) 7 0 0 (PH [.int rr] σ d) 4 [(0, .ref (gB G + r0)), (1, .int v1), (2, .int v2), (3, .int v3)] [] σ d) (hg18 : ∀ (v4 : Int32) (v5 : Int32) (v6 : Int32), g18 v4 v5 v6 = some rr → V G yX12_wireOfGroups cX12_wireOfGroups 7 (some .int) 7 0 0 (PH [.int rr] σ d) 18 [(0, .ref (gB G + r0)), (1, .int v1), (2, .int v2), (3, .int v3), (4, .int v4), (5, .int v5), (6, .int v6)] [] σ d) (h : mX12_wireOfGroups_51 g4 g18 d r0 v1 v2 v3 v5 v6 vs0 vs1 = some rr) : V G yX12_wireOfGroups cX12_wireOfGroups 7 (some .int) 7 0 0 (PH [.int rr] σ d) 51 [(0, .ref (gB G + r0)), (1, .int v1), (2, .int v2), (3, .int v3), (5, .int v5), (6, .int v6)] [.int vs0, .int vs1] σ d := by
  rw [mX12_wireOfGroups_51] at h
  refine V_ior (pc := 51) dX12_wireOfGroups_51 ?_
  refine V_istore (pc := 52) (lv1 := [(4, _), (0, _), (1, _), (2, _), (3, _), (5, _), (6, _)]) dX12_wireOfGroups_52 (by decide) rfl ?_
  refine V_iload (pc := 54) 5 dX12_wireOfGroups_54 rfl ?_
  refine V_aload_n (pc := 56) 1 dX12_wireOfGroups_56 rfl rfl ?_
  refine V_getR (pc := 57) (c := 11) (k := 28) dX12_wireOfGroups_57 (by decide) (by decide) kw1271 rfl rfl (L11_0 H0) (L11_r28 H0) ?_
  refine V_iload (pc := 60) 6 dX12_wireOfGroups_60 rfl ?_
  obtain ⟨b8, h⟩ := ite_o h
  refine V_iald (pc := 62) dX12_wireOfGroups_62 (L11_s28 H0) (inB_vp b8) ?_
  refine V_iload_n (pc := 63) 4 dX12_wireOfGroups_63 rfl rfl ?_
  refine V_icmp_ne (pc := 64) (tgt := 76) dX12_wireOfGroups_64 (by decide) (fun c9 => ?_) (fun c9 => ?_)
  · have h := ite_n c9 h
    refine V_iconst (pc := 76) (x := 0) dX12_wireOfGroups_76 (by decide) ?_
    refine V_iadd (pc := 77) dX12_wireOfGroups_77 ?_
    refine V_istore (pc := 78) (lv1 := [(5, _), (4, _), (0, _), (1, _), (2, _), (3, _), (6, _)]) dX12_wireOfGroups_78 (by decide) rfl ?_
    refine V_iinc (pc := 80) (lv1 := [(6, _), (5, _), (4, _), (0, _), (1, _), (2, _), (3, _)]) (z := _ + (1 : Int32)) 6 dX12_wireOfGroups_80 rfl rfl (by decide) rfl ?_
    refine V_goto (pc := 83) (tgt := 18) dX12_wireOfGroups_83 (by decide) ?_
    exact V_sub [3, 4, 5, 6, 2, 1, 0] rfl (hg18 (vs1 ||| vs0) (v5 + (0 : Int32)) (v6 + (1 : Int32)) h)
  · have h := ite_p c9 h
    refine V_aload_n (pc := 67) 1 dX12_wireOfGroups_67 rfl rfl ?_
    refine V_iload (pc := 68) 6 dX12_wireOfGroups_68 rfl ?_
    obtain ⟨x11, h10, h⟩ := bnd h
    refine V_cV1 (pc := 70) dX12_wireOfGroups_70 kw1823 calX12_manyOf kw1825 ks119 (L11_0 H0) rfl (by decide) (Nat.le_of_ble_eq_true rfl) (ctX12_manyOf H0 h10) ?_
    refine V_goto (pc := 73) (tgt := 77) dX12_wireOfGroups_73 (by decide) ?_
    refine V_iadd (pc := 77) dX12_wireOfGroups_77 ?_
    refine V_istore (pc := 78) (lv1 := [(5, _), (4, _), (0, _), (1, _), (2, _), (3, _), (6, _)]) dX12_wireOfGroups_78 (by decide) rfl ?_
    refine V_iinc (pc := 80) (lv1 := [(6, _), (5, _), (4, _), (0, _), (1, _), (2, _), (3, _)]) (z := _ + (1 : Int32)) 6 dX12_wireOfGroups_80 rfl rfl (by decide) rfl ?_
    refine V_goto (pc := 83) (tgt := 18) dX12_wireOfGroups_83 (by decide) ?_
    exact V_sub [3, 4, 5, 6, 2, 1, 0] rfl (hg18 (vs1 ||| vs0) (v5 + x11) (v6 + (1 : Int32)) h)
theorem wX12_wireOfGroups_18 {G : Gl} {σ : Sg} {d : Dt} {g4 : Int32 → Int32 → Option Int32} {r0 : Nat} {v1 : Int32} {v2 : Int32} {v3 : Int32} {rr : Int32} (H0 : L11 σ r0) (hg4 : ∀ (v2 : Int32) (v3 : Int32), g4 v2 v3 = some rr → V G yX12_wireOfGroups cX12_wireOfGroups 7 (some .int) 7 0 0 (PH [.int rr] σ d) 4 [(0, .ref (gB G + r0)), (1, .int v1), (2, .int v2), (3, .int v3)] [] σ d) : ∀ (n : Nat) (v4 : Int32) (v5 : Int32) (v6 : Int32), mX12_wireOfGroups_18 g4 d r0 v1 v2 v3 n v4 v5 v6 = some rr → V G yX12_wireOfGroups cX12_wireOfGroups 7 (some .int) 7 0 0 (PH [.int rr] σ d) 18 [(0, .ref (gB G + r0)), (1, .int v1), (2, .int v2), (3, .int v3), (4, .int v4), (5, .int v5), (6, .int v6)] [] σ d := by
  intro n
  induction n with
  | zero =>
    intro v4 v5 v6
    intros
    rename_i h
    exact absurd h (by rw [mX12_wireOfGroups_18]; exact fun q => nomatch q)
  | succ n ih =>
    intro v4 v5 v6 h
    rw [mX12_wireOfGroups_18] at h
    refine V_iload (pc := 18) 6 dX12_wireOfGroups_18 rfl ?_
    refine V_aload_n (pc := 20) 0 dX12_wireOfGroups_20 rfl rfl ?_
    refine V_getR (pc := 21) (c := 11) (k := 6) dX12_wireOfGroups_21 (by decide) (by decide) kw1249 rfl rfl (L11_0 H0) (L11_r6 H0) ?_
    refine V_bipush (pc := 24) (x := 6) dX12_wireOfGroups_24 (by decide) ?_
    obtain ⟨b2, h⟩ := ite_o h
    refine V_iald (pc := 26) dX12_wireOfGroups_26 (L11_s6 H0) (inB_vp b2) ?_
    refine V_icmp_ge (pc := 27) (tgt := 86) dX12_wireOfGroups_27 (by decide) (fun c3 => ?_) (fun c3 => ?_)
    · have h := ite_p c3 h
      refine V_iload_n (pc := 86) 2 dX12_wireOfGroups_86 rfl rfl ?_
      refine V_aload_n (pc := 87) 0 dX12_wireOfGroups_87 rfl rfl ?_
      refine V_iload (pc := 88) 4 dX12_wireOfGroups_88 rfl ?_
      obtain ⟨x5, h4, h⟩ := bnd h
      refine V_cV1 (pc := 90) dX12_wireOfGroups_90 kw1807 calX12_commonOf kw1809 ks117 (L11_0 H0) rfl (by decide) (Nat.le_of_ble_eq_true rfl) (ctX12_commonOf H0 h4) ?_
      refine V_iload (pc := 93) 5 dX12_wireOfGroups_93 rfl ?_
      refine V_imul (pc := 95) dX12_wireOfGroups_95 ?_
      refine V_iadd (pc := 96) dX12_wireOfGroups_96 ?_
      refine V_istore_n (pc := 97) (lv1 := [(2, _), (0, _), (1, _), (3, _), (4, _), (5, _), (6, _)]) dX12_wireOfGroups_97 rfl (by decide) rfl ?_
      refine V_iinc (pc := 98) (lv1 := [(3, _), (2, _), (0, _), (1, _), (4, _), (5, _), (6, _)]) (z := _ + (1 : Int32)) 3 dX12_wireOfGroups_98 rfl rfl (by decide) rfl ?_
      refine V_goto (pc := 101) (tgt := 4) dX12_wireOfGroups_101 (by decide) ?_
      exact V_sub [2, 3, 1, 0] rfl (hg4 (v2 + (x5 * v5)) (v3 + (1 : Int32)) h)
    · have h := ite_n c3 h
      refine V_iload (pc := 30) 4 dX12_wireOfGroups_30 rfl ?_
      refine V_aload_n (pc := 32) 0 dX12_wireOfGroups_32 rfl rfl ?_
      refine V_getR (pc := 33) (c := 11) (k := 28) dX12_wireOfGroups_33 (by decide) (by decide) kw1271 rfl rfl (L11_0 H0) (L11_r28 H0) ?_
      refine V_iload (pc := 36) 6 dX12_wireOfGroups_36 rfl ?_
      obtain ⟨b6, h⟩ := ite_o h
      refine V_iald (pc := 38) dX12_wireOfGroups_38 (L11_s28 H0) (inB_vp b6) ?_
      refine V_iload_n (pc := 39) 3 dX12_wireOfGroups_39 rfl rfl ?_
      refine V_icmp_ne (pc := 40) (tgt := 50) dX12_wireOfGroups_40 (by decide) (fun c7 => ?_) (fun c7 => ?_)
      · have h := ite_n c7 h
        refine V_iconst (pc := 50) (x := 0) dX12_wireOfGroups_50 (by decide) ?_
        exact V_sub [0, 1, 2, 3, 5, 6] rfl (wX12_wireOfGroups_51 H0 hg4 ih h)
      · have h := ite_p c7 h
        refine V_iconst (pc := 43) (x := 1) dX12_wireOfGroups_43 (by decide) ?_
        refine V_iload (pc := 44) 6 dX12_wireOfGroups_44 rfl ?_
        refine V_ishl (pc := 46) dX12_wireOfGroups_46 ?_
        refine V_goto (pc := 47) (tgt := 51) dX12_wireOfGroups_47 (by decide) ?_
        exact V_sub [0, 1, 2, 3, 5, 6] rfl (wX12_wireOfGroups_51 H0 hg4 ih h)
theorem wX12_wireOfGroups_4 {G : Gl} {σ : Sg} {d : Dt} {r0 : Nat} {v1 : Int32} {rr : Int32} (H0 : L11 σ r0) : ∀ (n : Nat) (v2 : Int32) (v3 : Int32), mX12_wireOfGroups_4 d r0 v1 n v2 v3 = some rr → V G yX12_wireOfGroups cX12_wireOfGroups 7 (some .int) 7 0 0 (PH [.int rr] σ d) 4 [(0, .ref (gB G + r0)), (1, .int v1), (2, .int v2), (3, .int v3)] [] σ d := by
  intro n
  induction n with
  | zero =>
    intro v2 v3
    intros
    rename_i h
    exact absurd h (by rw [mX12_wireOfGroups_4]; exact fun q => nomatch q)
  | succ n ih =>
    intro v2 v3 h
    rw [mX12_wireOfGroups_4] at h
    refine V_iload_n (pc := 4) 3 dX12_wireOfGroups_4 rfl rfl ?_
    refine V_iload_n (pc := 5) 1 dX12_wireOfGroups_5 rfl rfl ?_
    refine V_icmp_ge (pc := 6) (tgt := 104) dX12_wireOfGroups_6 (by decide) (fun c1 => ?_) (fun c1 => ?_)
    · have h := ite_p c1 h
      refine V_iload_n (pc := 104) 2 dX12_wireOfGroups_104 rfl rfl ?_
      cases h
      exact V_ret (pc := 105) dX12_wireOfGroups_105 ⟨rfl, _, rfl⟩ ⟨rfl, rfl, rfl⟩
    · have h := ite_n c1 h
      refine V_iconst (pc := 9) (x := 0) dX12_wireOfGroups_9 (by decide) ?_
      refine V_istore (pc := 10) (lv1 := [(4, _), (0, _), (1, _), (2, _), (3, _)]) dX12_wireOfGroups_10 (by decide) rfl ?_
      refine V_iconst (pc := 12) (x := 0) dX12_wireOfGroups_12 (by decide) ?_
      refine V_istore (pc := 13) (lv1 := [(5, _), (4, _), (0, _), (1, _), (2, _), (3, _)]) dX12_wireOfGroups_13 (by decide) rfl ?_
      refine V_iconst (pc := 15) (x := 0) dX12_wireOfGroups_15 (by decide) ?_
      refine V_istore (pc := 16) (lv1 := [(6, _), (5, _), (4, _), (0, _), (1, _), (2, _), (3, _)]) dX12_wireOfGroups_16 (by decide) rfl ?_
      exact V_sub [3, 4, 5, 6, 2, 1, 0] rfl (wX12_wireOfGroups_18 H0 ih FUEL (0 : Int32) (0 : Int32) (0 : Int32) h)
theorem calX12_wireOfGroups : Cal yX12_wireOfGroups cX12_wireOfGroups 7 (some .int) 1 := ⟨kw1846, kw11, by decide +kernel⟩
theorem ctX12_wireOfGroups {G : Gl} {σ : Sg} {d : Dt} {r0 : Nat} {v1 : Int32} {rr : Int32} (H0 : L11 σ r0) (h : mX12_wireOfGroups r0 v1 d = some rr) : CTv G yX12_wireOfGroups cX12_wireOfGroups 7 (some .int) 7 [.ref (gB G + r0), .int v1] σ d [.int rr] d := by
  refine CT_of pn_RX12 (Nat.le_of_ble_eq_true rfl) ?_
  rw [mX12_wireOfGroups] at h
  refine V_iconst (pc := 0) (x := 0) dX12_wireOfGroups_0 (by decide) ?_
  refine V_istore_n (pc := 1) (lv1 := [(2, _), (0, _), (1, _)]) dX12_wireOfGroups_1 rfl (by decide) rfl ?_
  refine V_iconst (pc := 2) (x := 0) dX12_wireOfGroups_2 (by decide) ?_
  refine V_istore_n (pc := 3) (lv1 := [(3, _), (2, _), (0, _), (1, _)]) dX12_wireOfGroups_3 rfl (by decide) rfl ?_
  exact V_sub [2, 3, 1, 0] rfl (wX12_wireOfGroups_4 H0 FUEL (0 : Int32) (0 : Int32) h)
theorem calX12_tries : Cal yX12_tries cX12_tries 6 none 3 := ⟨kw1842, kw11, by decide +kernel⟩
theorem wX12_tries_78 {G : Gl} {σ : Sg} {D : Nat} {rc : Int32 → Int32 → Int32 → Dt → Option Dt} {r0 : Nat} {v1 : Int32} {v2 : Int32} {v3 : Int32} {rr : Dt} (H0 : L11 σ r0) (hD : 8 ≤ D) (hrc : ∀ (v1 : Int32) (v2 : Int32) (v3 : Int32) (d : Dt) (rr : Dt), rc v1 v2 v3 d = some rr → CTv G yX12_tries cX12_tries 6 none D [.ref (gB G + r0), .int v1, .int v2, .int v3] σ d [] rr) : ∀ (n : Nat) (v4 : Int32) (d : Dt), mX12_tries_78 rc r0 v1 v2 v3 n v4 d = some rr → V G yX12_tries cX12_tries 6 none (D + 1) 0 0 (PH [] σ rr) 78 [(0, .ref (gB G + r0)), (1, .int v1), (2, .int v2), (3, .int v3), (4, .int v4)] [] σ d := by
  intro n
  induction n with
  | zero =>
    intro v4 d
    intros
    rename_i h
    exact absurd h (by rw [mX12_tries_78]; exact fun q => nomatch q)
  | succ n ih =>
    intro v4 d h
    rw [mX12_tries_78] at h
    refine V_iload (pc := 78) 4 dX12_tries_78 rfl ?_
    refine V_iload_n (pc := 80) 2 dX12_tries_80 rfl rfl ?_
    refine V_icmp_gt (pc := 81) (tgt := 125) dX12_tries_81 (by decide) (fun c7 => ?_) (fun c7 => ?_)
    · have h := ite_p c7 h
      cases h
      exact V_ret (pc := 125) dX12_tries_125 ⟨rfl, rfl⟩ ⟨rfl, rfl, rfl⟩
    · have h := ite_n c7 h
      refine V_iload (pc := 84) 4 dX12_tries_84 rfl ?_
      refine V_iload_n (pc := 86) 3 dX12_tries_86 rfl rfl ?_
      refine V_icmp_ge (pc := 87) (tgt := 125) dX12_tries_87 (by decide) (fun c8 => ?_) (fun c8 => ?_)
      · have h := ite_p c8 h
        cases h
        exact V_ret (pc := 125) dX12_tries_125 ⟨rfl, rfl⟩ ⟨rfl, rfl, rfl⟩
      · have h := ite_n c8 h
        refine V_aload_n (pc := 90) 0 dX12_tries_90 rfl rfl ?_
        refine V_getR (pc := 91) (c := 11) (k := 28) dX12_tries_91 (by decide) (by decide) kw1271 rfl rfl (L11_0 H0) (L11_r28 H0) ?_
        refine V_iload_n (pc := 94) 1 dX12_tries_94 rfl rfl ?_
        refine V_iload (pc := 95) 4 dX12_tries_95 rfl ?_
        obtain ⟨b9, h⟩ := ite_o h
        refine V_iast (pc := 97) dX12_tries_97 (L11_s28 H0) (inB_vp b9) ?_
        refine V_aload_n (pc := 98) 0 dX12_tries_98 rfl rfl ?_
        refine V_iload_n (pc := 99) 1 dX12_tries_99 rfl rfl ?_
        refine V_iconst (pc := 100) (x := 1) dX12_tries_100 (by decide) ?_
        refine V_iadd (pc := 101) dX12_tries_101 ?_
        refine V_iload (pc := 102) 4 dX12_tries_102 rfl ?_
        refine V_iload_n (pc := 104) 2 dX12_tries_104 rfl rfl ?_
        refine V_icmp_ne (pc := 105) (tgt := 114) dX12_tries_105 (by decide) (fun c10 => ?_) (fun c10 => ?_)
        · have h := ite_n c10 h
          refine V_iload_n (pc := 114) 2 dX12_tries_114 rfl rfl ?_
          refine V_iload_n (pc := 115) 3 dX12_tries_115 rfl rfl ?_
          obtain ⟨x12, h11, h⟩ := bnd h
          refine V_cV3 (pc := 116) dX12_tries_116 kw1839 calX12_tries kw1841 ks122 (L11_0 H0) rfl ⟨by omega, by omega⟩ (Nat.le_of_ble_eq_true rfl) (hrc (v1 + (1 : Int32)) v2 v3 (uI d (r0 + 11) v1.toNatClampNeg v4) _ h11) ?_
          refine V_iinc (pc := 119) (lv1 := [(4, _), (0, _), (1, _), (2, _), (3, _)]) (z := _ + (1 : Int32)) 4 dX12_tries_119 rfl rfl (by decide) rfl ?_
          refine V_goto (pc := 122) (tgt := 78) dX12_tries_122 (by decide) ?_
          exact V_sub [1, 2, 3, 4, 0] rfl (ih (v4 + (1 : Int32)) x12 h)
        · have h := ite_p c10 h
          refine V_iload_n (pc := 108) 2 dX12_tries_108 rfl rfl ?_
          refine V_iconst (pc := 109) (x := 1) dX12_tries_109 (by decide) ?_
          refine V_iadd (pc := 110) dX12_tries_110 ?_
          refine V_goto (pc := 111) (tgt := 115) dX12_tries_111 (by decide) ?_
          refine V_iload_n (pc := 115) 3 dX12_tries_115 rfl rfl ?_
          obtain ⟨x14, h13, h⟩ := bnd h
          refine V_cV3 (pc := 116) dX12_tries_116 kw1839 calX12_tries kw1841 ks122 (L11_0 H0) rfl ⟨by omega, by omega⟩ (Nat.le_of_ble_eq_true rfl) (hrc (v1 + (1 : Int32)) (v2 + (1 : Int32)) v3 (uI d (r0 + 11) v1.toNatClampNeg v4) _ h13) ?_
          refine V_iinc (pc := 119) (lv1 := [(4, _), (0, _), (1, _), (2, _), (3, _)]) (z := _ + (1 : Int32)) 4 dX12_tries_119 rfl rfl (by decide) rfl ?_
          refine V_goto (pc := 122) (tgt := 78) dX12_tries_122 (by decide) ?_
          exact V_sub [1, 2, 3, 4, 0] rfl (ih (v4 + (1 : Int32)) x14 h)
theorem wX12_tries_48 {G : Gl} {σ : Sg} {D : Nat} {rc : Int32 → Int32 → Int32 → Dt → Option Dt} {r0 : Nat} {rr : Dt} (H0 : L11 σ r0) (hD : 8 ≤ D) (hrc : ∀ (v1 : Int32) (v2 : Int32) (v3 : Int32) (d : Dt) (rr : Dt), rc v1 v2 v3 d = some rr → CTv G yX12_tries cX12_tries 6 none D [.ref (gB G + r0), .int v1, .int v2, .int v3] σ d [] rr) : ∀ (n : Nat) (v5 : Int32) (d : Dt), mX12_tries_48 rc r0 n v5 d = some rr → V G yX12_tries cX12_tries 6 none (D + 1) 0 0 (PH [] σ rr) 48 [(0, .ref (gB G + r0)), (5, .int v5)] [] σ d := by
  intro n
  induction n with
  | zero =>
    intro v5 d
    intros
    rename_i h
    exact absurd h (by rw [mX12_tries_48]; exact fun q => nomatch q)
  | succ n ih =>
    intro v5 d h
    rw [mX12_tries_48] at h
    refine V_iload (pc := 48) 1 dX12_tries_48 rfl ?_
    refine V_iconst (pc := 50) (x := 5) dX12_tries_50 (by decide) ?_
    refine V_icmp_ge (pc := 51) (tgt := 74) dX12_tries_51 (by decide) (fun c15 => ?_) (fun c15 => ?_)
    · have h := ite_p c15 h
      cases h
      exact V_ret (pc := 74) dX12_tries_74 ⟨rfl, rfl⟩ ⟨rfl, rfl, rfl⟩
    · have h := ite_n c15 h
      refine V_aload_n (pc := 54) 0 dX12_tries_54 rfl rfl ?_
      refine V_getR (pc := 55) (c := 11) (k := 29) dX12_tries_55 (by decide) (by decide) kw1272 rfl rfl (L11_0 H0) (L11_r29 H0) ?_
      refine V_iload (pc := 58) 1 dX12_tries_58 rfl ?_
      refine V_aload_n (pc := 60) 0 dX12_tries_60 rfl rfl ?_
      refine V_getR (pc := 61) (c := 11) (k := 28) dX12_tries_61 (by decide) (by decide) kw1271 rfl rfl (L11_0 H0) (L11_r28 H0) ?_
      refine V_iload (pc := 64) 1 dX12_tries_64 rfl ?_
      obtain ⟨b16, h⟩ := ite_o h
      refine V_iald (pc := 66) dX12_tries_66 (L11_s28 H0) (inB_vp b16) ?_
      obtain ⟨b17, h⟩ := ite_o h
      refine V_iast (pc := 67) dX12_tries_67 (L11_s29 H0) (inB_vp b17) ?_
      refine V_iinc (pc := 68) (lv1 := [(5, _), (0, _)]) (z := _ + (1 : Int32)) 1 dX12_tries_68 rfl rfl (by decide) rfl ?_
      refine V_goto (pc := 71) (tgt := 48) dX12_tries_71 (by decide) ?_
      exact V_sub [1, 0] rfl (ih (v5 + (1 : Int32)) (uI d (r0 + 12) v5.toNatClampNeg (d.1 (r0 + 11) v5.toNatClampNeg)) h)
theorem ctX12_tries {G : Gl} {σ : Sg} {r0 : Nat} (H0 : L11 σ r0) : ∀ (n : Nat) (v1 : Int32) (v2 : Int32) (v3 : Int32) (d : Dt) (rr : Dt), mX12_tries n r0 v1 v2 v3 d = some rr → CTv G yX12_tries cX12_tries 6 none (8 + n) [.ref (gB G + r0), .int v1, .int v2, .int v3] σ d [] rr := by
  intro n
  induction n with
  | zero =>
    intro v1 v2 v3 d rr h
    exact absurd h (by rw [mX12_tries]; exact fun q => nomatch q)
  | succ n ih =>
    intro v1 v2 v3 d rr h
    rw [mX12_tries] at h
    have hrc := ih
    have hD : 8 ≤ 8 + n := Nat.le_add_right _ _
    generalize mX12_tries n r0 = rc at h hrc
    generalize hDD : 8 + n = D at hD hrc
    rw [show 8 + (n + 1) = D + 1 by omega]
    refine CT_of pn_RX12 (Nat.le_of_ble_eq_true rfl) ?_
    refine V_iload_n (pc := 0) 1 dX12_tries_0 rfl rfl ?_
    refine V_aload_n (pc := 1) 0 dX12_tries_1 rfl rfl ?_
    refine V_getR (pc := 2) (c := 11) (k := 6) dX12_tries_2 (by decide) (by decide) kw1249 rfl rfl (L11_0 H0) (L11_r6 H0) ?_
    refine V_bipush (pc := 5) (x := 6) dX12_tries_5 (by decide) ?_
    obtain ⟨b1, h⟩ := ite_o h
    refine V_iald (pc := 7) dX12_tries_7 (L11_s6 H0) (inB_vp b1) ?_
    refine V_icmp_ne (pc := 8) (tgt := 75) dX12_tries_8 (by decide) (fun c2 => ?_) (fun c2 => ?_)
    · have h := ite_n c2 h
      refine V_iconst (pc := 75) (x := 0) dX12_tries_75 (by decide) ?_
      refine V_istore (pc := 76) (lv1 := [(4, _), (0, _), (1, _), (2, _), (3, _)]) dX12_tries_76 (by decide) rfl ?_
      exact V_sub [1, 2, 3, 4, 0] rfl (wX12_tries_78 H0 hD hrc FUEL (0 : Int32) d h)
    · have h := ite_p c2 h
      refine V_aload_n (pc := 11) 0 dX12_tries_11 rfl rfl ?_
      refine V_iload_n (pc := 12) 2 dX12_tries_12 rfl rfl ?_
      obtain ⟨x4, h3, h⟩ := bnd h
      refine V_cV1 (pc := 13) dX12_tries_13 kw1843 calX12_wireOfGroups kw1845 ks123 (L11_0 H0) rfl ⟨by omega, by omega⟩ (Nat.le_of_ble_eq_true rfl) (ctX12_wireOfGroups H0 h3) ?_
      refine V_istore (pc := 16) (lv1 := [(4, _), (0, _), (1, _), (2, _), (3, _)]) dX12_tries_16 (by decide) rfl ?_
      refine V_aload_n (pc := 18) 1 dX12_tries_18 rfl rfl ?_
      refine V_getI (pc := 19) (c := 11) (k := 31) dX12_tries_19 (by decide) (by decide) kw1274 rfl rfl (L11_0 H0) ?_
      refine V_if_eq (pc := 22) (tgt := 34) dX12_tries_22 (by decide) (fun c5 => ?_) (fun c5 => ?_)
      · have h := ite_p c5 h
        refine V_aload_n (pc := 34) 1 dX12_tries_34 rfl rfl ?_
        refine V_iload (pc := 35) 0 dX12_tries_35 rfl ?_
        refine V_putI (pc := 37) (c := 11) (k := 30) dX12_tries_37 (by decide) (by decide) kw1273 rfl rfl rfl ⟨rfl, rfl⟩ (L11_0 H0) ?_
        refine V_aload_n (pc := 40) 1 dX12_tries_40 rfl rfl ?_
        refine V_iload_n (pc := 41) 3 dX12_tries_41 rfl rfl ?_
        refine V_putI (pc := 42) (c := 11) (k := 31) dX12_tries_42 (by decide) (by decide) kw1274 rfl rfl rfl ⟨rfl, rfl⟩ (L11_0 H0) ?_
        refine V_iconst (pc := 45) (x := 0) dX12_tries_45 (by decide) ?_
        refine V_istore (pc := 46) (lv1 := [(5, _), (4, _), (0, _), (1, _), (2, _), (3, _)]) dX12_tries_46 (by decide) rfl ?_
        exact V_sub [2, 0] rfl (wX12_tries_48 H0 hD hrc FUEL (0 : Int32) (uI (uI d r0 30 x4) r0 31 v2) h)
      · have h := ite_n c5 h
        refine V_iload (pc := 25) 0 dX12_tries_25 rfl ?_
        refine V_aload_n (pc := 27) 1 dX12_tries_27 rfl rfl ?_
        refine V_getI (pc := 28) (c := 11) (k := 30) dX12_tries_28 (by decide) (by decide) kw1273 rfl rfl (L11_0 H0) ?_
        refine V_icmp_ge (pc := 31) (tgt := 74) dX12_tries_31 (by decide) (fun c6 => ?_) (fun c6 => ?_)
        · have h := ite_p c6 h
          cases h
          exact V_ret (pc := 74) dX12_tries_74 ⟨rfl, rfl⟩ ⟨rfl, rfl, rfl⟩
        · have h := ite_n c6 h
          refine V_aload_n (pc := 34) 1 dX12_tries_34 rfl rfl ?_
          refine V_iload (pc := 35) 0 dX12_tries_35 rfl ?_
          refine V_putI (pc := 37) (c := 11) (k := 30) dX12_tries_37 (by decide) (by decide) kw1273 rfl rfl rfl ⟨rfl, rfl⟩ (L11_0 H0) ?_
          refine V_aload_n (pc := 40) 1 dX12_tries_40 rfl rfl ?_
          refine V_iload_n (pc := 41) 3 dX12_tries_41 rfl rfl ?_
          refine V_putI (pc := 42) (c := 11) (k := 31) dX12_tries_42 (by decide) (by decide) kw1274 rfl rfl rfl ⟨rfl, rfl⟩ (L11_0 H0) ?_
          refine V_iconst (pc := 45) (x := 0) dX12_tries_45 (by decide) ?_
          refine V_istore (pc := 46) (lv1 := [(5, _), (4, _), (0, _), (1, _), (2, _), (3, _)]) dX12_tries_46 (by decide) rfl ?_
          exact V_sub [2, 0] rfl (wX12_tries_48 H0 hD hrc FUEL (0 : Int32) (uI (uI d r0 30 x4) r0 31 v2) h)
theorem calX12_laysFamilies : Cal yX12_laysFamilies cX12_laysFamilies 2 none 1 := ⟨kw1838, kw11, by decide +kernel⟩
theorem ctX12_laysFamilies {G : Gl} {σ : Sg} {d : Dt} {r0 : Nat} {v1 : Int32} {rr : Dt} (H0 : L11 σ r0) (h : mX12_laysFamilies r0 v1 d = some rr) : CTv G yX12_laysFamilies cX12_laysFamilies 2 none 16 [.ref (gB G + r0), .int v1] σ d [] rr := by
  refine CT_of pn_RX12 (Nat.le_of_ble_eq_true rfl) ?_
  rw [mX12_laysFamilies] at h
  refine V_aload_n (pc := 0) 0 dX12_laysFamilies_0 rfl rfl ?_
  refine V_iconst (pc := 1) (x := 0) dX12_laysFamilies_1 (by decide) ?_
  refine V_putI (pc := 2) (c := 11) (k := 31) dX12_laysFamilies_2 (by decide) (by decide) kw1274 rfl rfl rfl ⟨rfl, rfl⟩ (L11_0 H0) ?_
  refine V_aload_n (pc := 5) 0 dX12_laysFamilies_5 rfl rfl ?_
  refine V_iconst (pc := 6) (x := 0) dX12_laysFamilies_6 (by decide) ?_
  refine V_iconst (pc := 7) (x := 0) dX12_laysFamilies_7 (by decide) ?_
  refine V_iload_n (pc := 8) 1 dX12_laysFamilies_8 rfl rfl ?_
  obtain ⟨x2, h1, h⟩ := bnd h
  refine V_cV3 (pc := 9) dX12_laysFamilies_9 kw1839 calX12_tries kw1841 ks122 (L11_0 H0) rfl (by decide) (Nat.le_of_ble_eq_true rfl) (ctX12_tries H0 7 _ _ _ _ _ h1) ?_
  cases h
  exact V_ret (pc := 12) dX12_laysFamilies_12 ⟨rfl, rfl⟩ ⟨rfl, rfl, rfl⟩
theorem calX12_families : Cal yX12_families cX12_families 2 (some .int) 1 := ⟨kw1830, kw11, by decide +kernel⟩
theorem ctX12_families {G : Gl} {σ : Sg} {d : Dt} {r0 : Nat} {v1 : Int32} {rr : Int32 × Dt} (H0 : L11 σ r0) (h : mX12_families r0 v1 d = some rr) : CTv G yX12_families cX12_families 2 (some .int) 17 [.ref (gB G + r0), .int v1] σ d [.int rr.1] rr.2 := by
  refine CT_of pn_RX12 (Nat.le_of_ble_eq_true rfl) ?_
  rw [mX12_families] at h
  refine V_aload_n (pc := 0) 0 dX12_families_0 rfl rfl ?_
  refine V_aload_n (pc := 1) 0 dX12_families_1 rfl rfl ?_
  refine V_iload_n (pc := 2) 1 dX12_families_2 rfl rfl ?_
  obtain ⟨x2, h1, h⟩ := bnd h
  refine V_cV1 (pc := 3) dX12_families_3 kw1831 calX12_familiesWhy kw1833 ks120 (L11_0 H0) rfl (by decide) (Nat.le_of_ble_eq_true rfl) (ctX12_familiesWhy H0 h1) ?_
  refine V_cV1 (pc := 6) dX12_families_6 kw1368 calX12_isRefused kw1370 ks54 (L11_0 H0) rfl (by decide) (Nat.le_of_ble_eq_true rfl) (ctX12_isRefused H0) ?_
  refine V_ifB_eq (pc := 9) (tgt := 14) dX12_families_9 (by decide) (fun c5 => ?_) (fun c5 => ?_)
  · have h := ite_f c5 h
    refine V_aload_n (pc := 14) 0 dX12_families_14 rfl rfl ?_
    refine V_iload_n (pc := 15) 1 dX12_families_15 rfl rfl ?_
    obtain ⟨x7, h6, h⟩ := bnd h
    refine V_cV1 (pc := 16) dX12_families_16 kw1835 calX12_laysFamilies kw1837 ks121 (L11_0 H0) rfl (by decide) (Nat.le_of_ble_eq_true rfl) (ctX12_laysFamilies H0 h6) ?_
    refine V_aload_n (pc := 19) 0 dX12_families_19 rfl rfl ?_
    refine V_getI (pc := 20) (c := 11) (k := 30) dX12_families_20 (by decide) (by decide) kw1273 rfl rfl (L11_0 H0) ?_
    cases h
    exact V_ret (pc := 23) dX12_families_23 ⟨rfl, _, rfl⟩ ⟨rfl, rfl, rfl⟩
  · have h := ite_p c5 h
    refine V_iconst (pc := 12) (x := (-1)) dX12_families_12 (by decide) ?_
    cases h
    exact V_ret (pc := 13) dX12_families_13 ⟨rfl, _, rfl⟩ ⟨rfl, rfl, rfl⟩
theorem wX12_far_22 {G : Gl} {σ : Sg} {d : Dt} {r0 : Nat} {v1 : Int32} {v2 : Int32} {vs0 : Int32} {rs1 : Nat} {rr : Int32 × Dt} (H0 : L11 σ r0) (Hs1 : L11 σ rs1) (h : mX12_far_22 r0 v1 v2 vs0 rs1 d = some rr) : V G yX12_far cX12_far 3 (some .int) 3 0 0 (PH [.int rr.1] σ rr.2) 22 [(0, .ref (gB G + r0)), (1, .int v1), (2, .int v2)] [.int vs0, .ref (gB G + rs1)] σ d := by
  rw [mX12_far_22] at h
  refine V_cS1 (pc := 22) dX12_far_22 kw1523 calX12_unless kw1524 (by decide) (Nat.le_of_ble_eq_true rfl) (ctX12_unless) ?_
  refine V_cV1 (pc := 25) dX12_far_25 kw1368 calX12_isRefused kw1370 ks54 (L11_0 Hs1) rfl (by decide) (Nat.le_of_ble_eq_true rfl) (ctX12_isRefused Hs1) ?_
  refine V_ifB_eq (pc := 28) (tgt := 35) dX12_far_28 (by decide) (fun c11 => ?_) (fun c11 => ?_)
  · have h := ite_f c11 h
    refine V_aload_n (pc := 35) 0 dX12_far_35 rfl rfl ?_
    refine V_iload_n (pc := 36) 1 dX12_far_36 rfl rfl ?_
    refine V_iload_n (pc := 37) 2 dX12_far_37 rfl rfl ?_
    obtain ⟨x13, h12, h⟩ := bnd h
    refine V_cV2 (pc := 38) dX12_far_38 kw1542 calX12_farOf kw1544 ks84 (L11_0 H0) rfl (by decide) (Nat.le_of_ble_eq_true rfl) (ctX12_farOf H0 h12) ?_
    cases h
    exact V_ret (pc := 41) dX12_far_41 ⟨rfl, _, rfl⟩ ⟨rfl, rfl, rfl⟩
  · have h := ite_p c11 h
    refine V_iconst (pc := 31) (x := (-1)) dX12_far_31 (by decide) ?_
    refine V_goto (pc := 32) (tgt := 41) dX12_far_32 (by decide) ?_
    cases h
    exact V_ret (pc := 41) dX12_far_41 ⟨rfl, _, rfl⟩ ⟨rfl, rfl, rfl⟩
theorem calX12_far : Cal yX12_far cX12_far 3 (some .int) 2 := ⟨kw1541, kw11, by decide +kernel⟩
theorem ctX12_far {G : Gl} {σ : Sg} {d : Dt} {r0 : Nat} {v1 : Int32} {v2 : Int32} {rr : Int32 × Dt} (H0 : L11 σ r0) (h : mX12_far r0 v1 v2 d = some rr) : CTv G yX12_far cX12_far 3 (some .int) 3 [.ref (gB G + r0), .int v1, .int v2] σ d [.int rr.1] rr.2 := by
  refine CT_of pn_RX12 (Nat.le_of_ble_eq_true rfl) ?_
  rw [mX12_far] at h
  refine V_aload_n (pc := 0) 0 dX12_far_0 rfl rfl ?_
  refine V_aload_n (pc := 1) 0 dX12_far_1 rfl rfl ?_
  refine V_iload_n (pc := 2) 1 dX12_far_2 rfl rfl ?_
  obtain ⟨x2, h1, h⟩ := bnd h
  refine V_cV1 (pc := 3) dX12_far_3 kw1534 calX12_isNode kw1536 ks83 (L11_0 H0) rfl (by decide) (Nat.le_of_ble_eq_true rfl) (ctX12_isNode H0 h1) ?_
  refine V_ifB_eq (pc := 6) (tgt := 21) dX12_far_6 (by decide) (fun c3 => ?_) (fun c3 => ?_)
  · have h := ite_f c3 h
    refine V_iconst (pc := 21) (x := 0) dX12_far_21 (by decide) ?_
    exact V_sub [0, 1, 2] rfl (wX12_far_22 H0 H0 h)
  · have h := ite_p c3 h
    refine V_aload_n (pc := 9) 0 dX12_far_9 rfl rfl ?_
    refine V_iload_n (pc := 10) 2 dX12_far_10 rfl rfl ?_
    obtain ⟨x5, h4, h⟩ := bnd h
    refine V_cV1 (pc := 11) dX12_far_11 kw1534 calX12_isNode kw1536 ks83 (L11_0 H0) rfl (by decide) (Nat.le_of_ble_eq_true rfl) (ctX12_isNode H0 h4) ?_
    refine V_ifB_eq (pc := 14) (tgt := 21) dX12_far_14 (by decide) (fun c6 => ?_) (fun c6 => ?_)
    · have h := ite_f c6 h
      refine V_iconst (pc := 21) (x := 0) dX12_far_21 (by decide) ?_
      exact V_sub [0, 1, 2] rfl (wX12_far_22 H0 H0 h)
    · have h := ite_p c6 h
      refine V_iconst (pc := 17) (x := 1) dX12_far_17 (by decide) ?_
      refine V_goto (pc := 18) (tgt := 22) dX12_far_18 (by decide) ?_
      exact V_sub [0, 1, 2] rfl (wX12_far_22 H0 H0 h)
theorem calX12_fault : Cal yX12_fault cX12_fault 1 (some .int) 0 := ⟨kw1514, kw11, by decide +kernel⟩
theorem ctX12_fault {G : Gl} {σ : Sg} {d : Dt} {r0 : Nat} (H0 : L11 σ r0) : CTv G yX12_fault cX12_fault 1 (some .int) 0 [.ref (gB G + r0)] σ d [.int (mX12_fault r0 d).1] (mX12_fault r0 d).2 := by
  refine CT_of pn_RX12 (Nat.le_of_ble_eq_true rfl) ?_
  generalize h : mX12_fault r0 d = rr
  rw [mX12_fault] at h
  refine V_aload_n (pc := 0) 0 dX12_fault_0 rfl rfl ?_
  refine V_iconst (pc := 1) (x := 0) dX12_fault_1 (by decide) ?_
  refine V_putI (pc := 2) (c := 11) (k := 0) dX12_fault_2 (by decide) (by decide) kw1243 rfl rfl rfl ⟨rfl, rfl⟩ (L11_0 H0) ?_
  refine V_aload_n (pc := 5) 0 dX12_fault_5 rfl rfl ?_
  refine V_getI (pc := 6) (c := 11) (k := 2) dX12_fault_6 (by decide) (by decide) kw1245 rfl rfl (L11_0 H0) ?_
  subst h
  exact V_ret (pc := 9) dX12_fault_9 ⟨rfl, _, rfl⟩ ⟨rfl, rfl, rfl⟩
theorem wX12_laysWord_2 {G : Gl} {σ : Sg} {r0 : Nat} {v1 : Int32} {rr : Dt} (H0 : L11 σ r0) : ∀ (n : Nat) (v2 : Int32) (d : Dt), mX12_laysWord_2 r0 v1 n v2 d = some rr → V G yX12_laysWord cX12_laysWord 3 none 0 0 0 (PH [] σ rr) 2 [(0, .ref (gB G + r0)), (1, .int v1), (2, .int v2)] [] σ d := by
  intro n
  induction n with
  | zero =>
    intro v2 d
    intros
    rename_i h
    exact absurd h (by rw [mX12_laysWord_2]; exact fun q => nomatch q)
  | succ n ih =>
    intro v2 d h
    rw [mX12_laysWord_2] at h
    refine V_iload_n (pc := 2) 2 dX12_laysWord_2 rfl rfl ?_
    refine V_iconst (pc := 3) (x := 4) dX12_laysWord_3 (by decide) ?_
    refine V_icmp_ge (pc := 4) (tgt := 37) dX12_laysWord_4 (by decide) (fun c1 => ?_) (fun c1 => ?_)
    · have h := ite_p c1 h
      refine V_aload_n (pc := 37) 0 dX12_laysWord_37 rfl rfl ?_
      refine V_dup (pc := 38) dX12_laysWord_38 rfl ?_
      refine V_getI (pc := 39) (c := 11) (k := 5) dX12_laysWord_39 (by decide) (by decide) kw1248 rfl rfl (L11_0 H0) ?_
      refine V_iconst (pc := 42) (x := 4) dX12_laysWord_42 (by decide) ?_
      refine V_iadd (pc := 43) dX12_laysWord_43 ?_
      refine V_putI (pc := 44) (c := 11) (k := 5) dX12_laysWord_44 (by decide) (by decide) kw1248 rfl rfl rfl ⟨rfl, rfl⟩ (L11_0 H0) ?_
      cases h
      exact V_ret (pc := 47) dX12_laysWord_47 ⟨rfl, rfl⟩ ⟨rfl, rfl, rfl⟩
    · have h := ite_n c1 h
      refine V_aload_n (pc := 7) 0 dX12_laysWord_7 rfl rfl ?_
      refine V_getR (pc := 8) (c := 11) (k := 4) dX12_laysWord_8 (by decide) (by decide) kw1247 rfl rfl (L11_0 H0) (L11_r4 H0) ?_
      refine V_aload_n (pc := 11) 0 dX12_laysWord_11 rfl rfl ?_
      refine V_getI (pc := 12) (c := 11) (k := 5) dX12_laysWord_12 (by decide) (by decide) kw1248 rfl rfl (L11_0 H0) ?_
      refine V_iload_n (pc := 15) 2 dX12_laysWord_15 rfl rfl ?_
      refine V_iadd (pc := 16) dX12_laysWord_16 ?_
      refine V_iload_n (pc := 17) 1 dX12_laysWord_17 rfl rfl ?_
      refine V_bipush (pc := 18) (x := 24) dX12_laysWord_18 (by decide) ?_
      refine V_bipush (pc := 20) (x := 8) dX12_laysWord_20 (by decide) ?_
      refine V_iload_n (pc := 22) 2 dX12_laysWord_22 rfl rfl ?_
      refine V_imul (pc := 23) dX12_laysWord_23 ?_
      refine V_isub (pc := 24) dX12_laysWord_24 ?_
      refine V_ishr (pc := 25) dX12_laysWord_25 ?_
      refine V_sipush (pc := 26) (x := 255) dX12_laysWord_26 (by decide) ?_
      refine V_iand (pc := 29) dX12_laysWord_29 ?_
      obtain ⟨b2, h⟩ := ite_o h
      refine V_iast (pc := 30) dX12_laysWord_30 (L11_s4 H0) (inB_vp b2) ?_
      refine V_iinc (pc := 31) (lv1 := [(2, _), (0, _), (1, _)]) (z := _ + (1 : Int32)) 2 dX12_laysWord_31 rfl rfl (by decide) rfl ?_
      refine V_goto (pc := 34) (tgt := 2) dX12_laysWord_34 (by decide) ?_
      exact V_sub [1, 2, 0] rfl (ih (v2 + (1 : Int32)) (uI d (r0 + 1) ((d.1 r0 5) + v2).toNatClampNeg ((v1 >>> (((24 : Int32) - ((8 : Int32) * v2)) &&& 31)) &&& (255 : Int32))) h)
theorem calX12_laysWord : Cal yX12_laysWord cX12_laysWord 3 none 1 := ⟨kw1360, kw11, by decide +kernel⟩
theorem ctX12_laysWord {G : Gl} {σ : Sg} {d : Dt} {r0 : Nat} {v1 : Int32} {rr : Dt} (H0 : L11 σ r0) (h : mX12_laysWord r0 v1 d = some rr) : CTv G yX12_laysWord cX12_laysWord 3 none 0 [.ref (gB G + r0), .int v1] σ d [] rr := by
  refine CT_of pn_RX12 (Nat.le_of_ble_eq_true rfl) ?_
  rw [mX12_laysWord] at h
  refine V_iconst (pc := 0) (x := 0) dX12_laysWord_0 (by decide) ?_
  refine V_istore_n (pc := 1) (lv1 := [(2, _), (0, _), (1, _)]) dX12_laysWord_1 rfl (by decide) rfl ?_
  exact V_sub [1, 2, 0] rfl (wX12_laysWord_2 H0 FUEL (0 : Int32) d h)
theorem calX12_feed : Cal yX12_feed cX12_feed 6 (some .int) 5 := ⟨kw1356, kw11, by decide +kernel⟩
theorem ctX12_feed {G : Gl} {σ : Sg} {d : Dt} {r0 : Nat} {v1 : Int32} {v2 : Int32} {v3 : Int32} {v4 : Int32} {v5 : Int32} {rr : Int32 × Dt} (H0 : L11 σ r0) (h : mX12_feed r0 v1 v2 v3 v4 v5 d = some rr) : CTv G yX12_feed cX12_feed 6 (some .int) 1 [.ref (gB G + r0), .int v1, .int v2, .int v3, .int v4, .int v5] σ d [.int rr.1] rr.2 := by
  refine CT_of pn_RX12 (Nat.le_of_ble_eq_true rfl) ?_
  rw [mX12_feed] at h
  refine V_aload_n (pc := 0) 0 dX12_feed_0 rfl rfl ?_
  refine V_iconst (pc := 1) (x := 0) dX12_feed_1 (by decide) ?_
  refine V_putI (pc := 2) (c := 11) (k := 0) dX12_feed_2 (by decide) (by decide) kw1243 rfl rfl rfl ⟨rfl, rfl⟩ (L11_0 H0) ?_
  refine V_aload_n (pc := 5) 0 dX12_feed_5 rfl rfl ?_
  refine V_getI (pc := 6) (c := 11) (k := 5) dX12_feed_6 (by decide) (by decide) kw1248 rfl rfl (L11_0 H0) ?_
  refine V_sipush (pc := 9) (x := 980) dX12_feed_9 (by decide) ?_
  refine V_icmp_le (pc := 12) (tgt := 17) dX12_feed_12 (by decide) (fun c1 => ?_) (fun c1 => ?_)
  · have h := ite_p c1 h
    refine V_aload_n (pc := 17) 0 dX12_feed_17 rfl rfl ?_
    refine V_iload_n (pc := 18) 1 dX12_feed_18 rfl rfl ?_
    obtain ⟨x3, h2, h⟩ := bnd h
    refine V_cV1 (pc := 19) dX12_feed_19 kw1357 calX12_laysWord kw1359 ks53 (L11_0 H0) rfl (by decide) (Nat.le_of_ble_eq_true rfl) (ctX12_laysWord H0 h2) ?_
    refine V_aload_n (pc := 22) 0 dX12_feed_22 rfl rfl ?_
    refine V_iload_n (pc := 23) 2 dX12_feed_23 rfl rfl ?_
    obtain ⟨x5, h4, h⟩ := bnd h
    refine V_cV1 (pc := 24) dX12_feed_24 kw1357 calX12_laysWord kw1359 ks53 (L11_0 H0) rfl (by decide) (Nat.le_of_ble_eq_true rfl) (ctX12_laysWord H0 h4) ?_
    refine V_aload_n (pc := 27) 0 dX12_feed_27 rfl rfl ?_
    refine V_iload_n (pc := 28) 3 dX12_feed_28 rfl rfl ?_
    obtain ⟨x7, h6, h⟩ := bnd h
    refine V_cV1 (pc := 29) dX12_feed_29 kw1357 calX12_laysWord kw1359 ks53 (L11_0 H0) rfl (by decide) (Nat.le_of_ble_eq_true rfl) (ctX12_laysWord H0 h6) ?_
    refine V_aload_n (pc := 32) 0 dX12_feed_32 rfl rfl ?_
    refine V_iload (pc := 33) 4 dX12_feed_33 rfl ?_
    obtain ⟨x9, h8, h⟩ := bnd h
    refine V_cV1 (pc := 35) dX12_feed_35 kw1357 calX12_laysWord kw1359 ks53 (L11_0 H0) rfl (by decide) (Nat.le_of_ble_eq_true rfl) (ctX12_laysWord H0 h8) ?_
    refine V_aload_n (pc := 38) 0 dX12_feed_38 rfl rfl ?_
    refine V_iload (pc := 39) 5 dX12_feed_39 rfl ?_
    obtain ⟨x11, h10, h⟩ := bnd h
    refine V_cV1 (pc := 41) dX12_feed_41 kw1357 calX12_laysWord kw1359 ks53 (L11_0 H0) rfl (by decide) (Nat.le_of_ble_eq_true rfl) (ctX12_laysWord H0 h10) ?_
    refine V_aload_n (pc := 44) 0 dX12_feed_44 rfl rfl ?_
    refine V_getI (pc := 45) (c := 11) (k := 5) dX12_feed_45 (by decide) (by decide) kw1248 rfl rfl (L11_0 H0) ?_
    cases h
    exact V_ret (pc := 48) dX12_feed_48 ⟨rfl, _, rfl⟩ ⟨rfl, rfl, rfl⟩
  · have h := ite_n c1 h
    refine V_iconst (pc := 15) (x := (-1)) dX12_feed_15 (by decide) ?_
    cases h
    exact V_ret (pc := 16) dX12_feed_16 ⟨rfl, _, rfl⟩ ⟨rfl, rfl, rfl⟩
theorem calX12_isFlaw : Cal yX12_isFlaw cX12_isFlaw 6 none 4 := ⟨kw1754, kw11, by decide +kernel⟩
theorem ctX12_isFlaw {G : Gl} {σ : Sg} {d : Dt} {r0 : Nat} {v1 : Int32} {v2 : Int32} {v3 : Int32} {v4 : Int32} {rr : Dt} (H0 : L11 σ r0) (h : mX12_isFlaw r0 v1 v2 v3 v4 d = some rr) : CTv G yX12_isFlaw cX12_isFlaw 6 none 2 [.ref (gB G + r0), .int v1, .int v2, .int v3, .int v4] σ d [] rr := by
  refine CT_of pn_RX12 (Nat.le_of_ble_eq_true rfl) ?_
  rw [mX12_isFlaw] at h
  refine V_iconst (pc := 0) (x := 5) dX12_isFlaw_0 (by decide) ?_
  refine V_aload_n (pc := 1) 0 dX12_isFlaw_1 rfl rfl ?_
  refine V_getI (pc := 2) (c := 11) (k := 27) dX12_isFlaw_2 (by decide) (by decide) kw1270 rfl rfl (L11_0 H0) ?_
  refine V_imul (pc := 5) dX12_isFlaw_5 ?_
  refine V_istore (pc := 6) (lv1 := [(5, _), (0, _), (1, _), (2, _), (3, _), (4, _)]) dX12_isFlaw_6 (by decide) rfl ?_
  refine V_aload_n (pc := 8) 1 dX12_isFlaw_8 rfl rfl ?_
  refine V_getR (pc := 9) (c := 11) (k := 26) dX12_isFlaw_9 (by decide) (by decide) kw1269 rfl rfl (L11_0 H0) (L11_r26 H0) ?_
  refine V_iload (pc := 12) 0 dX12_isFlaw_12 rfl ?_
  refine V_iload_n (pc := 14) 2 dX12_isFlaw_14 rfl rfl ?_
  obtain ⟨b1, h⟩ := ite_o h
  refine V_iast (pc := 15) dX12_isFlaw_15 (L11_s26 H0) (inB_vp b1) ?_
  refine V_aload_n (pc := 16) 1 dX12_isFlaw_16 rfl rfl ?_
  refine V_getR (pc := 17) (c := 11) (k := 26) dX12_isFlaw_17 (by decide) (by decide) kw1269 rfl rfl (L11_0 H0) (L11_r26 H0) ?_
  refine V_iload (pc := 20) 0 dX12_isFlaw_20 rfl ?_
  refine V_iconst (pc := 22) (x := 1) dX12_isFlaw_22 (by decide) ?_
  refine V_iadd (pc := 23) dX12_isFlaw_23 ?_
  refine V_iload_n (pc := 24) 3 dX12_isFlaw_24 rfl rfl ?_
  obtain ⟨b2, h⟩ := ite_o h
  refine V_iast (pc := 25) dX12_isFlaw_25 (L11_s26 H0) (inB_vp b2) ?_
  refine V_aload_n (pc := 26) 1 dX12_isFlaw_26 rfl rfl ?_
  refine V_getR (pc := 27) (c := 11) (k := 26) dX12_isFlaw_27 (by decide) (by decide) kw1269 rfl rfl (L11_0 H0) (L11_r26 H0) ?_
  refine V_iload (pc := 30) 0 dX12_isFlaw_30 rfl ?_
  refine V_iconst (pc := 32) (x := 2) dX12_isFlaw_32 (by decide) ?_
  refine V_iadd (pc := 33) dX12_isFlaw_33 ?_
  refine V_iload_n (pc := 34) 4 dX12_isFlaw_34 rfl rfl ?_
  obtain ⟨b3, h⟩ := ite_o h
  refine V_iast (pc := 35) dX12_isFlaw_35 (L11_s26 H0) (inB_vp b3) ?_
  refine V_aload_n (pc := 36) 1 dX12_isFlaw_36 rfl rfl ?_
  refine V_getR (pc := 37) (c := 11) (k := 26) dX12_isFlaw_37 (by decide) (by decide) kw1269 rfl rfl (L11_0 H0) (L11_r26 H0) ?_
  refine V_iload (pc := 40) 0 dX12_isFlaw_40 rfl ?_
  refine V_iconst (pc := 42) (x := 3) dX12_isFlaw_42 (by decide) ?_
  refine V_iadd (pc := 43) dX12_isFlaw_43 ?_
  refine V_aload_n (pc := 44) 1 dX12_isFlaw_44 rfl rfl ?_
  refine V_iload_n (pc := 45) 3 dX12_isFlaw_45 rfl rfl ?_
  refine V_iload (pc := 46) 5 dX12_isFlaw_46 rfl ?_
  obtain ⟨x5, h4, h⟩ := bnd h
  refine V_cV2 (pc := 48) dX12_isFlaw_48 kw1671 calX12_pinPlug kw1673 ks100 (L11_0 H0) rfl (by decide) (Nat.le_of_ble_eq_true rfl) (ctX12_pinPlug H0 h4) ?_
  obtain ⟨b6, h⟩ := ite_o h
  refine V_iast (pc := 51) dX12_isFlaw_51 (L11_s26 H0) (inB_vp b6) ?_
  refine V_aload_n (pc := 52) 1 dX12_isFlaw_52 rfl rfl ?_
  refine V_getR (pc := 53) (c := 11) (k := 26) dX12_isFlaw_53 (by decide) (by decide) kw1269 rfl rfl (L11_0 H0) (L11_r26 H0) ?_
  refine V_iload (pc := 56) 0 dX12_isFlaw_56 rfl ?_
  refine V_iconst (pc := 58) (x := 4) dX12_isFlaw_58 (by decide) ?_
  refine V_iadd (pc := 59) dX12_isFlaw_59 ?_
  refine V_aload_n (pc := 60) 1 dX12_isFlaw_60 rfl rfl ?_
  refine V_iload_n (pc := 61) 3 dX12_isFlaw_61 rfl rfl ?_
  refine V_iload (pc := 62) 5 dX12_isFlaw_62 rfl ?_
  obtain ⟨x8, h7, h⟩ := bnd h
  refine V_cV2 (pc := 64) dX12_isFlaw_64 kw1755 calX12_pinHole kw1757 ks109 (L11_0 H0) rfl (by decide) (Nat.le_of_ble_eq_true rfl) (ctX12_pinHole H0 h7) ?_
  obtain ⟨b9, h⟩ := ite_o h
  refine V_iast (pc := 67) dX12_isFlaw_67 (L11_s26 H0) (inB_vp b9) ?_
  refine V_aload_n (pc := 68) 1 dX12_isFlaw_68 rfl rfl ?_
  refine V_dup (pc := 69) dX12_isFlaw_69 rfl ?_
  refine V_getI (pc := 70) (c := 11) (k := 27) dX12_isFlaw_70 (by decide) (by decide) kw1270 rfl rfl (L11_0 H0) ?_
  refine V_iconst (pc := 73) (x := 1) dX12_isFlaw_73 (by decide) ?_
  refine V_iadd (pc := 74) dX12_isFlaw_74 ?_
  refine V_putI (pc := 75) (c := 11) (k := 27) dX12_isFlaw_75 (by decide) (by decide) kw1270 rfl rfl rfl ⟨rfl, rfl⟩ (L11_0 H0) ?_
  cases h
  exact V_ret (pc := 78) dX12_isFlaw_78 ⟨rfl, rfl⟩ ⟨rfl, rfl, rfl⟩
theorem wX12_flawsOfPin_67 {G : Gl} {σ : Sg} {d : Dt} {r0 : Nat} {v1 : Int32} {v2 : Int32} {v3 : Int32} {rr : Dt} (H0 : L11 σ r0) (h : mX12_flawsOfPin_67 r0 v1 v2 v3 d = some rr) : V G yX12_flawsOfPin cX12_flawsOfPin 6 none 5 0 0 (PH [] σ rr) 67 [(0, .ref (gB G + r0)), (1, .int v1), (2, .int v2), (3, .int v3)] [] σ d := by
  rw [mX12_flawsOfPin_67] at h
  refine V_aload_n (pc := 67) 0 dX12_flawsOfPin_67 rfl rfl ?_
  refine V_iload_n (pc := 68) 1 dX12_flawsOfPin_68 rfl rfl ?_
  refine V_iload_n (pc := 69) 2 dX12_flawsOfPin_69 rfl rfl ?_
  refine V_iload_n (pc := 70) 3 dX12_flawsOfPin_70 rfl rfl ?_
  obtain ⟨x20, h19, h⟩ := bnd h
  refine V_cV3 (pc := 71) dX12_flawsOfPin_71 kw1771 calX12_beside kw1773 ks113 (L11_0 H0) rfl (by decide) (Nat.le_of_ble_eq_true rfl) (ctX12_beside H0 h19) ?_
  refine V_istore (pc := 74) (lv1 := [(5, _), (0, _), (1, _), (2, _), (3, _)]) dX12_flawsOfPin_74 (by decide) rfl ?_
  refine V_iload (pc := 76) 0 dX12_flawsOfPin_76 rfl ?_
  refine V_iconst (pc := 78) (x := (-1)) dX12_flawsOfPin_78 (by decide) ?_
  refine V_icmp_eq (pc := 79) (tgt := 91) dX12_flawsOfPin_79 (by decide) (fun c21 => ?_) (fun c21 => ?_)
  · have h := ite_p c21 h
    cases h
    exact V_ret (pc := 91) dX12_flawsOfPin_91 ⟨rfl, rfl⟩ ⟨rfl, rfl, rfl⟩
  · have h := ite_n c21 h
    refine V_aload_n (pc := 82) 1 dX12_flawsOfPin_82 rfl rfl ?_
    refine V_iconst (pc := 83) (x := 4) dX12_flawsOfPin_83 (by decide) ?_
    refine V_iload_n (pc := 84) 3 dX12_flawsOfPin_84 rfl rfl ?_
    refine V_iload (pc := 85) 0 dX12_flawsOfPin_85 rfl ?_
    refine V_iload_n (pc := 87) 4 dX12_flawsOfPin_87 rfl rfl ?_
    obtain ⟨x23, h22, h⟩ := bnd h
    refine V_cV4 (pc := 88) dX12_flawsOfPin_88 kw1751 calX12_isFlaw kw1753 ks108 (L11_0 H0) rfl (by decide) (Nat.le_of_ble_eq_true rfl) (ctX12_isFlaw H0 h22) ?_
    cases h
    exact V_ret (pc := 91) dX12_flawsOfPin_91 ⟨rfl, rfl⟩ ⟨rfl, rfl, rfl⟩
theorem wX12_flawsOfPin_43 {G : Gl} {σ : Sg} {d : Dt} {r0 : Nat} {v1 : Int32} {v2 : Int32} {v3 : Int32} {rr : Dt} (H0 : L11 σ r0) (h : mX12_flawsOfPin_43 r0 v1 v2 v3 d = some rr) : V G yX12_flawsOfPin cX12_flawsOfPin 6 none 5 0 0 (PH [] σ rr) 43 [(0, .ref (gB G + r0)), (1, .int v1), (2, .int v2), (3, .int v3)] [] σ d := by
  rw [mX12_flawsOfPin_43] at h
  refine V_aload_n (pc := 43) 0 dX12_flawsOfPin_43 rfl rfl ?_
  refine V_iload_n (pc := 44) 1 dX12_flawsOfPin_44 rfl rfl ?_
  refine V_iload_n (pc := 45) 2 dX12_flawsOfPin_45 rfl rfl ?_
  refine V_iload_n (pc := 46) 3 dX12_flawsOfPin_46 rfl rfl ?_
  obtain ⟨x15, h14, h⟩ := bnd h
  refine V_cV3 (pc := 47) dX12_flawsOfPin_47 kw1763 calX12_clashing kw1765 ks111 (L11_0 H0) rfl (by decide) (Nat.le_of_ble_eq_true rfl) (ctX12_clashing H0 h14) ?_
  refine V_istore (pc := 50) (lv1 := [(5, _), (0, _), (1, _), (2, _), (3, _)]) dX12_flawsOfPin_50 (by decide) rfl ?_
  refine V_iload (pc := 52) 0 dX12_flawsOfPin_52 rfl ?_
  refine V_iconst (pc := 54) (x := (-1)) dX12_flawsOfPin_54 (by decide) ?_
  refine V_icmp_eq (pc := 55) (tgt := 67) dX12_flawsOfPin_55 (by decide) (fun c16 => ?_) (fun c16 => ?_)
  · have h := ite_p c16 h
    exact V_sub [1, 2, 3, 4] rfl (wX12_flawsOfPin_67 H0 h)
  · have h := ite_n c16 h
    refine V_aload_n (pc := 58) 1 dX12_flawsOfPin_58 rfl rfl ?_
    refine V_iconst (pc := 59) (x := 3) dX12_flawsOfPin_59 (by decide) ?_
    refine V_iload_n (pc := 60) 3 dX12_flawsOfPin_60 rfl rfl ?_
    refine V_iload (pc := 61) 0 dX12_flawsOfPin_61 rfl ?_
    refine V_iload_n (pc := 63) 4 dX12_flawsOfPin_63 rfl rfl ?_
    obtain ⟨x18, h17, h⟩ := bnd h
    refine V_cV4 (pc := 64) dX12_flawsOfPin_64 kw1751 calX12_isFlaw kw1753 ks108 (L11_0 H0) rfl (by decide) (Nat.le_of_ble_eq_true rfl) (ctX12_isFlaw H0 h17) ?_
    exact V_sub [1, 2, 3, 4] rfl (wX12_flawsOfPin_67 H0 h)
theorem calX12_flawsOfPin : Cal yX12_flawsOfPin cX12_flawsOfPin 6 none 3 := ⟨kw1762, kw11, by decide +kernel⟩
theorem ctX12_flawsOfPin {G : Gl} {σ : Sg} {d : Dt} {r0 : Nat} {v1 : Int32} {v2 : Int32} {v3 : Int32} {rr : Dt} (H0 : L11 σ r0) (h : mX12_flawsOfPin r0 v1 v2 v3 d = some rr) : CTv G yX12_flawsOfPin cX12_flawsOfPin 6 none 5 [.ref (gB G + r0), .int v1, .int v2, .int v3] σ d [] rr := by
  refine CT_of pn_RX12 (Nat.le_of_ble_eq_true rfl) ?_
  rw [mX12_flawsOfPin] at h
  refine V_aload_n (pc := 0) 0 dX12_flawsOfPin_0 rfl rfl ?_
  refine V_iload_n (pc := 1) 2 dX12_flawsOfPin_1 rfl rfl ?_
  refine V_iload_n (pc := 2) 3 dX12_flawsOfPin_2 rfl rfl ?_
  obtain ⟨x2, h1, h⟩ := bnd h
  refine V_cV2 (pc := 3) dX12_flawsOfPin_3 kw1671 calX12_pinPlug kw1673 ks100 (L11_0 H0) rfl (by decide) (Nat.le_of_ble_eq_true rfl) (ctX12_pinPlug H0 h1) ?_
  refine V_istore (pc := 6) (lv1 := [(4, _), (0, _), (1, _), (2, _), (3, _)]) dX12_flawsOfPin_6 (by decide) rfl ?_
  refine V_aload_n (pc := 8) 1 dX12_flawsOfPin_8 rfl rfl ?_
  refine V_iload_n (pc := 9) 3 dX12_flawsOfPin_9 rfl rfl ?_
  refine V_iconst (pc := 10) (x := 1) dX12_flawsOfPin_10 (by decide) ?_
  obtain ⟨x4, h3, h⟩ := bnd h
  refine V_cV2 (pc := 11) dX12_flawsOfPin_11 kw1636 calX12_netOf kw1638 ks95 (L11_0 H0) rfl (by decide) (Nat.le_of_ble_eq_true rfl) (ctX12_netOf H0 h3) ?_
  refine V_aload_n (pc := 14) 1 dX12_flawsOfPin_14 rfl rfl ?_
  refine V_iload (pc := 15) 0 dX12_flawsOfPin_15 rfl ?_
  refine V_iconst (pc := 17) (x := 2) dX12_flawsOfPin_17 (by decide) ?_
  obtain ⟨x6, h5, h⟩ := bnd h
  refine V_cV2 (pc := 18) dX12_flawsOfPin_18 kw1624 calX12_plugOf kw1626 ks93 (L11_0 H0) rfl (by decide) (Nat.le_of_ble_eq_true rfl) (ctX12_plugOf H0 h5) ?_
  refine V_aload_n (pc := 21) 1 dX12_flawsOfPin_21 rfl rfl ?_
  refine V_iload (pc := 22) 0 dX12_flawsOfPin_22 rfl ?_
  refine V_iconst (pc := 24) (x := 3) dX12_flawsOfPin_24 (by decide) ?_
  obtain ⟨x8, h7, h⟩ := bnd h
  refine V_cV2 (pc := 25) dX12_flawsOfPin_25 kw1624 calX12_plugOf kw1626 ks93 (L11_0 H0) rfl (by decide) (Nat.le_of_ble_eq_true rfl) (ctX12_plugOf H0 h7) ?_
  refine V_cS3 (pc := 28) dX12_flawsOfPin_28 kw1365 calX12_in kw1366 (by decide) (Nat.le_of_ble_eq_true rfl) (ctX12_in) ?_
  refine V_ifB_ne (pc := 31) (tgt := 43) dX12_flawsOfPin_31 (by decide) (fun c11 => ?_) (fun c11 => ?_)
  · have h := ite_p c11 h
    exact V_sub [1, 2, 3, 4] rfl (wX12_flawsOfPin_43 H0 h)
  · have h := ite_f c11 h
    refine V_aload_n (pc := 34) 1 dX12_flawsOfPin_34 rfl rfl ?_
    refine V_iconst (pc := 35) (x := 2) dX12_flawsOfPin_35 (by decide) ?_
    refine V_iload_n (pc := 36) 3 dX12_flawsOfPin_36 rfl rfl ?_
    refine V_bipush (pc := 37) (x := (-2)) dX12_flawsOfPin_37 (by decide) ?_
    refine V_iload_n (pc := 39) 4 dX12_flawsOfPin_39 rfl rfl ?_
    obtain ⟨x13, h12, h⟩ := bnd h
    refine V_cV4 (pc := 40) dX12_flawsOfPin_40 kw1751 calX12_isFlaw kw1753 ks108 (L11_0 H0) rfl (by decide) (Nat.le_of_ble_eq_true rfl) (ctX12_isFlaw H0 h12) ?_
    exact V_sub [1, 2, 3, 4] rfl (wX12_flawsOfPin_43 H0 h)
theorem wX12_laysFlaws_47 {G : Gl} {σ : Sg} {g7 : Int32 → Dt → Option (Int32 × Dt)} {r0 : Nat} {v1 : Int32} {v2 : Int32} {v3 : Int32} {rr : Int32 × Dt} (H0 : L11 σ r0) (hg7 : ∀ (v2 : Int32) (d : Dt), g7 v2 d = some rr → V G yX12_laysFlaws cX12_laysFlaws 5 (some .int) 6 0 0 (PH [.int rr.1] σ rr.2) 7 [(0, .ref (gB G + r0)), (1, .int v1), (2, .int v2)] [] σ d) : ∀ (n : Nat) (v4 : Int32) (d : Dt), mX12_laysFlaws_47 g7 r0 v1 v2 v3 n v4 d = some rr → V G yX12_laysFlaws cX12_laysFlaws 5 (some .int) 6 0 0 (PH [.int rr.1] σ rr.2) 47 [(0, .ref (gB G + r0)), (1, .int v1), (2, .int v2), (3, .int v3), (4, .int v4)] [] σ d := by
  intro n
  induction n with
  | zero =>
    intro v4 d
    intros
    rename_i h
    exact absurd h (by rw [mX12_laysFlaws_47]; exact fun q => nomatch q)
  | succ n ih =>
    intro v4 d h
    rw [mX12_laysFlaws_47] at h
    refine V_iload (pc := 47) 4 dX12_laysFlaws_47 rfl ?_
    refine V_iconst (pc := 49) (x := 5) dX12_laysFlaws_49 (by decide) ?_
    refine V_icmp_ge (pc := 50) (tgt := 76) dX12_laysFlaws_50 (by decide) (fun c12 => ?_) (fun c12 => ?_)
    · have h := ite_p c12 h
      refine V_iinc (pc := 76) (lv1 := [(2, _), (0, _), (1, _), (3, _), (4, _)]) (z := _ + (1 : Int32)) 2 dX12_laysFlaws_76 rfl rfl (by decide) rfl ?_
      refine V_goto (pc := 79) (tgt := 7) dX12_laysFlaws_79 (by decide) ?_
      exact V_sub [1, 2, 0] rfl (hg7 (v2 + (1 : Int32)) d h)
    · have h := ite_n c12 h
      refine V_iload_n (pc := 53) 3 dX12_laysFlaws_53 rfl rfl ?_
      refine V_iload (pc := 54) 4 dX12_laysFlaws_54 rfl ?_
      refine V_cS2 (pc := 56) dX12_laysFlaws_56 kw1690 calX12_has kw1691 (by decide) (Nat.le_of_ble_eq_true rfl) (ctX12_has) ?_
      refine V_ifB_eq (pc := 59) (tgt := 70) dX12_laysFlaws_59 (by decide) (fun c15 => ?_) (fun c15 => ?_)
      · have h := ite_f c15 h
        refine V_iinc (pc := 70) (lv1 := [(4, _), (0, _), (1, _), (2, _), (3, _)]) (z := _ + (1 : Int32)) 4 dX12_laysFlaws_70 rfl rfl (by decide) rfl ?_
        refine V_goto (pc := 73) (tgt := 47) dX12_laysFlaws_73 (by decide) ?_
        exact V_sub [1, 2, 3, 4, 0] rfl (ih (v4 + (1 : Int32)) d h)
      · have h := ite_p c15 h
        refine V_aload_n (pc := 62) 0 dX12_laysFlaws_62 rfl rfl ?_
        refine V_iload_n (pc := 63) 1 dX12_laysFlaws_63 rfl rfl ?_
        refine V_iload_n (pc := 64) 2 dX12_laysFlaws_64 rfl rfl ?_
        refine V_iload (pc := 65) 4 dX12_laysFlaws_65 rfl ?_
        obtain ⟨x17, h16, h⟩ := bnd h
        refine V_cV3 (pc := 67) dX12_laysFlaws_67 kw1759 calX12_flawsOfPin kw1761 ks110 (L11_0 H0) rfl (by decide) (Nat.le_of_ble_eq_true rfl) (ctX12_flawsOfPin H0 h16) ?_
        refine V_iinc (pc := 70) (lv1 := [(4, _), (0, _), (1, _), (2, _), (3, _)]) (z := _ + (1 : Int32)) 4 dX12_laysFlaws_70 rfl rfl (by decide) rfl ?_
        refine V_goto (pc := 73) (tgt := 47) dX12_laysFlaws_73 (by decide) ?_
        exact V_sub [1, 2, 3, 4, 0] rfl (ih (v4 + (1 : Int32)) x17 h)
theorem wX12_laysFlaws_7 {G : Gl} {σ : Sg} {r0 : Nat} {v1 : Int32} {rr : Int32 × Dt} (H0 : L11 σ r0) : ∀ (n : Nat) (v2 : Int32) (d : Dt), mX12_laysFlaws_7 r0 v1 n v2 d = some rr → V G yX12_laysFlaws cX12_laysFlaws 5 (some .int) 6 0 0 (PH [.int rr.1] σ rr.2) 7 [(0, .ref (gB G + r0)), (1, .int v1), (2, .int v2)] [] σ d := by
  intro n
  induction n with
  | zero =>
    intro v2 d
    intros
    rename_i h
    exact absurd h (by rw [mX12_laysFlaws_7]; exact fun q => nomatch q)
  | succ n ih =>
    intro v2 d h
    rw [mX12_laysFlaws_7] at h
    refine V_iload_n (pc := 7) 2 dX12_laysFlaws_7 rfl rfl ?_
    refine V_aload_n (pc := 8) 0 dX12_laysFlaws_8 rfl rfl ?_
    refine V_getR (pc := 9) (c := 11) (k := 6) dX12_laysFlaws_9 (by decide) (by decide) kw1249 rfl rfl (L11_0 H0) (L11_r6 H0) ?_
    refine V_iconst (pc := 12) (x := 5) dX12_laysFlaws_12 (by decide) ?_
    obtain ⟨b1, h⟩ := ite_o h
    refine V_iald (pc := 13) dX12_laysFlaws_13 (L11_s6 H0) (inB_vp b1) ?_
    refine V_icmp_ge (pc := 14) (tgt := 82) dX12_laysFlaws_14 (by decide) (fun c2 => ?_) (fun c2 => ?_)
    · have h := ite_p c2 h
      refine V_aload_n (pc := 82) 0 dX12_laysFlaws_82 rfl rfl ?_
      refine V_getI (pc := 83) (c := 11) (k := 27) dX12_laysFlaws_83 (by decide) (by decide) kw1270 rfl rfl (L11_0 H0) ?_
      cases h
      exact V_ret (pc := 86) dX12_laysFlaws_86 ⟨rfl, _, rfl⟩ ⟨rfl, rfl, rfl⟩
    · have h := ite_n c2 h
      refine V_aload_n (pc := 17) 0 dX12_laysFlaws_17 rfl rfl ?_
      refine V_iload_n (pc := 18) 1 dX12_laysFlaws_18 rfl rfl ?_
      refine V_iload_n (pc := 19) 2 dX12_laysFlaws_19 rfl rfl ?_
      obtain ⟨x4, h3, h⟩ := bnd h
      refine V_cV2 (pc := 20) dX12_laysFlaws_20 kw1667 calX12_pinsOf kw1669 ks99 (L11_0 H0) rfl (by decide) (Nat.le_of_ble_eq_true rfl) (ctX12_pinsOf H0 h3) ?_
      refine V_istore_n (pc := 23) (lv1 := [(3, _), (0, _), (1, _), (2, _)]) dX12_laysFlaws_23 rfl (by decide) rfl ?_
      refine V_iload_n (pc := 24) 0 dX12_laysFlaws_24 rfl rfl ?_
      obtain ⟨x6, h5, h⟩ := bnd h
      refine V_cS1 (pc := 25) dX12_laysFlaws_25 kw1683 calX12_bitsOf kw1684 (by decide) (Nat.le_of_ble_eq_true rfl) (ctX12_bitsOf h5) ?_
      refine V_iconst (pc := 28) (x := 1) dX12_laysFlaws_28 (by decide) ?_
      refine V_icmp_ne (pc := 29) (tgt := 44) dX12_laysFlaws_29 (by decide) (fun c7 => ?_) (fun c7 => ?_)
      · have h := ite_n c7 h
        refine V_iconst (pc := 44) (x := 0) dX12_laysFlaws_44 (by decide) ?_
        refine V_istore (pc := 45) (lv1 := [(4, _), (3, _), (0, _), (1, _), (2, _)]) dX12_laysFlaws_45 (by decide) rfl ?_
        exact V_sub [2, 3, 4, 1, 0] rfl (wX12_laysFlaws_47 H0 ih FUEL (0 : Int32) d h)
      · have h := ite_p c7 h
        refine V_aload_n (pc := 32) 1 dX12_laysFlaws_32 rfl rfl ?_
        refine V_iconst (pc := 33) (x := 1) dX12_laysFlaws_33 (by decide) ?_
        refine V_iload_n (pc := 34) 3 dX12_laysFlaws_34 rfl rfl ?_
        refine V_bipush (pc := 35) (x := (-2)) dX12_laysFlaws_35 (by decide) ?_
        refine V_iload_n (pc := 37) 0 dX12_laysFlaws_37 rfl rfl ?_
        obtain ⟨x9, h8, h⟩ := bnd h
        refine V_cS1 (pc := 38) dX12_laysFlaws_38 kw1712 calX12_firstOf kw1713 (by decide) (Nat.le_of_ble_eq_true rfl) (ctX12_firstOf h8) ?_
        obtain ⟨x11, h10, h⟩ := bnd h
        refine V_cV4 (pc := 41) dX12_laysFlaws_41 kw1751 calX12_isFlaw kw1753 ks108 (L11_0 H0) rfl (by decide) (Nat.le_of_ble_eq_true rfl) (ctX12_isFlaw H0 h10) ?_
        refine V_iconst (pc := 44) (x := 0) dX12_laysFlaws_44 (by decide) ?_
        refine V_istore (pc := 45) (lv1 := [(4, _), (3, _), (0, _), (1, _), (2, _)]) dX12_laysFlaws_45 (by decide) rfl ?_
        exact V_sub [2, 3, 4, 1, 0] rfl (wX12_laysFlaws_47 H0 ih FUEL (0 : Int32) x11 h)
theorem calX12_laysFlaws : Cal yX12_laysFlaws cX12_laysFlaws 5 (some .int) 1 := ⟨kw1750, kw11, by decide +kernel⟩
theorem ctX12_laysFlaws {G : Gl} {σ : Sg} {d : Dt} {r0 : Nat} {v1 : Int32} {rr : Int32 × Dt} (H0 : L11 σ r0) (h : mX12_laysFlaws r0 v1 d = some rr) : CTv G yX12_laysFlaws cX12_laysFlaws 5 (some .int) 6 [.ref (gB G + r0), .int v1] σ d [.int rr.1] rr.2 := by
  refine CT_of pn_RX12 (Nat.le_of_ble_eq_true rfl) ?_
  rw [mX12_laysFlaws] at h
  refine V_aload_n (pc := 0) 0 dX12_laysFlaws_0 rfl rfl ?_
  refine V_iconst (pc := 1) (x := 0) dX12_laysFlaws_1 (by decide) ?_
  refine V_putI (pc := 2) (c := 11) (k := 27) dX12_laysFlaws_2 (by decide) (by decide) kw1270 rfl rfl rfl ⟨rfl, rfl⟩ (L11_0 H0) ?_
  refine V_iconst (pc := 5) (x := 0) dX12_laysFlaws_5 (by decide) ?_
  refine V_istore_n (pc := 6) (lv1 := [(2, _), (0, _), (1, _)]) dX12_laysFlaws_6 rfl (by decide) rfl ?_
  exact V_sub [1, 2, 0] rfl (wX12_laysFlaws_7 H0 FUEL (0 : Int32) (uI d r0 27 (0 : Int32)) h)
theorem calX12_no : Cal yX12_no cX12_no 2 (some .int) 1 := ⟨kw1510, kw11, by decide +kernel⟩
theorem ctX12_no {G : Gl} {σ : Sg} {d : Dt} {r0 : Nat} {v1 : Int32} (H0 : L11 σ r0) : CTv G yX12_no cX12_no 2 (some .int) 0 [.ref (gB G + r0), .int v1] σ d [.int (mX12_no r0 v1 d).1] (mX12_no r0 v1 d).2 := by
  refine CT_of pn_RX12 (Nat.le_of_ble_eq_true rfl) ?_
  generalize h : mX12_no r0 v1 d = rr
  rw [mX12_no] at h
  refine V_aload_n (pc := 0) 0 dX12_no_0 rfl rfl ?_
  refine V_iload_n (pc := 1) 1 dX12_no_1 rfl rfl ?_
  refine V_putI (pc := 2) (c := 11) (k := 1) dX12_no_2 (by decide) (by decide) kw1244 rfl rfl rfl ⟨rfl, rfl⟩ (L11_0 H0) ?_
  refine V_iconst (pc := 5) (x := (-1)) dX12_no_5 (by decide) ?_
  subst h
  exact V_ret (pc := 6) dX12_no_6 ⟨rfl, _, rfl⟩ ⟨rfl, rfl, rfl⟩
theorem calX12_flaw : Cal yX12_flaw cX12_flaw 4 (some .int) 3 := ⟨kw1778, kw11, by decide +kernel⟩
theorem ctX12_flaw {G : Gl} {σ : Sg} {d : Dt} {r0 : Nat} {v1 : Int32} {v2 : Int32} {v3 : Int32} {rr : Int32 × Dt} (H0 : L11 σ r0) (h : mX12_flaw r0 v1 v2 v3 d = some rr) : CTv G yX12_flaw cX12_flaw 4 (some .int) 7 [.ref (gB G + r0), .int v1, .int v2, .int v3] σ d [.int rr.1] rr.2 := by
  refine CT_of pn_RX12 (Nat.le_of_ble_eq_true rfl) ?_
  rw [mX12_flaw] at h
  refine V_aload_n (pc := 0) 0 dX12_flaw_0 rfl rfl ?_
  refine V_aload_n (pc := 1) 0 dX12_flaw_1 rfl rfl ?_
  refine V_iload_n (pc := 2) 3 dX12_flaw_2 rfl rfl ?_
  refine V_iconst (pc := 3) (x := 0) dX12_flaw_3 (by decide) ?_
  refine V_iconst (pc := 4) (x := 4) dX12_flaw_4 (by decide) ?_
  refine V_cS3 (pc := 5) dX12_flaw_5 kw1365 calX12_in kw1366 (by decide) (Nat.le_of_ble_eq_true rfl) (ctX12_in) ?_
  refine V_iload_n (pc := 8) 1 dX12_flaw_8 rfl rfl ?_
  obtain ⟨x4, h3, h⟩ := bnd h
  refine V_cV2 (pc := 9) dX12_flaw_9 kw1652 calX12_variantWhy kw1654 ks97 (L11_0 H0) rfl (by decide) (Nat.le_of_ble_eq_true rfl) (ctX12_variantWhy H0 h3) ?_
  refine V_cV1 (pc := 12) dX12_flaw_12 kw1368 calX12_isRefused kw1370 ks54 (L11_0 H0) rfl (by decide) (Nat.le_of_ble_eq_true rfl) (ctX12_isRefused H0) ?_
  refine V_ifB_eq (pc := 15) (tgt := 20) dX12_flaw_15 (by decide) (fun c7 => ?_) (fun c7 => ?_)
  · have h := ite_f c7 h
    refine V_iload_n (pc := 20) 2 dX12_flaw_20 rfl rfl ?_
    refine V_iconst (pc := 21) (x := 0) dX12_flaw_21 (by decide) ?_
    refine V_aload_n (pc := 22) 0 dX12_flaw_22 rfl rfl ?_
    refine V_iload_n (pc := 23) 1 dX12_flaw_23 rfl rfl ?_
    obtain ⟨x9, h8, h⟩ := bnd h
    refine V_cV1 (pc := 24) dX12_flaw_24 kw1747 calX12_laysFlaws kw1749 ks107 (L11_0 H0) rfl (by decide) (Nat.le_of_ble_eq_true rfl) (ctX12_laysFlaws H0 h8) ?_
    refine V_iconst (pc := 27) (x := 1) dX12_flaw_27 (by decide) ?_
    refine V_isub (pc := 28) dX12_flaw_28 ?_
    refine V_cS3 (pc := 29) dX12_flaw_29 kw1365 calX12_in kw1366 (by decide) (Nat.le_of_ble_eq_true rfl) (ctX12_in) ?_
    refine V_ifB_eq (pc := 32) (tgt := 48) dX12_flaw_32 (by decide) (fun c12 => ?_) (fun c12 => ?_)
    · have h := ite_f c12 h
      refine V_aload_n (pc := 48) 0 dX12_flaw_48 rfl rfl ?_
      refine V_iconst (pc := 49) (x := 1) dX12_flaw_49 (by decide) ?_
      refine V_cV1 (pc := 50) dX12_flaw_50 kw1507 calX12_no kw1509 ks82 (L11_0 H0) rfl (by decide) (Nat.le_of_ble_eq_true rfl) (ctX12_no H0) ?_
      cases h
      exact V_ret (pc := 53) dX12_flaw_53 ⟨rfl, _, rfl⟩ ⟨rfl, rfl, rfl⟩
    · have h := ite_p c12 h
      refine V_aload_n (pc := 35) 0 dX12_flaw_35 rfl rfl ?_
      refine V_getR (pc := 36) (c := 11) (k := 26) dX12_flaw_36 (by decide) (by decide) kw1269 rfl rfl (L11_0 H0) (L11_r26 H0) ?_
      refine V_iconst (pc := 39) (x := 5) dX12_flaw_39 (by decide) ?_
      refine V_iload_n (pc := 40) 2 dX12_flaw_40 rfl rfl ?_
      refine V_imul (pc := 41) dX12_flaw_41 ?_
      refine V_iload_n (pc := 42) 3 dX12_flaw_42 rfl rfl ?_
      refine V_iadd (pc := 43) dX12_flaw_43 ?_
      obtain ⟨b15, h⟩ := ite_o h
      refine V_iald (pc := 44) dX12_flaw_44 (L11_s26 H0) (inB_vp b15) ?_
      refine V_goto (pc := 45) (tgt := 53) dX12_flaw_45 (by decide) ?_
      cases h
      exact V_ret (pc := 53) dX12_flaw_53 ⟨rfl, _, rfl⟩ ⟨rfl, rfl, rfl⟩
  · have h := ite_p c7 h
    refine V_iconst (pc := 18) (x := (-1)) dX12_flaw_18 (by decide) ?_
    cases h
    exact V_ret (pc := 19) dX12_flaw_19 ⟨rfl, _, rfl⟩ ⟨rfl, rfl, rfl⟩
theorem wX12_flawed_20 {G : Gl} {σ : Sg} {r0 : Nat} {rr : Int32 × Dt} (H0 : L11 σ r0) : ∀ (n : Nat) (v1 : Int32) (v2 : Int32) (d : Dt), mX12_flawed_20 r0 n v1 v2 d = some rr → V G yX12_flawed cX12_flawed 3 (some .int) 7 0 0 (PH [.int rr.1] σ rr.2) 20 [(0, .ref (gB G + r0)), (1, .int v1), (2, .int v2)] [] σ d := by
  intro n
  induction n with
  | zero =>
    intro v1 v2 d
    intros
    rename_i h
    exact absurd h (by rw [mX12_flawed_20]; exact fun q => nomatch q)
  | succ n ih =>
    intro v1 v2 d h
    rw [mX12_flawed_20] at h
    refine V_iload_n (pc := 20) 2 dX12_flawed_20 rfl rfl ?_
    refine V_aload_n (pc := 21) 0 dX12_flawed_21 rfl rfl ?_
    refine V_getR (pc := 22) (c := 11) (k := 6) dX12_flawed_22 (by decide) (by decide) kw1249 rfl rfl (L11_0 H0) (L11_r6 H0) ?_
    refine V_bipush (pc := 25) (x := 6) dX12_flawed_25 (by decide) ?_
    obtain ⟨b6, h⟩ := ite_o h
    refine V_iald (pc := 27) dX12_flawed_27 (L11_s6 H0) (inB_vp b6) ?_
    refine V_icmp_ge (pc := 28) (tgt := 49) dX12_flawed_28 (by decide) (fun c7 => ?_) (fun c7 => ?_)
    · have h := ite_p c7 h
      refine V_iload_n (pc := 49) 1 dX12_flawed_49 rfl rfl ?_
      cases h
      exact V_ret (pc := 50) dX12_flawed_50 ⟨rfl, _, rfl⟩ ⟨rfl, rfl, rfl⟩
    · have h := ite_n c7 h
      refine V_iload_n (pc := 31) 1 dX12_flawed_31 rfl rfl ?_
      refine V_aload_n (pc := 32) 0 dX12_flawed_32 rfl rfl ?_
      refine V_aload_n (pc := 33) 0 dX12_flawed_33 rfl rfl ?_
      refine V_iload_n (pc := 34) 2 dX12_flawed_34 rfl rfl ?_
      obtain ⟨x9, h8, h⟩ := bnd h
      refine V_cV1 (pc := 35) dX12_flawed_35 kw1787 calX12_variantOf kw1789 ks114 (L11_0 H0) rfl (by decide) (Nat.le_of_ble_eq_true rfl) (ctX12_variantOf H0 h8) ?_
      obtain ⟨x11, h10, h⟩ := bnd h
      refine V_cV1 (pc := 38) dX12_flawed_38 kw1747 calX12_laysFlaws kw1749 ks107 (L11_0 H0) rfl (by decide) (Nat.le_of_ble_eq_true rfl) (ctX12_laysFlaws H0 h10) ?_
      refine V_iadd (pc := 41) dX12_flawed_41 ?_
      refine V_istore_n (pc := 42) (lv1 := [(1, _), (0, _), (2, _)]) dX12_flawed_42 rfl (by decide) rfl ?_
      refine V_iinc (pc := 43) (lv1 := [(2, _), (1, _), (0, _)]) (z := _ + (1 : Int32)) 2 dX12_flawed_43 rfl rfl (by decide) rfl ?_
      refine V_goto (pc := 46) (tgt := 20) dX12_flawed_46 (by decide) ?_
      exact V_sub [2, 1, 0] rfl (ih (v1 + x11.1) (v2 + (1 : Int32)) x11.2 h)
theorem calX12_flawed : Cal yX12_flawed cX12_flawed 3 (some .int) 0 := ⟨kw1786, kw11, by decide +kernel⟩
theorem ctX12_flawed {G : Gl} {σ : Sg} {d : Dt} {r0 : Nat} {rr : Int32 × Dt} (H0 : L11 σ r0) (h : mX12_flawed r0 d = some rr) : CTv G yX12_flawed cX12_flawed 3 (some .int) 7 [.ref (gB G + r0)] σ d [.int rr.1] rr.2 := by
  refine CT_of pn_RX12 (Nat.le_of_ble_eq_true rfl) ?_
  rw [mX12_flawed] at h
  refine V_aload_n (pc := 0) 0 dX12_flawed_0 rfl rfl ?_
  refine V_aload_n (pc := 1) 0 dX12_flawed_1 rfl rfl ?_
  refine V_getI (pc := 2) (c := 11) (k := 14) dX12_flawed_2 (by decide) (by decide) kw1257 rfl rfl (L11_0 H0) ?_
  refine V_cS1 (pc := 5) dX12_flawed_5 kw1523 calX12_unless kw1524 (by decide) (Nat.le_of_ble_eq_true rfl) (ctX12_unless) ?_
  refine V_cV1 (pc := 8) dX12_flawed_8 kw1368 calX12_isRefused kw1370 ks54 (L11_0 H0) rfl (by decide) (Nat.le_of_ble_eq_true rfl) (ctX12_isRefused H0) ?_
  refine V_ifB_eq (pc := 11) (tgt := 16) dX12_flawed_11 (by decide) (fun c5 => ?_) (fun c5 => ?_)
  · have h := ite_f c5 h
    refine V_iconst (pc := 16) (x := 0) dX12_flawed_16 (by decide) ?_
    refine V_istore_n (pc := 17) (lv1 := [(1, _), (0, _)]) dX12_flawed_17 rfl (by decide) rfl ?_
    refine V_iconst (pc := 18) (x := 0) dX12_flawed_18 (by decide) ?_
    refine V_istore_n (pc := 19) (lv1 := [(2, _), (1, _), (0, _)]) dX12_flawed_19 rfl (by decide) rfl ?_
    exact V_sub [2, 1, 0] rfl (wX12_flawed_20 H0 FUEL (0 : Int32) (0 : Int32) ((mX12_isRefused r0 (mX12_unless (d.1 r0 14)) d).2) h)
  · have h := ite_p c5 h
    refine V_iconst (pc := 14) (x := (-1)) dX12_flawed_14 (by decide) ?_
    cases h
    exact V_ret (pc := 15) dX12_flawed_15 ⟨rfl, _, rfl⟩ ⟨rfl, rfl, rfl⟩
theorem calX12_flaws : Cal yX12_flaws cX12_flaws 2 (some .int) 1 := ⟨kw1746, kw11, by decide +kernel⟩
theorem ctX12_flaws {G : Gl} {σ : Sg} {d : Dt} {r0 : Nat} {v1 : Int32} {rr : Int32 × Dt} (H0 : L11 σ r0) (h : mX12_flaws r0 v1 d = some rr) : CTv G yX12_flaws cX12_flaws 2 (some .int) 7 [.ref (gB G + r0), .int v1] σ d [.int rr.1] rr.2 := by
  refine CT_of pn_RX12 (Nat.le_of_ble_eq_true rfl) ?_
  rw [mX12_flaws] at h
  refine V_aload_n (pc := 0) 0 dX12_flaws_0 rfl rfl ?_
  refine V_aload_n (pc := 1) 0 dX12_flaws_1 rfl rfl ?_
  refine V_iconst (pc := 2) (x := 1) dX12_flaws_2 (by decide) ?_
  refine V_iload_n (pc := 3) 1 dX12_flaws_3 rfl rfl ?_
  obtain ⟨x2, h1, h⟩ := bnd h
  refine V_cV2 (pc := 4) dX12_flaws_4 kw1652 calX12_variantWhy kw1654 ks97 (L11_0 H0) rfl (by decide) (Nat.le_of_ble_eq_true rfl) (ctX12_variantWhy H0 h1) ?_
  refine V_cV1 (pc := 7) dX12_flaws_7 kw1368 calX12_isRefused kw1370 ks54 (L11_0 H0) rfl (by decide) (Nat.le_of_ble_eq_true rfl) (ctX12_isRefused H0) ?_
  refine V_ifB_eq (pc := 10) (tgt := 17) dX12_flaws_10 (by decide) (fun c5 => ?_) (fun c5 => ?_)
  · have h := ite_f c5 h
    refine V_aload_n (pc := 17) 0 dX12_flaws_17 rfl rfl ?_
    refine V_iload_n (pc := 18) 1 dX12_flaws_18 rfl rfl ?_
    obtain ⟨x7, h6, h⟩ := bnd h
    refine V_cV1 (pc := 19) dX12_flaws_19 kw1747 calX12_laysFlaws kw1749 ks107 (L11_0 H0) rfl (by decide) (Nat.le_of_ble_eq_true rfl) (ctX12_laysFlaws H0 h6) ?_
    cases h
    exact V_ret (pc := 22) dX12_flaws_22 ⟨rfl, _, rfl⟩ ⟨rfl, rfl, rfl⟩
  · have h := ite_p c5 h
    refine V_iconst (pc := 13) (x := (-1)) dX12_flaws_13 (by decide) ?_
    refine V_goto (pc := 14) (tgt := 22) dX12_flaws_14 (by decide) ?_
    cases h
    exact V_ret (pc := 22) dX12_flaws_22 ⟨rfl, _, rfl⟩ ⟨rfl, rfl, rfl⟩
theorem wX12_given_28 {G : Gl} {σ : Sg} {r0 : Nat} {v1 : Int32} {v2 : Int32} {rr : Int32 × Dt} (H0 : L11 σ r0) : ∀ (n : Nat) (v3 : Int32) (v4 : Int32) (d : Dt), mX12_given_28 r0 v1 v2 n v3 v4 d = some rr → V G yX12_given cX12_given 5 (some .int) 7 0 0 (PH [.int rr.1] σ rr.2) 28 [(0, .ref (gB G + r0)), (1, .int v1), (2, .int v2), (3, .int v3), (4, .int v4)] [] σ d := by
  intro n
  induction n with
  | zero =>
    intro v3 v4 d
    intros
    rename_i h
    exact absurd h (by rw [mX12_given_28]; exact fun q => nomatch q)
  | succ n ih =>
    intro v3 v4 d h
    rw [mX12_given_28] at h
    refine V_iload (pc := 28) 4 dX12_given_28 rfl ?_
    refine V_aload_n (pc := 30) 0 dX12_given_30 rfl rfl ?_
    refine V_getR (pc := 31) (c := 11) (k := 6) dX12_given_31 (by decide) (by decide) kw1249 rfl rfl (L11_0 H0) (L11_r6 H0) ?_
    refine V_bipush (pc := 34) (x := 6) dX12_given_34 (by decide) ?_
    obtain ⟨b8, h⟩ := ite_o h
    refine V_iald (pc := 36) dX12_given_36 (L11_s6 H0) (inB_vp b8) ?_
    refine V_icmp_ge (pc := 37) (tgt := 79) dX12_given_37 (by decide) (fun c9 => ?_) (fun c9 => ?_)
    · have h := ite_p c9 h
      refine V_iload_n (pc := 79) 3 dX12_given_79 rfl rfl ?_
      cases h
      exact V_ret (pc := 80) dX12_given_80 ⟨rfl, _, rfl⟩ ⟨rfl, rfl, rfl⟩
    · have h := ite_n c9 h
      refine V_iload_n (pc := 40) 3 dX12_given_40 rfl rfl ?_
      refine V_iload_n (pc := 41) 1 dX12_given_41 rfl rfl ?_
      refine V_iload (pc := 42) 4 dX12_given_42 rfl ?_
      refine V_cS2 (pc := 44) dX12_given_44 kw1690 calX12_has kw1691 (by decide) (Nat.le_of_ble_eq_true rfl) (ctX12_has) ?_
      refine V_ifB_eq (pc := 47) (tgt := 70) dX12_given_47 (by decide) (fun c12 => ?_) (fun c12 => ?_)
      · have h := ite_f c12 h
        refine V_iconst (pc := 70) (x := 0) dX12_given_70 (by decide) ?_
        refine V_iadd (pc := 71) dX12_given_71 ?_
        refine V_istore_n (pc := 72) (lv1 := [(3, _), (0, _), (1, _), (2, _), (4, _)]) dX12_given_72 rfl (by decide) rfl ?_
        refine V_iinc (pc := 73) (lv1 := [(4, _), (3, _), (0, _), (1, _), (2, _)]) (z := _ + (1 : Int32)) 4 dX12_given_73 rfl rfl (by decide) rfl ?_
        refine V_goto (pc := 76) (tgt := 28) dX12_given_76 (by decide) ?_
        exact V_sub [2, 3, 4, 1, 0] rfl (ih (v3 + (0 : Int32)) (v4 + (1 : Int32)) d h)
      · have h := ite_p c12 h
        refine V_iload_n (pc := 50) 2 dX12_given_50 rfl rfl ?_
        refine V_aload_n (pc := 51) 0 dX12_given_51 rfl rfl ?_
        refine V_iconst (pc := 52) (x := 1) dX12_given_52 (by decide) ?_
        refine V_iload (pc := 53) 4 dX12_given_53 rfl ?_
        refine V_ishl (pc := 55) dX12_given_55 ?_
        obtain ⟨x14, h13, h⟩ := bnd h
        refine V_cV1 (pc := 56) dX12_given_56 kw1807 calX12_commonOf kw1809 ks117 (L11_0 H0) rfl (by decide) (Nat.le_of_ble_eq_true rfl) (ctX12_commonOf H0 h13) ?_
        refine V_isub (pc := 59) dX12_given_59 ?_
        refine V_aload_n (pc := 60) 0 dX12_given_60 rfl rfl ?_
        refine V_iload (pc := 61) 4 dX12_given_61 rfl ?_
        obtain ⟨x16, h15, h⟩ := bnd h
        refine V_cV1 (pc := 63) dX12_given_63 kw1823 calX12_manyOf kw1825 ks119 (L11_0 H0) rfl (by decide) (Nat.le_of_ble_eq_true rfl) (ctX12_manyOf H0 h15) ?_
        refine V_imul (pc := 66) dX12_given_66 ?_
        refine V_goto (pc := 67) (tgt := 71) dX12_given_67 (by decide) ?_
        refine V_iadd (pc := 71) dX12_given_71 ?_
        refine V_istore_n (pc := 72) (lv1 := [(3, _), (0, _), (1, _), (2, _), (4, _)]) dX12_given_72 rfl (by decide) rfl ?_
        refine V_iinc (pc := 73) (lv1 := [(4, _), (3, _), (0, _), (1, _), (2, _)]) (z := _ + (1 : Int32)) 4 dX12_given_73 rfl rfl (by decide) rfl ?_
        refine V_goto (pc := 76) (tgt := 28) dX12_given_76 (by decide) ?_
        exact V_sub [2, 3, 4, 1, 0] rfl (ih (v3 + ((v2 - x14) * x16)) (v4 + (1 : Int32)) d h)
theorem calX12_given : Cal yX12_given cX12_given 5 (some .int) 1 := ⟨kw1822, kw11, by decide +kernel⟩
theorem ctX12_given {G : Gl} {σ : Sg} {d : Dt} {r0 : Nat} {v1 : Int32} {rr : Int32 × Dt} (H0 : L11 σ r0) (h : mX12_given r0 v1 d = some rr) : CTv G yX12_given cX12_given 5 (some .int) 7 [.ref (gB G + r0), .int v1] σ d [.int rr.1] rr.2 := by
  refine CT_of pn_RX12 (Nat.le_of_ble_eq_true rfl) ?_
  rw [mX12_given] at h
  refine V_aload_n (pc := 0) 0 dX12_given_0 rfl rfl ?_
  refine V_aload_n (pc := 1) 0 dX12_given_1 rfl rfl ?_
  refine V_iconst (pc := 2) (x := 1) dX12_given_2 (by decide) ?_
  refine V_iload_n (pc := 3) 1 dX12_given_3 rfl rfl ?_
  obtain ⟨x2, h1, h⟩ := bnd h
  refine V_cV2 (pc := 4) dX12_given_4 kw1803 calX12_buildsWhy kw1805 ks116 (L11_0 H0) rfl (by decide) (Nat.le_of_ble_eq_true rfl) (ctX12_buildsWhy H0 h1) ?_
  refine V_cV1 (pc := 7) dX12_given_7 kw1368 calX12_isRefused kw1370 ks54 (L11_0 H0) rfl (by decide) (Nat.le_of_ble_eq_true rfl) (ctX12_isRefused H0) ?_
  refine V_ifB_eq (pc := 10) (tgt := 17) dX12_given_10 (by decide) (fun c5 => ?_) (fun c5 => ?_)
  · have h := ite_f c5 h
    refine V_aload_n (pc := 17) 0 dX12_given_17 rfl rfl ?_
    refine V_iload_n (pc := 18) 1 dX12_given_18 rfl rfl ?_
    obtain ⟨x7, h6, h⟩ := bnd h
    refine V_cV1 (pc := 19) dX12_given_19 kw1807 calX12_commonOf kw1809 ks117 (L11_0 H0) rfl (by decide) (Nat.le_of_ble_eq_true rfl) (ctX12_commonOf H0 h6) ?_
    refine V_istore_n (pc := 22) (lv1 := [(2, _), (0, _), (1, _)]) dX12_given_22 rfl (by decide) rfl ?_
    refine V_iconst (pc := 23) (x := 0) dX12_given_23 (by decide) ?_
    refine V_istore_n (pc := 24) (lv1 := [(3, _), (2, _), (0, _), (1, _)]) dX12_given_24 rfl (by decide) rfl ?_
    refine V_iconst (pc := 25) (x := 0) dX12_given_25 (by decide) ?_
    refine V_istore (pc := 26) (lv1 := [(4, _), (3, _), (2, _), (0, _), (1, _)]) dX12_given_26 (by decide) rfl ?_
    exact V_sub [3, 4, 2, 1, 0] rfl (wX12_given_28 H0 FUEL (0 : Int32) (0 : Int32) ((mX12_isRefused r0 x2 d).2) h)
  · have h := ite_p c5 h
    refine V_ldcw (pc := 13) dX12_given_13 kw1578 ?_
    cases h
    exact V_ret (pc := 16) dX12_given_16 ⟨rfl, _, rfl⟩ ⟨rfl, rfl, rfl⟩
theorem wX12_group_27 {G : Gl} {σ : Sg} {d : Dt} {r0 : Nat} {v1 : Int32} {v2 : Int32} {vs0 : Int32} {rs1 : Nat} {rr : Int32 × Dt} (H0 : L11 σ r0) (Hs1 : L11 σ rs1) (h : mX12_group_27 r0 v1 v2 vs0 rs1 d = some rr) : V G yX12_group cX12_group 3 (some .int) 17 0 0 (PH [.int rr.1] σ rr.2) 27 [(0, .ref (gB G + r0)), (1, .int v1), (2, .int v2)] [.int vs0, .ref (gB G + rs1)] σ d := by
  rw [mX12_group_27] at h
  refine V_cV1 (pc := 27) dX12_group_27 kw1368 calX12_isRefused kw1370 ks54 (L11_0 Hs1) rfl (by decide) (Nat.le_of_ble_eq_true rfl) (ctX12_isRefused Hs1) ?_
  refine V_ifB_eq (pc := 30) (tgt := 35) dX12_group_30 (by decide) (fun c9 => ?_) (fun c9 => ?_)
  · have h := ite_f c9 h
    refine V_aload_n (pc := 35) 0 dX12_group_35 rfl rfl ?_
    refine V_iload_n (pc := 36) 1 dX12_group_36 rfl rfl ?_
    obtain ⟨x11, h10, h⟩ := bnd h
    refine V_cV1 (pc := 37) dX12_group_37 kw1835 calX12_laysFamilies kw1837 ks121 (L11_0 H0) rfl (by decide) (Nat.le_of_ble_eq_true rfl) (ctX12_laysFamilies H0 h10) ?_
    refine V_aload_n (pc := 40) 0 dX12_group_40 rfl rfl ?_
    refine V_getR (pc := 41) (c := 11) (k := 29) dX12_group_41 (by decide) (by decide) kw1272 rfl rfl (L11_0 H0) (L11_r29 H0) ?_
    refine V_iload_n (pc := 44) 2 dX12_group_44 rfl rfl ?_
    obtain ⟨b12, h⟩ := ite_o h
    refine V_iald (pc := 45) dX12_group_45 (L11_s29 H0) (inB_vp b12) ?_
    cases h
    exact V_ret (pc := 46) dX12_group_46 ⟨rfl, _, rfl⟩ ⟨rfl, rfl, rfl⟩
  · have h := ite_p c9 h
    refine V_iconst (pc := 33) (x := (-1)) dX12_group_33 (by decide) ?_
    cases h
    exact V_ret (pc := 34) dX12_group_34 ⟨rfl, _, rfl⟩ ⟨rfl, rfl, rfl⟩
theorem calX12_group : Cal yX12_group cX12_group 3 (some .int) 2 := ⟨kw1854, kw11, by decide +kernel⟩
theorem ctX12_group {G : Gl} {σ : Sg} {d : Dt} {r0 : Nat} {v1 : Int32} {v2 : Int32} {rr : Int32 × Dt} (H0 : L11 σ r0) (h : mX12_group r0 v1 v2 d = some rr) : CTv G yX12_group cX12_group 3 (some .int) 17 [.ref (gB G + r0), .int v1, .int v2] σ d [.int rr.1] rr.2 := by
  refine CT_of pn_RX12 (Nat.le_of_ble_eq_true rfl) ?_
  rw [mX12_group] at h
  refine V_aload_n (pc := 0) 0 dX12_group_0 rfl rfl ?_
  refine V_aload_n (pc := 1) 0 dX12_group_1 rfl rfl ?_
  refine V_iload_n (pc := 2) 2 dX12_group_2 rfl rfl ?_
  obtain ⟨x2, h1, h⟩ := bnd h
  refine V_cV1 (pc := 3) dX12_group_3 kw1795 calX12_isBuild kw1797 ks115 (L11_0 H0) rfl (by decide) (Nat.le_of_ble_eq_true rfl) (ctX12_isBuild H0 h1) ?_
  refine V_ifB_ne (pc := 6) (tgt := 13) dX12_group_6 (by decide) (fun c3 => ?_) (fun c3 => ?_)
  · have h := ite_p c3 h
    refine V_iload_n (pc := 13) 1 dX12_group_13 rfl rfl ?_
    refine V_iconst (pc := 14) (x := 1) dX12_group_14 (by decide) ?_
    refine V_iconst (pc := 15) (x := 5) dX12_group_15 (by decide) ?_
    refine V_cS3 (pc := 16) dX12_group_16 kw1365 calX12_in kw1366 (by decide) (Nat.le_of_ble_eq_true rfl) (ctX12_in) ?_
    refine V_ifB_eq (pc := 19) (tgt := 26) dX12_group_19 (by decide) (fun c6 => ?_) (fun c6 => ?_)
    · have h := ite_f c6 h
      refine V_iconst (pc := 26) (x := 2) dX12_group_26 (by decide) ?_
      exact V_sub [0, 1, 2] rfl (wX12_group_27 H0 H0 h)
    · have h := ite_p c6 h
      refine V_iconst (pc := 22) (x := 0) dX12_group_22 (by decide) ?_
      refine V_goto (pc := 23) (tgt := 27) dX12_group_23 (by decide) ?_
      exact V_sub [0, 1, 2] rfl (wX12_group_27 H0 H0 h)
  · have h := ite_f c3 h
    refine V_iconst (pc := 9) (x := 1) dX12_group_9 (by decide) ?_
    refine V_goto (pc := 10) (tgt := 27) dX12_group_10 (by decide) ?_
    exact V_sub [0, 1, 2] rfl (wX12_group_27 H0 H0 h)
theorem calX12_groups : Cal yX12_groups cX12_groups 2 (some .int) 1 := ⟨kw1850, kw11, by decide +kernel⟩
theorem ctX12_groups {G : Gl} {σ : Sg} {d : Dt} {r0 : Nat} {v1 : Int32} {rr : Int32 × Dt} (H0 : L11 σ r0) (h : mX12_groups r0 v1 d = some rr) : CTv G yX12_groups cX12_groups 2 (some .int) 17 [.ref (gB G + r0), .int v1] σ d [.int rr.1] rr.2 := by
  refine CT_of pn_RX12 (Nat.le_of_ble_eq_true rfl) ?_
  rw [mX12_groups] at h
  refine V_aload_n (pc := 0) 0 dX12_groups_0 rfl rfl ?_
  refine V_aload_n (pc := 1) 0 dX12_groups_1 rfl rfl ?_
  refine V_iload_n (pc := 2) 1 dX12_groups_2 rfl rfl ?_
  obtain ⟨x2, h1, h⟩ := bnd h
  refine V_cV1 (pc := 3) dX12_groups_3 kw1831 calX12_familiesWhy kw1833 ks120 (L11_0 H0) rfl (by decide) (Nat.le_of_ble_eq_true rfl) (ctX12_familiesWhy H0 h1) ?_
  refine V_cV1 (pc := 6) dX12_groups_6 kw1368 calX12_isRefused kw1370 ks54 (L11_0 H0) rfl (by decide) (Nat.le_of_ble_eq_true rfl) (ctX12_isRefused H0) ?_
  refine V_ifB_eq (pc := 9) (tgt := 14) dX12_groups_9 (by decide) (fun c5 => ?_) (fun c5 => ?_)
  · have h := ite_f c5 h
    refine V_aload_n (pc := 14) 0 dX12_groups_14 rfl rfl ?_
    refine V_iload_n (pc := 15) 1 dX12_groups_15 rfl rfl ?_
    obtain ⟨x7, h6, h⟩ := bnd h
    refine V_cV1 (pc := 16) dX12_groups_16 kw1835 calX12_laysFamilies kw1837 ks121 (L11_0 H0) rfl (by decide) (Nat.le_of_ble_eq_true rfl) (ctX12_laysFamilies H0 h6) ?_
    refine V_aload_n (pc := 19) 0 dX12_groups_19 rfl rfl ?_
    refine V_getI (pc := 20) (c := 11) (k := 31) dX12_groups_20 (by decide) (by decide) kw1274 rfl rfl (L11_0 H0) ?_
    cases h
    exact V_ret (pc := 23) dX12_groups_23 ⟨rfl, _, rfl⟩ ⟨rfl, rfl, rfl⟩
  · have h := ite_p c5 h
    refine V_iconst (pc := 12) (x := (-1)) dX12_groups_12 (by decide) ?_
    cases h
    exact V_ret (pc := 13) dX12_groups_13 ⟨rfl, _, rfl⟩ ⟨rfl, rfl, rfl⟩
theorem wX12_handMany_4 {G : Gl} {σ : Sg} {d : Dt} {r0 : Nat} {rr : Int32} (H0 : L11 σ r0) : ∀ (n : Nat) (v1 : Int32) (v2 : Int32), mX12_handMany_4 d r0 n v1 v2 = some rr → V G yX12_handMany cX12_handMany 3 (some .int) 1 0 0 (PH [.int rr] σ d) 4 [(0, .ref (gB G + r0)), (1, .int v1), (2, .int v2)] [] σ d := by
  intro n
  induction n with
  | zero =>
    intro v1 v2
    intros
    rename_i h
    exact absurd h (by rw [mX12_handMany_4]; exact fun q => nomatch q)
  | succ n ih =>
    intro v1 v2 h
    rw [mX12_handMany_4] at h
    refine V_aload_n (pc := 4) 0 dX12_handMany_4 rfl rfl ?_
    refine V_getI (pc := 5) (c := 11) (k := 14) dX12_handMany_5 (by decide) (by decide) kw1257 rfl rfl (L11_0 H0) ?_
    refine V_if_eq (pc := 8) (tgt := 46) dX12_handMany_8 (by decide) (fun c1 => ?_) (fun c1 => ?_)
    · have h := ite_p c1 h
      refine V_iload_n (pc := 46) 1 dX12_handMany_46 rfl rfl ?_
      cases h
      exact V_ret (pc := 47) dX12_handMany_47 ⟨rfl, _, rfl⟩ ⟨rfl, rfl, rfl⟩
    · have h := ite_n c1 h
      refine V_iload_n (pc := 11) 2 dX12_handMany_11 rfl rfl ?_
      refine V_aload_n (pc := 12) 0 dX12_handMany_12 rfl rfl ?_
      refine V_getR (pc := 13) (c := 11) (k := 6) dX12_handMany_13 (by decide) (by decide) kw1249 rfl rfl (L11_0 H0) (L11_r6 H0) ?_
      refine V_iconst (pc := 16) (x := 5) dX12_handMany_16 (by decide) ?_
      obtain ⟨b2, h⟩ := ite_o h
      refine V_iald (pc := 17) dX12_handMany_17 (L11_s6 H0) (inB_vp b2) ?_
      refine V_icmp_ge (pc := 18) (tgt := 46) dX12_handMany_18 (by decide) (fun c3 => ?_) (fun c3 => ?_)
      · have h := ite_p c3 h
        refine V_iload_n (pc := 46) 1 dX12_handMany_46 rfl rfl ?_
        cases h
        exact V_ret (pc := 47) dX12_handMany_47 ⟨rfl, _, rfl⟩ ⟨rfl, rfl, rfl⟩
      · have h := ite_n c3 h
        refine V_iload_n (pc := 21) 1 dX12_handMany_21 rfl rfl ?_
        refine V_aload_n (pc := 22) 0 dX12_handMany_22 rfl rfl ?_
        refine V_iload_n (pc := 23) 2 dX12_handMany_23 rfl rfl ?_
        refine V_iconst (pc := 24) (x := 5) dX12_handMany_24 (by decide) ?_
        obtain ⟨x5, h4, h⟩ := bnd h
        refine V_cV2 (pc := 25) dX12_handMany_25 kw1636 calX12_netOf kw1638 ks95 (L11_0 H0) rfl (by decide) (Nat.le_of_ble_eq_true rfl) (ctX12_netOf H0 h4) ?_
        refine V_bipush (pc := 28) (x := (-2)) dX12_handMany_28 (by decide) ?_
        refine V_icmp_ne (pc := 30) (tgt := 37) dX12_handMany_30 (by decide) (fun c6 => ?_) (fun c6 => ?_)
        · have h := ite_n c6 h
          refine V_iconst (pc := 37) (x := 1) dX12_handMany_37 (by decide) ?_
          refine V_iadd (pc := 38) dX12_handMany_38 ?_
          refine V_istore_n (pc := 39) (lv1 := [(1, _), (0, _), (2, _)]) dX12_handMany_39 rfl (by decide) rfl ?_
          refine V_iinc (pc := 40) (lv1 := [(2, _), (1, _), (0, _)]) (z := _ + (1 : Int32)) 2 dX12_handMany_40 rfl rfl (by decide) rfl ?_
          refine V_goto (pc := 43) (tgt := 4) dX12_handMany_43 (by decide) ?_
          exact V_sub [2, 1, 0] rfl (ih (v1 + (1 : Int32)) (v2 + (1 : Int32)) h)
        · have h := ite_p c6 h
          refine V_iconst (pc := 33) (x := 0) dX12_handMany_33 (by decide) ?_
          refine V_goto (pc := 34) (tgt := 38) dX12_handMany_34 (by decide) ?_
          refine V_iadd (pc := 38) dX12_handMany_38 ?_
          refine V_istore_n (pc := 39) (lv1 := [(1, _), (0, _), (2, _)]) dX12_handMany_39 rfl (by decide) rfl ?_
          refine V_iinc (pc := 40) (lv1 := [(2, _), (1, _), (0, _)]) (z := _ + (1 : Int32)) 2 dX12_handMany_40 rfl rfl (by decide) rfl ?_
          refine V_goto (pc := 43) (tgt := 4) dX12_handMany_43 (by decide) ?_
          exact V_sub [2, 1, 0] rfl (ih (v1 + (0 : Int32)) (v2 + (1 : Int32)) h)
theorem calX12_handMany : Cal yX12_handMany cX12_handMany 3 (some .int) 0 := ⟨kw1886, kw11, by decide +kernel⟩
theorem ctX12_handMany {G : Gl} {σ : Sg} {d : Dt} {r0 : Nat} {rr : Int32} (H0 : L11 σ r0) (h : mX12_handMany r0 d = some rr) : CTv G yX12_handMany cX12_handMany 3 (some .int) 1 [.ref (gB G + r0)] σ d [.int rr] d := by
  refine CT_of pn_RX12 (Nat.le_of_ble_eq_true rfl) ?_
  rw [mX12_handMany] at h
  refine V_iconst (pc := 0) (x := 0) dX12_handMany_0 (by decide) ?_
  refine V_istore_n (pc := 1) (lv1 := [(1, _), (0, _)]) dX12_handMany_1 rfl (by decide) rfl ?_
  refine V_iconst (pc := 2) (x := 0) dX12_handMany_2 (by decide) ?_
  refine V_istore_n (pc := 3) (lv1 := [(2, _), (1, _), (0, _)]) dX12_handMany_3 rfl (by decide) rfl ?_
  exact V_sub [2, 1, 0] rfl (wX12_handMany_4 H0 FUEL (0 : Int32) (0 : Int32) h)
theorem calX12_lays : Cal yX12_lays cX12_lays 3 (some .boolean) 2 := ⟨kw1415, kw11, by decide +kernel⟩
theorem ctX12_lays {G : Gl} {σ : Sg} {d : Dt} {r0 : Nat} {v1 : Int32} {v2 : Int32} {rr : Bool × Dt} (H0 : L11 σ r0) (h : mX12_lays r0 v1 v2 d = some rr) : CTv G yX12_lays cX12_lays 3 (some .boolean) 0 [.ref (gB G + r0), .int v1, .int v2] σ d [.int (b2i rr.1)] rr.2 := by
  refine CT_of pn_RX12 (Nat.le_of_ble_eq_true rfl) ?_
  rw [mX12_lays] at h
  refine V_aload_n (pc := 0) 0 dX12_lays_0 rfl rfl ?_
  refine V_getR (pc := 1) (c := 11) (k := 7) dX12_lays_1 (by decide) (by decide) kw1250 rfl rfl (L11_0 H0) (L11_r7 H0) ?_
  refine V_iload_n (pc := 4) 1 dX12_lays_4 rfl rfl ?_
  refine V_iload_n (pc := 5) 2 dX12_lays_5 rfl rfl ?_
  obtain ⟨b1, h⟩ := ite_o h
  refine V_iast (pc := 6) dX12_lays_6 (L11_s7 H0) (inB_vp b1) ?_
  refine V_iload_n (pc := 7) 2 dX12_lays_7 rfl rfl ?_
  refine V_iconst (pc := 8) (x := (-1)) dX12_lays_8 (by decide) ?_
  refine V_icmp_eq (pc := 9) (tgt := 16) dX12_lays_9 (by decide) (fun c2 => ?_) (fun c2 => ?_)
  · have h := ite_p c2 h
    refine V_iconst (pc := 16) (x := 0) dX12_lays_16 (by decide) ?_
    cases h
    exact V_ret (pc := 17) dX12_lays_17 ⟨rfl, _, rfl, rfl⟩ ⟨rfl, rfl, rfl⟩
  · have h := ite_n c2 h
    refine V_iconst (pc := 12) (x := 1) dX12_lays_12 (by decide) ?_
    refine V_goto (pc := 13) (tgt := 17) dX12_lays_13 (by decide) ?_
    cases h
    exact V_ret (pc := 17) dX12_lays_17 ⟨rfl, _, rfl, rfl⟩ ⟨rfl, rfl, rfl⟩
theorem calX12_readBoard : Cal yX12_readBoard cX12_readBoard 1 (some .boolean) 0 := ⟨kw1398, kw11, by decide +kernel⟩
theorem ctX12_readBoard {G : Gl} {σ : Sg} {d : Dt} {r0 : Nat} {rr : Bool × Dt} (H0 : L11 σ r0) (h : mX12_readBoard r0 d = some rr) : CTv G yX12_readBoard cX12_readBoard 1 (some .boolean) 8 [.ref (gB G + r0)] σ d [.int (b2i rr.1)] rr.2 := by
  refine CT_of pn_RX12 (Nat.le_of_ble_eq_true rfl) ?_
  rw [mX12_readBoard] at h
  refine V_aload_n (pc := 0) 0 dX12_readBoard_0 rfl rfl ?_
  refine V_getI (pc := 1) (c := 11) (k := 22) dX12_readBoard_1 (by decide) (by decide) kw1265 rfl rfl (L11_0 H0) ?_
  refine V_if_eq (pc := 4) (tgt := 15) dX12_readBoard_4 (by decide) (fun c1 => ?_) (fun c1 => ?_)
  · have h := ite_p c1 h
    refine V_aload_n (pc := 15) 0 dX12_readBoard_15 rfl rfl ?_
    obtain ⟨x3, h2, h⟩ := bnd h
    refine V_cV0 (pc := 16) dX12_readBoard_16 kw1376 calX12_goesOn kw1378 ks56 (L11_0 H0) rfl (by decide) (Nat.le_of_ble_eq_true rfl) (ctX12_goesOn H0 h2) ?_
    refine V_aload_n (pc := 19) 0 dX12_readBoard_19 rfl rfl ?_
    refine V_aload_n (pc := 20) 0 dX12_readBoard_20 rfl rfl ?_
    refine V_iconst (pc := 21) (x := 0) dX12_readBoard_21 (by decide) ?_
    refine V_aload_n (pc := 22) 0 dX12_readBoard_22 rfl rfl ?_
    refine V_ldcS (pc := 23) (i := 10) (tx := "slack") dX12_readBoard_23 (by decide) ?_
    refine V_iconst (pc := 25) (x := 0) dX12_readBoard_25 (by decide) ?_
    refine V_bipush (pc := 26) (x := 99) dX12_readBoard_26 (by decide) ?_
    obtain ⟨x5, h4, h⟩ := bnd h
    refine V_cV3 (pc := 28) dX12_readBoard_28 kw1404 calX12_after kw1406 ks62 (L11_0 H0) rfl (by decide) (Nat.le_of_ble_eq_true rfl) (ctX12_after H0 (by decide) h4) ?_
    obtain ⟨x7, h6, h⟩ := bnd h
    refine V_cV2 (pc := 31) dX12_readBoard_31 kw1412 calX12_lays kw1414 ks64 (L11_0 H0) rfl (by decide) (Nat.le_of_ble_eq_true rfl) (ctX12_lays H0 h6) ?_
    refine V_ifB_eq (pc := 34) (tgt := 58) dX12_readBoard_34 (by decide) (fun c8 => ?_) (fun c8 => ?_)
    · have h := ite_f c8 h
      refine V_iconst (pc := 58) (x := 0) dX12_readBoard_58 (by decide) ?_
      refine V_putI (pc := 59) (c := 11) (k := 22) dX12_readBoard_59 (by decide) (by decide) kw1265 rfl rfl rfl ⟨rfl, rfl⟩ (L11_0 H0) ?_
      refine V_aload_n (pc := 62) 0 dX12_readBoard_62 rfl rfl ?_
      refine V_getI (pc := 63) (c := 11) (k := 22) dX12_readBoard_63 (by decide) (by decide) kw1265 rfl rfl (L11_0 H0) ?_
      obtain ⟨b9, hb9, h⟩ := bnd h
      have hq9 := bq_some hb9
      cases h
      exact V_ret (pc := 66) dX12_readBoard_66 ⟨rfl, _, rfl, by rw [hq9]; exact b2i_nar _⟩ ⟨by rw [hq9] <;> rfl, rfl, rfl⟩
    · have h := ite_p c8 h
      refine V_aload_n (pc := 37) 0 dX12_readBoard_37 rfl rfl ?_
      refine V_iconst (pc := 38) (x := 1) dX12_readBoard_38 (by decide) ?_
      refine V_aload_n (pc := 39) 0 dX12_readBoard_39 rfl rfl ?_
      refine V_ldcS (pc := 40) (i := 11) (tx := "joint") dX12_readBoard_40 (by decide) ?_
      refine V_iconst (pc := 42) (x := 0) dX12_readBoard_42 (by decide) ?_
      refine V_bipush (pc := 43) (x := 99) dX12_readBoard_43 (by decide) ?_
      obtain ⟨x10, h9, h⟩ := bnd h
      refine V_cV3 (pc := 45) dX12_readBoard_45 kw1404 calX12_after kw1406 ks62 (L11_0 H0) rfl (by decide) (Nat.le_of_ble_eq_true rfl) (ctX12_after H0 (by decide) h9) ?_
      obtain ⟨x12, h11, h⟩ := bnd h
      refine V_cV2 (pc := 48) dX12_readBoard_48 kw1412 calX12_lays kw1414 ks64 (L11_0 H0) rfl (by decide) (Nat.le_of_ble_eq_true rfl) (ctX12_lays H0 h11) ?_
      refine V_ifB_eq (pc := 51) (tgt := 58) dX12_readBoard_51 (by decide) (fun c13 => ?_) (fun c13 => ?_)
      · have h := ite_f c13 h
        refine V_iconst (pc := 58) (x := 0) dX12_readBoard_58 (by decide) ?_
        refine V_putI (pc := 59) (c := 11) (k := 22) dX12_readBoard_59 (by decide) (by decide) kw1265 rfl rfl rfl ⟨rfl, rfl⟩ (L11_0 H0) ?_
        refine V_aload_n (pc := 62) 0 dX12_readBoard_62 rfl rfl ?_
        refine V_getI (pc := 63) (c := 11) (k := 22) dX12_readBoard_63 (by decide) (by decide) kw1265 rfl rfl (L11_0 H0) ?_
        obtain ⟨b9, hb9, h⟩ := bnd h
        have hq9 := bq_some hb9
        cases h
        exact V_ret (pc := 66) dX12_readBoard_66 ⟨rfl, _, rfl, by rw [hq9]; exact b2i_nar _⟩ ⟨by rw [hq9] <;> rfl, rfl, rfl⟩
      · have h := ite_p c13 h
        refine V_iconst (pc := 54) (x := 1) dX12_readBoard_54 (by decide) ?_
        refine V_goto (pc := 55) (tgt := 59) dX12_readBoard_55 (by decide) ?_
        refine V_putI (pc := 59) (c := 11) (k := 22) dX12_readBoard_59 (by decide) (by decide) kw1265 rfl rfl rfl ⟨rfl, rfl⟩ (L11_0 H0) ?_
        refine V_aload_n (pc := 62) 0 dX12_readBoard_62 rfl rfl ?_
        refine V_getI (pc := 63) (c := 11) (k := 22) dX12_readBoard_63 (by decide) (by decide) kw1265 rfl rfl (L11_0 H0) ?_
        obtain ⟨b9, hb9, h⟩ := bnd h
        have hq9 := bq_some hb9
        cases h
        exact V_ret (pc := 66) dX12_readBoard_66 ⟨rfl, _, rfl, by rw [hq9]; exact b2i_nar _⟩ ⟨by rw [hq9] <;> rfl, rfl, rfl⟩
  · have h := ite_n c1 h
    refine V_aload_n (pc := 7) 0 dX12_readBoard_7 rfl rfl ?_
    refine V_iconst (pc := 8) (x := 3) dX12_readBoard_8 (by decide) ?_
    refine V_cV1 (pc := 9) dX12_readBoard_9 kw1399 calX12_errs kw1401 ks61 (L11_0 H0) rfl (by decide) (Nat.le_of_ble_eq_true rfl) (ctX12_errs H0) ?_
    refine V_pop (pc := 12) dX12_readBoard_12 rfl ?_
    refine V_iconst (pc := 13) (x := 0) dX12_readBoard_13 (by decide) ?_
    cases h
    exact V_ret (pc := 14) dX12_readBoard_14 ⟨rfl, _, rfl, rfl⟩ ⟨rfl, rfl, rfl⟩
theorem calX12_isName : Cal yX12_isName cX12_isName 1 (some .boolean) 0 := ⟨kw1433, kw11, by decide +kernel⟩
theorem ctX12_isName {G : Gl} {σ : Sg} {d : Dt} {r0 : Nat} {rr : Bool} (H0 : L11 σ r0) (h : mX12_isName r0 d = some rr) : CTv G yX12_isName cX12_isName 1 (some .boolean) 7 [.ref (gB G + r0)] σ d [.int (b2i rr)] d := by
  refine CT_of pn_RX12 (Nat.le_of_ble_eq_true rfl) ?_
  rw [mX12_isName] at h
  refine V_aload_n (pc := 0) 0 dX12_isName_0 rfl rfl ?_
  refine V_getI (pc := 1) (c := 11) (k := 18) dX12_isName_1 (by decide) (by decide) kw1261 rfl rfl (L11_0 H0) ?_
  refine V_iconst (pc := 4) (x := 2) dX12_isName_4 (by decide) ?_
  refine V_icmp_ne (pc := 5) (tgt := 102) dX12_isName_5 (by decide) (fun c1 => ?_) (fun c1 => ?_)
  · have h := ite_n c1 h
    refine V_iconst (pc := 102) (x := 0) dX12_isName_102 (by decide) ?_
    cases h
    exact V_ret (pc := 103) dX12_isName_103 ⟨rfl, _, rfl, rfl⟩ ⟨rfl, rfl, rfl⟩
  · have h := ite_p c1 h
    refine V_aload_n (pc := 8) 0 dX12_isName_8 rfl rfl ?_
    refine V_ldcS (pc := 9) (i := 0) (tx := "board") dX12_isName_9 (by decide) ?_
    obtain ⟨x3, h2, h⟩ := bnd h
    refine V_cV1 (pc := 11) dX12_isName_11 kw1389 calX12_isWord kw1391 ks59 (L11_0 H0) rfl (by decide) (Nat.le_of_ble_eq_true rfl) (ctX12_isWord H0 (by decide) h2) ?_
    refine V_ifB_ne (pc := 14) (tgt := 102) dX12_isName_14 (by decide) (fun c4 => ?_) (fun c4 => ?_)
    · have h := ite_p c4 h
      refine V_iconst (pc := 102) (x := 0) dX12_isName_102 (by decide) ?_
      cases h
      exact V_ret (pc := 103) dX12_isName_103 ⟨rfl, _, rfl, rfl⟩ ⟨rfl, rfl, rfl⟩
    · have h := ite_f c4 h
      refine V_aload_n (pc := 17) 0 dX12_isName_17 rfl rfl ?_
      refine V_ldcS (pc := 18) (i := 1) (tx := "node") dX12_isName_18 (by decide) ?_
      obtain ⟨x6, h5, h⟩ := bnd h
      refine V_cV1 (pc := 20) dX12_isName_20 kw1389 calX12_isWord kw1391 ks59 (L11_0 H0) rfl (by decide) (Nat.le_of_ble_eq_true rfl) (ctX12_isWord H0 (by decide) h5) ?_
      refine V_ifB_ne (pc := 23) (tgt := 102) dX12_isName_23 (by decide) (fun c7 => ?_) (fun c7 => ?_)
      · have h := ite_p c7 h
        refine V_iconst (pc := 102) (x := 0) dX12_isName_102 (by decide) ?_
        cases h
        exact V_ret (pc := 103) dX12_isName_103 ⟨rfl, _, rfl, rfl⟩ ⟨rfl, rfl, rfl⟩
      · have h := ite_f c7 h
        refine V_aload_n (pc := 26) 0 dX12_isName_26 rfl rfl ?_
        refine V_ldcS (pc := 27) (i := 2) (tx := "option") dX12_isName_27 (by decide) ?_
        obtain ⟨x9, h8, h⟩ := bnd h
        refine V_cV1 (pc := 29) dX12_isName_29 kw1389 calX12_isWord kw1391 ks59 (L11_0 H0) rfl (by decide) (Nat.le_of_ble_eq_true rfl) (ctX12_isWord H0 (by decide) h8) ?_
        refine V_ifB_ne (pc := 32) (tgt := 102) dX12_isName_32 (by decide) (fun c10 => ?_) (fun c10 => ?_)
        · have h := ite_p c10 h
          refine V_iconst (pc := 102) (x := 0) dX12_isName_102 (by decide) ?_
          cases h
          exact V_ret (pc := 103) dX12_isName_103 ⟨rfl, _, rfl, rfl⟩ ⟨rfl, rfl, rfl⟩
        · have h := ite_f c10 h
          refine V_aload_n (pc := 35) 0 dX12_isName_35 rfl rfl ?_
          refine V_ldcS (pc := 36) (i := 3) (tx := "plug") dX12_isName_36 (by decide) ?_
          obtain ⟨x12, h11, h⟩ := bnd h
          refine V_cV1 (pc := 38) dX12_isName_38 kw1389 calX12_isWord kw1391 ks59 (L11_0 H0) rfl (by decide) (Nat.le_of_ble_eq_true rfl) (ctX12_isWord H0 (by decide) h11) ?_
          refine V_ifB_ne (pc := 41) (tgt := 102) dX12_isName_41 (by decide) (fun c13 => ?_) (fun c13 => ?_)
          · have h := ite_p c13 h
            refine V_iconst (pc := 102) (x := 0) dX12_isName_102 (by decide) ?_
            cases h
            exact V_ret (pc := 103) dX12_isName_103 ⟨rfl, _, rfl, rfl⟩ ⟨rfl, rfl, rfl⟩
          · have h := ite_f c13 h
            refine V_aload_n (pc := 44) 0 dX12_isName_44 rfl rfl ?_
            refine V_ldcS (pc := 45) (i := 4) (tx := "net") dX12_isName_45 (by decide) ?_
            obtain ⟨x15, h14, h⟩ := bnd h
            refine V_cV1 (pc := 47) dX12_isName_47 kw1389 calX12_isWord kw1391 ks59 (L11_0 H0) rfl (by decide) (Nat.le_of_ble_eq_true rfl) (ctX12_isWord H0 (by decide) h14) ?_
            refine V_ifB_ne (pc := 50) (tgt := 102) dX12_isName_50 (by decide) (fun c16 => ?_) (fun c16 => ?_)
            · have h := ite_p c16 h
              refine V_iconst (pc := 102) (x := 0) dX12_isName_102 (by decide) ?_
              cases h
              exact V_ret (pc := 103) dX12_isName_103 ⟨rfl, _, rfl, rfl⟩ ⟨rfl, rfl, rfl⟩
            · have h := ite_f c16 h
              refine V_aload_n (pc := 53) 0 dX12_isName_53 rfl rfl ?_
              refine V_ldcS (pc := 54) (i := 5) (tx := "build") dX12_isName_54 (by decide) ?_
              obtain ⟨x18, h17, h⟩ := bnd h
              refine V_cV1 (pc := 56) dX12_isName_56 kw1389 calX12_isWord kw1391 ks59 (L11_0 H0) rfl (by decide) (Nat.le_of_ble_eq_true rfl) (ctX12_isWord H0 (by decide) h17) ?_
              refine V_ifB_ne (pc := 59) (tgt := 102) dX12_isName_59 (by decide) (fun c19 => ?_) (fun c19 => ?_)
              · have h := ite_p c19 h
                refine V_iconst (pc := 102) (x := 0) dX12_isName_102 (by decide) ?_
                cases h
                exact V_ret (pc := 103) dX12_isName_103 ⟨rfl, _, rfl, rfl⟩ ⟨rfl, rfl, rfl⟩
              · have h := ite_f c19 h
                refine V_aload_n (pc := 62) 0 dX12_isName_62 rfl rfl ?_
                refine V_ldcS (pc := 63) (i := 6) (tx := "off") dX12_isName_63 (by decide) ?_
                obtain ⟨x21, h20, h⟩ := bnd h
                refine V_cV1 (pc := 65) dX12_isName_65 kw1389 calX12_isWord kw1391 ks59 (L11_0 H0) rfl (by decide) (Nat.le_of_ble_eq_true rfl) (ctX12_isWord H0 (by decide) h20) ?_
                refine V_ifB_ne (pc := 68) (tgt := 102) dX12_isName_68 (by decide) (fun c22 => ?_) (fun c22 => ?_)
                · have h := ite_p c22 h
                  refine V_iconst (pc := 102) (x := 0) dX12_isName_102 (by decide) ?_
                  cases h
                  exact V_ret (pc := 103) dX12_isName_103 ⟨rfl, _, rfl, rfl⟩ ⟨rfl, rfl, rfl⟩
                · have h := ite_f c22 h
                  refine V_aload_n (pc := 71) 0 dX12_isName_71 rfl rfl ?_
                  refine V_ldcS (pc := 72) (i := 7) (tx := "with") dX12_isName_72 (by decide) ?_
                  obtain ⟨x24, h23, h⟩ := bnd h
                  refine V_cV1 (pc := 74) dX12_isName_74 kw1389 calX12_isWord kw1391 ks59 (L11_0 H0) rfl (by decide) (Nat.le_of_ble_eq_true rfl) (ctX12_isWord H0 (by decide) h23) ?_
                  refine V_ifB_ne (pc := 77) (tgt := 102) dX12_isName_77 (by decide) (fun c25 => ?_) (fun c25 => ?_)
                  · have h := ite_p c25 h
                    refine V_iconst (pc := 102) (x := 0) dX12_isName_102 (by decide) ?_
                    cases h
                    exact V_ret (pc := 103) dX12_isName_103 ⟨rfl, _, rfl, rfl⟩ ⟨rfl, rfl, rfl⟩
                  · have h := ite_f c25 h
                    refine V_aload_n (pc := 80) 0 dX12_isName_80 rfl rfl ?_
                    refine V_ldcS (pc := 81) (i := 8) (tx := "without") dX12_isName_81 (by decide) ?_
                    obtain ⟨x27, h26, h⟩ := bnd h
                    refine V_cV1 (pc := 83) dX12_isName_83 kw1389 calX12_isWord kw1391 ks59 (L11_0 H0) rfl (by decide) (Nat.le_of_ble_eq_true rfl) (ctX12_isWord H0 (by decide) h26) ?_
                    refine V_ifB_ne (pc := 86) (tgt := 102) dX12_isName_86 (by decide) (fun c28 => ?_) (fun c28 => ?_)
                    · have h := ite_p c28 h
                      refine V_iconst (pc := 102) (x := 0) dX12_isName_102 (by decide) ?_
                      cases h
                      exact V_ret (pc := 103) dX12_isName_103 ⟨rfl, _, rfl, rfl⟩ ⟨rfl, rfl, rfl⟩
                    · have h := ite_f c28 h
                      refine V_aload_n (pc := 89) 0 dX12_isName_89 rfl rfl ?_
                      refine V_ldcS (pc := 90) (i := 9) (tx := "of") dX12_isName_90 (by decide) ?_
                      obtain ⟨x30, h29, h⟩ := bnd h
                      refine V_cV1 (pc := 92) dX12_isName_92 kw1389 calX12_isWord kw1391 ks59 (L11_0 H0) rfl (by decide) (Nat.le_of_ble_eq_true rfl) (ctX12_isWord H0 (by decide) h29) ?_
                      refine V_ifB_ne (pc := 95) (tgt := 102) dX12_isName_95 (by decide) (fun c31 => ?_) (fun c31 => ?_)
                      · have h := ite_p c31 h
                        refine V_iconst (pc := 102) (x := 0) dX12_isName_102 (by decide) ?_
                        cases h
                        exact V_ret (pc := 103) dX12_isName_103 ⟨rfl, _, rfl, rfl⟩ ⟨rfl, rfl, rfl⟩
                      · have h := ite_f c31 h
                        refine V_iconst (pc := 98) (x := 1) dX12_isName_98 (by decide) ?_
                        refine V_goto (pc := 99) (tgt := 103) dX12_isName_99 (by decide) ?_
                        cases h
                        exact V_ret (pc := 103) dX12_isName_103 ⟨rfl, _, rfl, rfl⟩ ⟨rfl, rfl, rfl⟩
