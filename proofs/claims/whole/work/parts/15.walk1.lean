theorem wX3_listOfPin_133 {G : Gl} {σ : Sg} {d : Dt} {r0 : Nat} {r1 : Nat} {v2 : Int32} {v4 : Int32} {v5 : Int32} {rr : Dt} (H0 : L3 σ r0) (H1 : L4 σ r1) (h : mX3_listOfPin_133 r0 r1 v2 v4 v5 d = some rr) : V G yX3_listOfPin cX3_listOfPin 9 none 3 0 0 (PH [] σ rr) 133 [(0, .ref (gB G + r0)), (1, .ref (gB G + r1)), (2, .int v2), (4, .int v4), (5, .int v5)] [] σ d := by
  rw [mX3_listOfPin_133] at h
  refine V_aload_n (pc := 133) 0 dX3_listOfPin_133 rfl rfl ?_
  refine V_aload_n (pc := 134) 1 dX3_listOfPin_134 rfl rfl ?_
  refine V_iload_n (pc := 135) 2 dX3_listOfPin_135 rfl rfl ?_
  refine V_iload (pc := 136) 3 dX3_listOfPin_136 rfl ?_
  refine V_iload (pc := 138) 4 dX3_listOfPin_138 rfl ?_
  obtain ⟨x26, h25, h⟩ := bnd h
  refine V_cV4 (pc := 140) dX3_listOfPin_140 kw1009 calX3_firstBeside kw1011 ks42 (L3_0 H0) rfl (by decide) (Nat.le_of_ble_eq_true rfl) (ctX3_firstBeside H0 H1 h25) ?_
  refine V_istore (pc := 143) (lv1 := [(8, _), (0, _), (1, _), (2, _), (4, _), (5, _)]) dX3_listOfPin_143 (by decide) rfl ?_
  refine V_iload (pc := 145) 0 dX3_listOfPin_145 rfl ?_
  refine V_if_lt (pc := 147) (tgt := 162) dX3_listOfPin_147 (by decide) (fun c27 => ?_) (fun c27 => ?_)
  · have h := ite_p c27 h
    cases h
    exact V_ret (pc := 162) dX3_listOfPin_162 ⟨rfl, rfl⟩ ⟨rfl, rfl, rfl⟩
  · have h := ite_n c27 h
    refine V_aload_n (pc := 150) 1 dX3_listOfPin_150 rfl rfl ?_
    refine V_iconst (pc := 151) (x := 4) dX3_listOfPin_151 (by decide) ?_
    refine V_iload_n (pc := 152) 3 dX3_listOfPin_152 rfl rfl ?_
    refine V_iload (pc := 153) 0 dX3_listOfPin_153 rfl ?_
    refine V_iload (pc := 155) 4 dX3_listOfPin_155 rfl ?_
    refine V_iload (pc := 157) 5 dX3_listOfPin_157 rfl ?_
    obtain ⟨x29, h28, h⟩ := bnd h
    refine V_cV5 (pc := 159) dX3_listOfPin_159 kw1000 calX3_add kw1002 ks40 (L3_0 H0) rfl (by decide) (Nat.le_of_ble_eq_true rfl) (ctX3_add H0 h28) ?_
    cases h
    exact V_ret (pc := 162) dX3_listOfPin_162 ⟨rfl, rfl⟩ ⟨rfl, rfl, rfl⟩
theorem wX3_listOfPin_104 {G : Gl} {σ : Sg} {d : Dt} {r0 : Nat} {r1 : Nat} {v2 : Int32} {v4 : Int32} {v5 : Int32} {rr : Dt} (H0 : L3 σ r0) (H1 : L4 σ r1) (h : mX3_listOfPin_104 r0 r1 v2 v4 v5 d = some rr) : V G yX3_listOfPin cX3_listOfPin 9 none 3 0 0 (PH [] σ rr) 104 [(0, .ref (gB G + r0)), (1, .ref (gB G + r1)), (2, .int v2), (4, .int v4), (5, .int v5)] [] σ d := by
  rw [mX3_listOfPin_104] at h
  refine V_aload_n (pc := 104) 0 dX3_listOfPin_104 rfl rfl ?_
  refine V_aload_n (pc := 105) 1 dX3_listOfPin_105 rfl rfl ?_
  refine V_iload_n (pc := 106) 2 dX3_listOfPin_106 rfl rfl ?_
  refine V_iload (pc := 107) 3 dX3_listOfPin_107 rfl ?_
  refine V_iload (pc := 109) 4 dX3_listOfPin_109 rfl ?_
  obtain ⟨x21, h20, h⟩ := bnd h
  refine V_cV4 (pc := 111) dX3_listOfPin_111 kw1004 calX3_firstAt kw1006 ks41 (L3_0 H0) rfl (by decide) (Nat.le_of_ble_eq_true rfl) (ctX3_firstAt H0 H1 h20) ?_
  refine V_istore (pc := 114) (lv1 := [(7, _), (0, _), (1, _), (2, _), (4, _), (5, _)]) dX3_listOfPin_114 (by decide) rfl ?_
  refine V_iload (pc := 116) 0 dX3_listOfPin_116 rfl ?_
  refine V_if_lt (pc := 118) (tgt := 133) dX3_listOfPin_118 (by decide) (fun c22 => ?_) (fun c22 => ?_)
  · have h := ite_p c22 h
    exact V_sub [1, 2, 3, 4, 5] rfl (wX3_listOfPin_133 H0 H1 h)
  · have h := ite_n c22 h
    refine V_aload_n (pc := 121) 1 dX3_listOfPin_121 rfl rfl ?_
    refine V_iconst (pc := 122) (x := 3) dX3_listOfPin_122 (by decide) ?_
    refine V_iload_n (pc := 123) 3 dX3_listOfPin_123 rfl rfl ?_
    refine V_iload (pc := 124) 0 dX3_listOfPin_124 rfl ?_
    refine V_iload (pc := 126) 4 dX3_listOfPin_126 rfl ?_
    refine V_iload (pc := 128) 5 dX3_listOfPin_128 rfl ?_
    obtain ⟨x24, h23, h⟩ := bnd h
    refine V_cV5 (pc := 130) dX3_listOfPin_130 kw1000 calX3_add kw1002 ks40 (L3_0 H0) rfl (by decide) (Nat.le_of_ble_eq_true rfl) (ctX3_add H0 h23) ?_
    exact V_sub [1, 2, 3, 4, 5] rfl (wX3_listOfPin_133 H0 H1 h)
theorem wX3_listOfPin_62 {G : Gl} {σ : Sg} {d : Dt} {r0 : Nat} {r1 : Nat} {v2 : Int32} {v4 : Int32} {v5 : Int32} {v6 : Int32} {rr : Dt} (H0 : L3 σ r0) (H1 : L4 σ r1) (h : mX3_listOfPin_62 r0 r1 v2 v4 v5 v6 d = some rr) : V G yX3_listOfPin cX3_listOfPin 9 none 3 0 0 (PH [] σ rr) 62 [(0, .ref (gB G + r0)), (1, .ref (gB G + r1)), (2, .int v2), (4, .int v4), (5, .int v5), (6, .int v6)] [] σ d := by
  rw [mX3_listOfPin_62] at h
  refine V_iload (pc := 62) 5 dX3_listOfPin_62 rfl ?_
  refine V_aload_n (pc := 64) 1 dX3_listOfPin_64 rfl rfl ?_
  refine V_getR (pc := 65) (c := 4) (k := 7) dX3_listOfPin_65 (by decide) (by decide) kw238 rfl rfl (L4_0 H1) (L4_r7 H1) ?_
  refine V_getR (pc := 68) (c := 6) (k := 3) dX3_listOfPin_68 (by decide) (by decide) kw104 rfl rfl (L6_0 (L4_o7 H1)) (L6_r3 (L4_o7 H1)) ?_
  refine V_iload (pc := 71) 3 dX3_listOfPin_71 rfl ?_
  obtain ⟨b12, h⟩ := ite_o h
  refine V_iald (pc := 73) dX3_listOfPin_73 (L6_s3 (L4_o7 H1)) (inB_vp b12) ?_
  refine V_icmp_lt (pc := 74) (tgt := 92) dX3_listOfPin_74 (by decide) (fun c13 => ?_) (fun c13 => ?_)
  · have h := ite_p c13 h
    refine V_aload_n (pc := 92) 0 dX3_listOfPin_92 rfl rfl ?_
    refine V_iconst (pc := 93) (x := 2) dX3_listOfPin_93 (by decide) ?_
    refine V_iload_n (pc := 94) 2 dX3_listOfPin_94 rfl rfl ?_
    refine V_bipush (pc := 95) (x := (-2)) dX3_listOfPin_95 (by decide) ?_
    refine V_iload (pc := 97) 3 dX3_listOfPin_97 rfl ?_
    refine V_iload (pc := 99) 4 dX3_listOfPin_99 rfl ?_
    obtain ⟨x15, h14, h⟩ := bnd h
    refine V_cV5 (pc := 101) dX3_listOfPin_101 kw1000 calX3_add kw1002 ks40 (L3_0 H0) rfl (by decide) (Nat.le_of_ble_eq_true rfl) (ctX3_add H0 h14) ?_
    exact V_sub [0, 1, 2, 3, 4] rfl (wX3_listOfPin_104 H0 H1 h)
  · have h := ite_n c13 h
    refine V_iload (pc := 77) 5 dX3_listOfPin_77 rfl ?_
    refine V_aload_n (pc := 79) 1 dX3_listOfPin_79 rfl rfl ?_
    refine V_getR (pc := 80) (c := 4) (k := 7) dX3_listOfPin_80 (by decide) (by decide) kw238 rfl rfl (L4_0 H1) (L4_r7 H1) ?_
    refine V_getR (pc := 83) (c := 6) (k := 4) dX3_listOfPin_83 (by decide) (by decide) kw107 rfl rfl (L6_0 (L4_o7 H1)) (L6_r4 (L4_o7 H1)) ?_
    refine V_iload (pc := 86) 3 dX3_listOfPin_86 rfl ?_
    obtain ⟨b16, h⟩ := ite_o h
    refine V_iald (pc := 88) dX3_listOfPin_88 (L6_s4 (L4_o7 H1)) (inB_vp b16) ?_
    refine V_icmp_le (pc := 89) (tgt := 104) dX3_listOfPin_89 (by decide) (fun c17 => ?_) (fun c17 => ?_)
    · have h := ite_p c17 h
      exact V_sub [0, 1, 2, 3, 4] rfl (wX3_listOfPin_104 H0 H1 h)
    · have h := ite_n c17 h
      refine V_aload_n (pc := 92) 0 dX3_listOfPin_92 rfl rfl ?_
      refine V_iconst (pc := 93) (x := 2) dX3_listOfPin_93 (by decide) ?_
      refine V_iload_n (pc := 94) 2 dX3_listOfPin_94 rfl rfl ?_
      refine V_bipush (pc := 95) (x := (-2)) dX3_listOfPin_95 (by decide) ?_
      refine V_iload (pc := 97) 3 dX3_listOfPin_97 rfl ?_
      refine V_iload (pc := 99) 4 dX3_listOfPin_99 rfl ?_
      obtain ⟨x19, h18, h⟩ := bnd h
      refine V_cV5 (pc := 101) dX3_listOfPin_101 kw1000 calX3_add kw1002 ks40 (L3_0 H0) rfl (by decide) (Nat.le_of_ble_eq_true rfl) (ctX3_add H0 h18) ?_
      exact V_sub [0, 1, 2, 3, 4] rfl (wX3_listOfPin_104 H0 H1 h)
theorem calX3_listOfPin : Cal yX3_listOfPin cX3_listOfPin 9 none 3 := ⟨kw998, kw9, by decide +kernel⟩
theorem ctX3_listOfPin {G : Gl} {σ : Sg} {d : Dt} {r0 : Nat} {r1 : Nat} {v2 : Int32} {v3 : Int32} {rr : Dt} (H0 : L3 σ r0) (H1 : L4 σ r1) (h : mX3_listOfPin r0 r1 v2 v3 d = some rr) : CTv G yX3_listOfPin cX3_listOfPin 9 none 3 [.ref (gB G + r0), .ref (gB G + r1), .int v2, .int v3] σ d [] rr := by
  refine CT_of pn_RX3 (Nat.le_of_ble_eq_true rfl) ?_
  rw [mX3_listOfPin] at h
  refine V_aload_n (pc := 0) 1 dX3_listOfPin_0 rfl rfl ?_
  refine V_getR (pc := 1) (c := 4) (k := 8) dX3_listOfPin_1 (by decide) (by decide) kw242 rfl rfl (L4_0 H1) (L4_r8 H1) ?_
  refine V_getR (pc := 4) (c := 5) (k := 7) dX3_listOfPin_4 (by decide) (by decide) kw165 rfl rfl (L5_0 (L4_o8 H1)) (L5_r7 (L4_o8 H1)) ?_
  refine V_iload_n (pc := 7) 2 dX3_listOfPin_7 rfl rfl ?_
  obtain ⟨b1, h⟩ := ite_o h
  refine V_aald (pc := 8) dX3_listOfPin_8 (⟨L5_s7 (L4_o8 H1), L5_g7 (L4_o8 H1)⟩ : GR σ _ _ _).1 (inB_vp b1) ((⟨L5_s7 (L4_o8 H1), L5_g7 (L4_o8 H1)⟩ : GR σ _ _ _).2 _ (inB_lt b1)).1 ?_
  refine V_iload_n (pc := 9) 3 dX3_listOfPin_9 rfl rfl ?_
  obtain ⟨b2, h⟩ := ite_o h
  refine V_iald (pc := 10) dX3_listOfPin_10 ((⟨L5_s7 (L4_o8 H1), L5_g7 (L4_o8 H1)⟩ : GR σ _ _ _).2 _ (inB_lt b1)).2 (inB_vp b2) ?_
  refine V_istore (pc := 11) (lv1 := [(4, _), (0, _), (1, _), (2, _), (3, _)]) dX3_listOfPin_11 (by decide) rfl ?_
  refine V_aload_n (pc := 13) 2 dX3_listOfPin_13 rfl rfl ?_
  refine V_getR (pc := 14) (c := 4) (k := 8) dX3_listOfPin_14 (by decide) (by decide) kw242 rfl rfl (L4_0 H1) (L4_r8 H1) ?_
  refine V_getR (pc := 17) (c := 5) (k := 8) dX3_listOfPin_17 (by decide) (by decide) kw169 rfl rfl (L5_0 (L4_o8 H1)) (L5_r8 (L4_o8 H1)) ?_
  refine V_iload_n (pc := 20) 3 dX3_listOfPin_20 rfl rfl ?_
  obtain ⟨b3, h⟩ := ite_o h
  refine V_aald (pc := 21) dX3_listOfPin_21 (⟨L5_s8 (L4_o8 H1), L5_g8 (L4_o8 H1)⟩ : GR σ _ _ _).1 (inB_vp b3) ((⟨L5_s8 (L4_o8 H1), L5_g8 (L4_o8 H1)⟩ : GR σ _ _ _).2 _ (inB_lt b3)).1 ?_
  refine V_iload_n (pc := 22) 4 dX3_listOfPin_22 rfl rfl ?_
  obtain ⟨b4, h⟩ := ite_o h
  refine V_iald (pc := 23) dX3_listOfPin_23 ((⟨L5_s8 (L4_o8 H1), L5_g8 (L4_o8 H1)⟩ : GR σ _ _ _).2 _ (inB_lt b3)).2 (inB_vp b4) ?_
  refine V_istore (pc := 24) (lv1 := [(5, _), (4, _), (0, _), (1, _), (2, _), (3, _)]) dX3_listOfPin_24 (by decide) rfl ?_
  refine V_aload_n (pc := 26) 3 dX3_listOfPin_26 rfl rfl ?_
  refine V_getR (pc := 27) (c := 4) (k := 8) dX3_listOfPin_27 (by decide) (by decide) kw242 rfl rfl (L4_0 H1) (L4_r8 H1) ?_
  refine V_getR (pc := 30) (c := 5) (k := 2) dX3_listOfPin_30 (by decide) (by decide) kw148 rfl rfl (L5_0 (L4_o8 H1)) (L5_r2 (L4_o8 H1)) ?_
  refine V_iload_n (pc := 33) 4 dX3_listOfPin_33 rfl rfl ?_
  obtain ⟨b5, h⟩ := ite_o h
  refine V_iald (pc := 34) dX3_listOfPin_34 (L5_s2 (L4_o8 H1)) (inB_vp b5) ?_
  refine V_istore (pc := 35) (lv1 := [(6, _), (5, _), (4, _), (0, _), (1, _), (2, _), (3, _)]) dX3_listOfPin_35 (by decide) rfl ?_
  refine V_aload_n (pc := 37) 3 dX3_listOfPin_37 rfl rfl ?_
  refine V_getR (pc := 38) (c := 3) (k := 2) dX3_listOfPin_38 (by decide) (by decide) kw325 rfl rfl (L3_0 H0) (L3_r2 H0) ?_
  refine V_iload_n (pc := 41) 5 dX3_listOfPin_41 rfl rfl ?_
  obtain ⟨b6, h⟩ := ite_o h
  refine V_iald (pc := 42) dX3_listOfPin_42 (L3_s2 H0) (inB_vp b6) ?_
  refine V_cS1 (pc := 43) dX3_listOfPin_43 kw999 calJ6_bitCount_0f7a4 kw901 (by decide) (Nat.le_of_ble_eq_true rfl) (ctJ6_bitCount_0f7a4) ?_
  refine V_iconst (pc := 46) (x := 1) dX3_listOfPin_46 (by decide) ?_
  refine V_icmp_ne (pc := 47) (tgt := 62) dX3_listOfPin_47 (by decide) (fun c9 => ?_) (fun c9 => ?_)
  · have h := ite_n c9 h
    exact V_sub [3, 4, 5, 2, 1, 0] rfl (wX3_listOfPin_62 H0 H1 h)
  · have h := ite_p c9 h
    refine V_aload_n (pc := 50) 3 dX3_listOfPin_50 rfl rfl ?_
    refine V_iconst (pc := 51) (x := 1) dX3_listOfPin_51 (by decide) ?_
    refine V_iload_n (pc := 52) 5 dX3_listOfPin_52 rfl rfl ?_
    refine V_bipush (pc := 53) (x := (-2)) dX3_listOfPin_53 (by decide) ?_
    refine V_iload (pc := 55) 2 dX3_listOfPin_55 rfl ?_
    refine V_iload (pc := 57) 1 dX3_listOfPin_57 rfl ?_
    obtain ⟨x11, h10, h⟩ := bnd h
    refine V_cV5 (pc := 59) dX3_listOfPin_59 kw1000 calX3_add kw1002 ks40 (L3_0 H0) rfl (by decide) (Nat.le_of_ble_eq_true rfl) (ctX3_add H0 h10) ?_
    exact V_sub [3, 4, 5, 2, 1, 0] rfl (wX3_listOfPin_62 H0 H1 h)
theorem wX3_list_52 {G : Gl} {σ : Sg} {g38 : Int32 → Dt → Option (Int32 × Dt)} {r0 : Nat} {r1 : Nat} {v3 : Int32} {rr : Int32 × Dt} (H0 : L3 σ r0) (H1 : L4 σ r1) (hg38 : ∀ (v3 : Int32) (d : Dt), g38 v3 d = some rr → V G yX3_list cX3_list 5 (some .int) 4 0 0 (PH [.int rr.1] σ rr.2) 38 [(0, .ref (gB G + r0)), (1, .ref (gB G + r1)), (3, .int v3)] [] σ d) : ∀ (n : Nat) (v4 : Int32) (d : Dt), mX3_list_52 g38 r0 r1 v3 n v4 d = some rr → V G yX3_list cX3_list 5 (some .int) 4 0 0 (PH [.int rr.1] σ rr.2) 52 [(0, .ref (gB G + r0)), (1, .ref (gB G + r1)), (3, .int v3), (4, .int v4)] [] σ d := by
  intro n
  induction n with
  | zero =>
    intro v4 d
    intros
    rename_i h
    exact absurd h (by rw [mX3_list_52]; exact fun q => nomatch q)
  | succ n ih =>
    intro v4 d h
    rw [mX3_list_52] at h
    refine V_iload (pc := 52) 3 dX3_list_52 rfl ?_
    refine V_aload_n (pc := 54) 1 dX3_list_54 rfl rfl ?_
    refine V_getR (pc := 55) (c := 4) (k := 8) dX3_list_55 (by decide) (by decide) kw242 rfl rfl (L4_0 H1) (L4_r8 H1) ?_
    refine V_getR (pc := 58) (c := 5) (k := 3) dX3_list_58 (by decide) (by decide) kw152 rfl rfl (L5_0 (L4_o8 H1)) (L5_r3 (L4_o8 H1)) ?_
    refine V_iload_n (pc := 61) 2 dX3_list_61 rfl rfl ?_
    obtain ⟨b6, h⟩ := ite_o h
    refine V_iald (pc := 62) dX3_list_62 (L5_s3 (L4_o8 H1)) (inB_vp b6) ?_
    refine V_icmp_ge (pc := 63) (tgt := 94) dX3_list_63 (by decide) (fun c7 => ?_) (fun c7 => ?_)
    · have h := ite_p c7 h
      refine V_iinc (pc := 94) (lv1 := [(3, _), (0, _), (1, _), (4, _)]) (z := _ + (1 : Int32)) 2 dX3_list_94 rfl rfl (by decide) rfl ?_
      refine V_goto (pc := 97) (tgt := 38) dX3_list_97 (by decide) ?_
      exact V_sub [1, 2, 0] rfl (hg38 (v3 + (1 : Int32)) d h)
    · have h := ite_n c7 h
      refine V_aload_n (pc := 66) 0 dX3_list_66 rfl rfl ?_
      refine V_getR (pc := 67) (c := 3) (k := 2) dX3_list_67 (by decide) (by decide) kw325 rfl rfl (L3_0 H0) (L3_r2 H0) ?_
      refine V_iload_n (pc := 70) 2 dX3_list_70 rfl rfl ?_
      obtain ⟨b8, h⟩ := ite_o h
      refine V_iald (pc := 71) dX3_list_71 (L3_s2 H0) (inB_vp b8) ?_
      refine V_iload (pc := 72) 3 dX3_list_72 rfl ?_
      refine V_cS2 (pc := 74) dX3_list_74 kw994 calX10_has kw676 (by decide) (Nat.le_of_ble_eq_true rfl) (ctX10_has) ?_
      refine V_ifB_eq (pc := 77) (tgt := 88) dX3_list_77 (by decide) (fun c11 => ?_) (fun c11 => ?_)
      · have h := ite_f c11 h
        refine V_iinc (pc := 88) (lv1 := [(4, _), (0, _), (1, _), (3, _)]) (z := _ + (1 : Int32)) 3 dX3_list_88 rfl rfl (by decide) rfl ?_
        refine V_goto (pc := 91) (tgt := 52) dX3_list_91 (by decide) ?_
        exact V_sub [1, 2, 3, 0] rfl (ih (v4 + (1 : Int32)) d h)
      · have h := ite_p c11 h
        refine V_aload_n (pc := 80) 0 dX3_list_80 rfl rfl ?_
        refine V_aload_n (pc := 81) 1 dX3_list_81 rfl rfl ?_
        refine V_iload_n (pc := 82) 2 dX3_list_82 rfl rfl ?_
        refine V_iload (pc := 83) 3 dX3_list_83 rfl ?_
        obtain ⟨x13, h12, h⟩ := bnd h
        refine V_cV3 (pc := 85) dX3_list_85 kw995 calX3_listOfPin kw997 ks39 (L3_0 H0) rfl (by decide) (Nat.le_of_ble_eq_true rfl) (ctX3_listOfPin H0 H1 h12) ?_
        refine V_iinc (pc := 88) (lv1 := [(4, _), (0, _), (1, _), (3, _)]) (z := _ + (1 : Int32)) 3 dX3_list_88 rfl rfl (by decide) rfl ?_
        refine V_goto (pc := 91) (tgt := 52) dX3_list_91 (by decide) ?_
        exact V_sub [1, 2, 3, 0] rfl (ih (v4 + (1 : Int32)) x13 h)
theorem wX3_list_38 {G : Gl} {σ : Sg} {r0 : Nat} {r1 : Nat} {rr : Int32 × Dt} (H0 : L3 σ r0) (H1 : L4 σ r1) : ∀ (n : Nat) (v3 : Int32) (d : Dt), mX3_list_38 r0 r1 n v3 d = some rr → V G yX3_list cX3_list 5 (some .int) 4 0 0 (PH [.int rr.1] σ rr.2) 38 [(0, .ref (gB G + r0)), (1, .ref (gB G + r1)), (3, .int v3)] [] σ d := by
  intro n
  induction n with
  | zero =>
    intro v3 d
    intros
    rename_i h
    exact absurd h (by rw [mX3_list_38]; exact fun q => nomatch q)
  | succ n ih =>
    intro v3 d h
    rw [mX3_list_38] at h
    refine V_iload_n (pc := 38) 2 dX3_list_38 rfl rfl ?_
    refine V_aload_n (pc := 39) 1 dX3_list_39 rfl rfl ?_
    refine V_getR (pc := 40) (c := 4) (k := 8) dX3_list_40 (by decide) (by decide) kw242 rfl rfl (L4_0 H1) (L4_r8 H1) ?_
    refine V_getI (pc := 43) (c := 5) (k := 0) dX3_list_43 (by decide) (by decide) kw138 rfl rfl (L5_0 (L4_o8 H1)) ?_
    refine V_icmp_ge (pc := 46) (tgt := 100) dX3_list_46 (by decide) (fun c5 => ?_) (fun c5 => ?_)
    · have h := ite_p c5 h
      refine V_aload_n (pc := 100) 0 dX3_list_100 rfl rfl ?_
      refine V_getI (pc := 101) (c := 3) (k := 0) dX3_list_101 (by decide) (by decide) kw323 rfl rfl (L3_0 H0) ?_
      cases h
      exact V_ret (pc := 104) dX3_list_104 ⟨rfl, _, rfl⟩ ⟨rfl, rfl, rfl⟩
    · have h := ite_n c5 h
      refine V_iconst (pc := 49) (x := 0) dX3_list_49 (by decide) ?_
      refine V_istore (pc := 50) (lv1 := [(4, _), (0, _), (1, _), (3, _)]) dX3_list_50 (by decide) rfl ?_
      exact V_sub [1, 2, 3, 0] rfl (wX3_list_52 H0 H1 ih FUEL (0 : Int32) d h)
theorem wX3_list_7 {G : Gl} {σ : Sg} {r0 : Nat} {r1 : Nat} {v2 : Int32} {rr : Int32 × Dt} (H0 : L3 σ r0) (H1 : L4 σ r1) : ∀ (n : Nat) (v3 : Int32) (d : Dt), mX3_list_7 r0 r1 v2 n v3 d = some rr → V G yX3_list cX3_list 5 (some .int) 4 0 0 (PH [.int rr.1] σ rr.2) 7 [(0, .ref (gB G + r0)), (1, .ref (gB G + r1)), (2, .int v2), (3, .int v3)] [] σ d := by
  intro n
  induction n with
  | zero =>
    intro v3 d
    intros
    rename_i h
    exact absurd h (by rw [mX3_list_7]; exact fun q => nomatch q)
  | succ n ih =>
    intro v3 d h
    rw [mX3_list_7] at h
    refine V_iload_n (pc := 7) 3 dX3_list_7 rfl rfl ?_
    refine V_aload_n (pc := 8) 1 dX3_list_8 rfl rfl ?_
    refine V_getR (pc := 9) (c := 4) (k := 8) dX3_list_9 (by decide) (by decide) kw242 rfl rfl (L4_0 H1) (L4_r8 H1) ?_
    refine V_getI (pc := 12) (c := 5) (k := 0) dX3_list_12 (by decide) (by decide) kw138 rfl rfl (L5_0 (L4_o8 H1)) ?_
    refine V_icmp_ge (pc := 15) (tgt := 36) dX3_list_15 (by decide) (fun c1 => ?_) (fun c1 => ?_)
    · have h := ite_p c1 h
      refine V_iconst (pc := 36) (x := 0) dX3_list_36 (by decide) ?_
      refine V_istore_n (pc := 37) (lv1 := [(3, _), (0, _), (1, _), (2, _)]) dX3_list_37 rfl (by decide) rfl ?_
      exact V_sub [1, 2, 0] rfl (wX3_list_38 H0 H1 FUEL (0 : Int32) d h)
    · have h := ite_n c1 h
      refine V_aload_n (pc := 18) 0 dX3_list_18 rfl rfl ?_
      refine V_getR (pc := 19) (c := 3) (k := 2) dX3_list_19 (by decide) (by decide) kw325 rfl rfl (L3_0 H0) (L3_r2 H0) ?_
      refine V_iload_n (pc := 22) 3 dX3_list_22 rfl rfl ?_
      refine V_aload_n (pc := 23) 1 dX3_list_23 rfl rfl ?_
      refine V_iload_n (pc := 24) 2 dX3_list_24 rfl rfl ?_
      refine V_iload_n (pc := 25) 3 dX3_list_25 rfl rfl ?_
      obtain ⟨x3, h2, h⟩ := bnd h
      refine V_cS3 (pc := 26) dX3_list_26 kw993 calX10_pinsThere kw891 (by decide) (Nat.le_of_ble_eq_true rfl) (ctX10_pinsThere H1 h2) ?_
      obtain ⟨b4, h⟩ := ite_o h
      refine V_iast (pc := 29) dX3_list_29 (L3_s2 H0) (inB_vp b4) ?_
      refine V_iinc (pc := 30) (lv1 := [(3, _), (0, _), (1, _), (2, _)]) (z := _ + (1 : Int32)) 3 dX3_list_30 rfl rfl (by decide) rfl ?_
      refine V_goto (pc := 33) (tgt := 7) dX3_list_33 (by decide) ?_
      exact V_sub [1, 2, 3, 0] rfl (ih (v3 + (1 : Int32)) (uI d (r0 + 2) v3.toNatClampNeg x3) h)
theorem calX3_list : Cal yX3_list cX3_list 5 (some .int) 2 := ⟨kw992, kw9, by decide +kernel⟩
theorem ctX3_list {G : Gl} {σ : Sg} {d : Dt} {r0 : Nat} {r1 : Nat} {v2 : Int32} {rr : Int32 × Dt} (H0 : L3 σ r0) (H1 : L4 σ r1) (h : mX3_list r0 r1 v2 d = some rr) : CTv G yX3_list cX3_list 5 (some .int) 4 [.ref (gB G + r0), .ref (gB G + r1), .int v2] σ d [.int rr.1] rr.2 := by
  refine CT_of pn_RX3 (Nat.le_of_ble_eq_true rfl) ?_
  rw [mX3_list] at h
  refine V_aload_n (pc := 0) 0 dX3_list_0 rfl rfl ?_
  refine V_iconst (pc := 1) (x := 0) dX3_list_1 (by decide) ?_
  refine V_putI (pc := 2) (c := 3) (k := 0) dX3_list_2 (by decide) (by decide) kw323 rfl rfl rfl ⟨rfl, rfl⟩ (L3_0 H0) ?_
  refine V_iconst (pc := 5) (x := 0) dX3_list_5 (by decide) ?_
  refine V_istore_n (pc := 6) (lv1 := [(3, _), (0, _), (1, _), (2, _)]) dX3_list_6 rfl (by decide) rfl ?_
  exact V_sub [1, 2, 3, 0] rfl (wX3_list_7 H0 H1 FUEL (0 : Int32) (uI d r0 0 (0 : Int32)) h)
theorem calX3_partOf : Cal yX3_partOf cX3_partOf 3 (some .int) 2 := ⟨kw1020, kw9, by decide +kernel⟩
theorem ctX3_partOf {G : Gl} {σ : Sg} {d : Dt} {r0 : Nat} {v1 : Int32} {v2 : Int32} {rr : Int32} (H0 : L3 σ r0) (h : mX3_partOf r0 v1 v2 d = some rr) : CTv G yX3_partOf cX3_partOf 3 (some .int) 0 [.ref (gB G + r0), .int v1, .int v2] σ d [.int rr] d := by
  refine CT_of pn_RX3 (Nat.le_of_ble_eq_true rfl) ?_
  rw [mX3_partOf] at h
  refine V_aload_n (pc := 0) 0 dX3_partOf_0 rfl rfl ?_
  refine V_getR (pc := 1) (c := 3) (k := 1) dX3_partOf_1 (by decide) (by decide) kw324 rfl rfl (L3_0 H0) (L3_r1 H0) ?_
  refine V_iload_n (pc := 4) 1 dX3_partOf_4 rfl rfl ?_
  refine V_iconst (pc := 5) (x := 5) dX3_partOf_5 (by decide) ?_
  refine V_imul (pc := 6) dX3_partOf_6 ?_
  refine V_iload_n (pc := 7) 2 dX3_partOf_7 rfl rfl ?_
  refine V_iadd (pc := 8) dX3_partOf_8 ?_
  obtain ⟨b1, h⟩ := ite_o h
  refine V_iald (pc := 9) dX3_partOf_9 (L3_s1 H0) (inB_vp b1) ?_
  cases h
  exact V_ret (pc := 10) dX3_partOf_10 ⟨rfl, _, rfl⟩ ⟨rfl, rfl, rfl⟩
theorem wX11_flaw_22 {G : Gl} {σ : Sg} {d : Dt} {r0 : Nat} {r0h : Nat} {r0p : Nat} {v1 : Int32} {v2 : Int32} {v3 : Int32} {vs0 : Int32} {rs1 : Nat} {rs1h : Nat} {rs1p : Nat} {rr : Int32 × Dt} (H0 : L10 σ r0 r0h r0p) (Hs1 : L10 σ rs1 rs1h rs1p) (h : mX11_flaw_22 r0 r0h r0p v1 v2 v3 vs0 rs1 rs1h rs1p d = some rr) : V G yX11_flaw cX11_flaw 6 (some .int) 5 0 0 (PH [.int rr.1] σ rr.2) 22 [(0, .ref (gB G + r0)), (1, .int v1), (2, .int v2), (3, .int v3)] [.int vs0, .ref (gB G + rs1)] σ d := by
  rw [mX11_flaw_22] at h
  refine V_iload_n (pc := 22) 1 dX11_flaw_22 rfl rfl ?_
  refine V_cV2 (pc := 23) dX11_flaw_23 kw875 calX11_troubleOf kw877 ks38 (L10_0 Hs1) rfl (by decide) (Nat.le_of_ble_eq_true rfl) (ctX11_troubleOf Hs1) ?_
  refine V_istore (pc := 26) (lv1 := [(4, _), (0, _), (1, _), (2, _), (3, _)]) dX11_flaw_26 (by decide) rfl ?_
  refine V_iload (pc := 28) 0 dX11_flaw_28 rfl ?_
  refine V_if_eq (pc := 30) (tgt := 40) dX11_flaw_30 (by decide) (fun c6 => ?_) (fun c6 => ?_)
  · have h := ite_p c6 h
    refine V_aload_n (pc := 40) 1 dX11_flaw_40 rfl rfl ?_
    refine V_getR (pc := 41) (c := 10) (k := 7) dX11_flaw_41 (by decide) (by decide) kw361 rfl rfl (L10_0 H0) (L10_r7 H0) ?_
    refine V_aload_n (pc := 44) 1 dX11_flaw_44 rfl rfl ?_
    refine V_getR (pc := 45) (c := 10) (k := 2) dX11_flaw_45 (by decide) (by decide) kw356 rfl rfl (L10_0 H0) (L10_r2 H0) ?_
    refine V_iload_n (pc := 48) 2 dX11_flaw_48 rfl rfl ?_
    obtain ⟨x8, h7, h⟩ := bnd h
    refine V_cV2 (pc := 49) dX11_flaw_49 kw989 calX3_list kw990 kw991 (L3_0 (L10_o7 H0)) rfl (by decide) (Nat.le_of_ble_eq_true rfl) (ctX3_list (L10_o7 H0) (L10_o2 H0) h7) ?_
    refine V_istore (pc := 52) (lv1 := [(5, _), (4, _), (0, _), (1, _), (2, _), (3, _)]) dX11_flaw_52 (by decide) rfl ?_
    refine V_iload_n (pc := 54) 4 dX11_flaw_54 rfl rfl ?_
    refine V_if_lt (pc := 55) (tgt := 64) dX11_flaw_55 (by decide) (fun c9 => ?_) (fun c9 => ?_)
    · have h := ite_p c9 h
      refine V_aload_n (pc := 64) 2 dX11_flaw_64 rfl rfl ?_
      refine V_iconst (pc := 65) (x := 1) dX11_flaw_65 (by decide) ?_
      refine V_cV1 (pc := 66) dX11_flaw_66 kw403 calX11_refuse kw405 ks1 (L10_0 H0) rfl (by decide) (Nat.le_of_ble_eq_true rfl) (ctX11_refuse H0) ?_
      cases h
      exact V_ret (pc := 69) dX11_flaw_69 ⟨rfl, _, rfl⟩ ⟨rfl, rfl, rfl⟩
    · have h := ite_n c9 h
      refine V_iload_n (pc := 58) 4 dX11_flaw_58 rfl rfl ?_
      refine V_iload (pc := 59) 0 dX11_flaw_59 rfl ?_
      refine V_icmp_lt (pc := 61) (tgt := 70) dX11_flaw_61 (by decide) (fun c12 => ?_) (fun c12 => ?_)
      · have h := ite_p c12 h
        refine V_aload_n (pc := 70) 2 dX11_flaw_70 rfl rfl ?_
        refine V_aload_n (pc := 71) 2 dX11_flaw_71 rfl rfl ?_
        refine V_getR (pc := 72) (c := 10) (k := 7) dX11_flaw_72 (by decide) (by decide) kw361 rfl rfl (L10_0 H0) (L10_r7 H0) ?_
        refine V_iload_n (pc := 75) 4 dX11_flaw_75 rfl rfl ?_
        refine V_iload_n (pc := 76) 5 dX11_flaw_76 rfl rfl ?_
        obtain ⟨x14, h13, h⟩ := bnd h
        refine V_cV2 (pc := 77) dX11_flaw_77 kw1017 calX3_partOf kw1018 kw1019 (L3_0 (L10_o7 H0)) rfl (by decide) (Nat.le_of_ble_eq_true rfl) (ctX3_partOf (L10_o7 H0) h13) ?_
        refine V_cV1 (pc := 80) dX11_flaw_80 kw720 calX11_answer kw722 ks29 (L10_0 H0) rfl (by decide) (Nat.le_of_ble_eq_true rfl) (ctX11_answer H0) ?_
        cases h
        exact V_ret (pc := 83) dX11_flaw_83 ⟨rfl, _, rfl⟩ ⟨rfl, rfl, rfl⟩
      · have h := ite_n c12 h
        refine V_aload_n (pc := 64) 2 dX11_flaw_64 rfl rfl ?_
        refine V_iconst (pc := 65) (x := 1) dX11_flaw_65 (by decide) ?_
        refine V_cV1 (pc := 66) dX11_flaw_66 kw403 calX11_refuse kw405 ks1 (L10_0 H0) rfl (by decide) (Nat.le_of_ble_eq_true rfl) (ctX11_refuse H0) ?_
        cases h
        exact V_ret (pc := 69) dX11_flaw_69 ⟨rfl, _, rfl⟩ ⟨rfl, rfl, rfl⟩
  · have h := ite_n c6 h
    refine V_aload_n (pc := 33) 1 dX11_flaw_33 rfl rfl ?_
    refine V_iload (pc := 34) 0 dX11_flaw_34 rfl ?_
    refine V_cV1 (pc := 36) dX11_flaw_36 kw403 calX11_refuse kw405 ks1 (L10_0 H0) rfl (by decide) (Nat.le_of_ble_eq_true rfl) (ctX11_refuse H0) ?_
    cases h
    exact V_ret (pc := 39) dX11_flaw_39 ⟨rfl, _, rfl⟩ ⟨rfl, rfl, rfl⟩
theorem calX11_flaw : Cal yX11_flaw cX11_flaw 6 (some .int) 3 := ⟨kw1016, kw1, by decide +kernel⟩
theorem ctX11_flaw {G : Gl} {σ : Sg} {d : Dt} {r0 : Nat} {r0h : Nat} {r0p : Nat} {v1 : Int32} {v2 : Int32} {v3 : Int32} {rr : Int32 × Dt} (H0 : L10 σ r0 r0h r0p) (h : mX11_flaw r0 r0h r0p v1 v2 v3 d = some rr) : CTv G yX11_flaw cX11_flaw 6 (some .int) 5 [.ref (gB G + r0), .int v1, .int v2, .int v3] σ d [.int rr.1] rr.2 := by
  refine CT_of pn_RX11 (Nat.le_of_ble_eq_true rfl) ?_
  rw [mX11_flaw] at h
  refine V_aload_n (pc := 0) 0 dX11_flaw_0 rfl rfl ?_
  refine V_aload_n (pc := 1) 0 dX11_flaw_1 rfl rfl ?_
  refine V_getI (pc := 2) (c := 10) (k := 4) dX11_flaw_2 (by decide) (by decide) kw358 rfl rfl (L10_0 H0) ?_
  refine V_if_eq (pc := 5) (tgt := 21) dX11_flaw_5 (by decide) (fun c1 => ?_) (fun c1 => ?_)
  · have h := ite_p c1 h
    refine V_iconst (pc := 21) (x := 0) dX11_flaw_21 (by decide) ?_
    exact V_sub [0, 1, 2, 3] rfl (wX11_flaw_22 H0 H0 h)
  · have h := ite_n c1 h
    refine V_iload_n (pc := 8) 3 dX11_flaw_8 rfl rfl ?_
    refine V_if_lt (pc := 9) (tgt := 21) dX11_flaw_9 (by decide) (fun c2 => ?_) (fun c2 => ?_)
    · have h := ite_p c2 h
      refine V_iconst (pc := 21) (x := 0) dX11_flaw_21 (by decide) ?_
      exact V_sub [0, 1, 2, 3] rfl (wX11_flaw_22 H0 H0 h)
    · have h := ite_n c2 h
      refine V_iload_n (pc := 12) 3 dX11_flaw_12 rfl rfl ?_
      refine V_iconst (pc := 13) (x := 5) dX11_flaw_13 (by decide) ?_
      refine V_icmp_ge (pc := 14) (tgt := 21) dX11_flaw_14 (by decide) (fun c3 => ?_) (fun c3 => ?_)
      · have h := ite_p c3 h
        refine V_iconst (pc := 21) (x := 0) dX11_flaw_21 (by decide) ?_
        exact V_sub [0, 1, 2, 3] rfl (wX11_flaw_22 H0 H0 h)
      · have h := ite_n c3 h
        refine V_iconst (pc := 17) (x := 1) dX11_flaw_17 (by decide) ?_
        refine V_goto (pc := 18) (tgt := 22) dX11_flaw_18 (by decide) ?_
        exact V_sub [0, 1, 2, 3] rfl (wX11_flaw_22 H0 H0 h)
theorem wX11_flawed_17 {G : Gl} {σ : Sg} {r0 : Nat} {r0h : Nat} {r0p : Nat} {rr : Int32 × Dt} (H0 : L10 σ r0 r0h r0p) : ∀ (n : Nat) (v1 : Int32) (v2 : Int32) (d : Dt), mX11_flawed_17 r0 r0h r0p n v1 v2 d = some rr → V G yX11_flawed cX11_flawed 3 (some .int) 5 0 0 (PH [.int rr.1] σ rr.2) 17 [(0, .ref (gB G + r0)), (1, .int v1), (2, .int v2)] [] σ d := by
  intro n
  induction n with
  | zero =>
    intro v1 v2 d
    intros
    rename_i h
    exact absurd h (by rw [mX11_flawed_17]; exact fun q => nomatch q)
  | succ n ih =>
    intro v1 v2 d h
    rw [mX11_flawed_17] at h
    refine V_iload_n (pc := 17) 2 dX11_flawed_17 rfl rfl ?_
    refine V_aload_n (pc := 18) 0 dX11_flawed_18 rfl rfl ?_
    refine V_getR (pc := 19) (c := 10) (k := 2) dX11_flawed_19 (by decide) (by decide) kw356 rfl rfl (L10_0 H0) (L10_r2 H0) ?_
    refine V_getR (pc := 22) (c := 4) (k := 9) dX11_flawed_22 (by decide) (by decide) kw249 rfl rfl (L4_0 (L10_o2 H0)) (L4_r9 (L10_o2 H0)) ?_
    refine V_getI (pc := 25) (c := 1) (k := 0) dX11_flawed_25 (by decide) (by decide) kw203 rfl rfl (L1_0 (L4_o9 (L10_o2 H0))) ?_
    refine V_icmp_ge (pc := 28) (tgt := 63) dX11_flawed_28 (by decide) (fun c4 => ?_) (fun c4 => ?_)
    · have h := ite_p c4 h
      refine V_aload_n (pc := 63) 0 dX11_flawed_63 rfl rfl ?_
      refine V_iload_n (pc := 64) 1 dX11_flawed_64 rfl rfl ?_
      refine V_cV1 (pc := 65) dX11_flawed_65 kw720 calX11_answer kw722 ks29 (L10_0 H0) rfl (by decide) (Nat.le_of_ble_eq_true rfl) (ctX11_answer H0) ?_
      cases h
      exact V_ret (pc := 68) dX11_flawed_68 ⟨rfl, _, rfl⟩ ⟨rfl, rfl, rfl⟩
    · have h := ite_n c4 h
      refine V_iload_n (pc := 31) 1 dX11_flawed_31 rfl rfl ?_
      refine V_aload_n (pc := 32) 0 dX11_flawed_32 rfl rfl ?_
      refine V_getR (pc := 33) (c := 10) (k := 7) dX11_flawed_33 (by decide) (by decide) kw361 rfl rfl (L10_0 H0) (L10_r7 H0) ?_
      refine V_aload_n (pc := 36) 0 dX11_flawed_36 rfl rfl ?_
      refine V_getR (pc := 37) (c := 10) (k := 2) dX11_flawed_37 (by decide) (by decide) kw356 rfl rfl (L10_0 H0) (L10_r2 H0) ?_
      refine V_aload_n (pc := 40) 0 dX11_flawed_40 rfl rfl ?_
      refine V_getR (pc := 41) (c := 10) (k := 2) dX11_flawed_41 (by decide) (by decide) kw356 rfl rfl (L10_0 H0) (L10_r2 H0) ?_
      refine V_getR (pc := 44) (c := 4) (k := 9) dX11_flawed_44 (by decide) (by decide) kw249 rfl rfl (L4_0 (L10_o2 H0)) (L4_r9 (L10_o2 H0)) ?_
      refine V_getR (pc := 47) (c := 1) (k := 1) dX11_flawed_47 (by decide) (by decide) kw207 rfl rfl (L1_0 (L4_o9 (L10_o2 H0))) (L1_r1 (L4_o9 (L10_o2 H0))) ?_
      refine V_iload_n (pc := 50) 2 dX11_flawed_50 rfl rfl ?_
      obtain ⟨b7, h⟩ := ite_o h
      refine V_iald (pc := 51) dX11_flawed_51 (L1_s1 (L4_o9 (L10_o2 H0))) (inB_vp b7) ?_
      obtain ⟨x9, h8, h⟩ := bnd h
      refine V_cV2 (pc := 52) dX11_flawed_52 kw989 calX3_list kw990 kw991 (L3_0 (L10_o7 H0)) rfl (by decide) (Nat.le_of_ble_eq_true rfl) (ctX3_list (L10_o7 H0) (L10_o2 H0) h8) ?_
      refine V_iadd (pc := 55) dX11_flawed_55 ?_
      refine V_istore_n (pc := 56) (lv1 := [(1, _), (0, _), (2, _)]) dX11_flawed_56 rfl (by decide) rfl ?_
      refine V_iinc (pc := 57) (lv1 := [(2, _), (1, _), (0, _)]) (z := _ + (1 : Int32)) 2 dX11_flawed_57 rfl rfl (by decide) rfl ?_
      refine V_goto (pc := 60) (tgt := 17) dX11_flawed_60 (by decide) ?_
      exact V_sub [2, 1, 0] rfl (ih (v1 + x9.1) (v2 + (1 : Int32)) x9.2 h)
theorem calX11_flawed : Cal yX11_flawed cX11_flawed 3 (some .int) 0 := ⟨kw1028, kw1, by decide +kernel⟩
theorem ctX11_flawed {G : Gl} {σ : Sg} {d : Dt} {r0 : Nat} {r0h : Nat} {r0p : Nat} {rr : Int32 × Dt} (H0 : L10 σ r0 r0h r0p) (h : mX11_flawed r0 r0h r0p d = some rr) : CTv G yX11_flawed cX11_flawed 3 (some .int) 5 [.ref (gB G + r0)] σ d [.int rr.1] rr.2 := by
  refine CT_of pn_RX11 (Nat.le_of_ble_eq_true rfl) ?_
  rw [mX11_flawed] at h
  refine V_aload_n (pc := 0) 0 dX11_flawed_0 rfl rfl ?_
  refine V_getI (pc := 1) (c := 10) (k := 4) dX11_flawed_1 (by decide) (by decide) kw358 rfl rfl (L10_0 H0) ?_
  refine V_if_ne (pc := 4) (tgt := 13) dX11_flawed_4 (by decide) (fun c1 => ?_) (fun c1 => ?_)
  · have h := ite_n c1 h
    refine V_iconst (pc := 13) (x := 0) dX11_flawed_13 (by decide) ?_
    refine V_istore_n (pc := 14) (lv1 := [(1, _), (0, _)]) dX11_flawed_14 rfl (by decide) rfl ?_
    refine V_iconst (pc := 15) (x := 0) dX11_flawed_15 (by decide) ?_
    refine V_istore_n (pc := 16) (lv1 := [(2, _), (1, _), (0, _)]) dX11_flawed_16 rfl (by decide) rfl ?_
    exact V_sub [2, 1, 0] rfl (wX11_flawed_17 H0 FUEL (0 : Int32) (0 : Int32) d h)
  · have h := ite_p c1 h
    refine V_aload_n (pc := 7) 0 dX11_flawed_7 rfl rfl ?_
    refine V_iconst (pc := 8) (x := 1) dX11_flawed_8 (by decide) ?_
    refine V_cV1 (pc := 9) dX11_flawed_9 kw403 calX11_refuse kw405 ks1 (L10_0 H0) rfl (by decide) (Nat.le_of_ble_eq_true rfl) (ctX11_refuse H0) ?_
    cases h
    exact V_ret (pc := 12) dX11_flawed_12 ⟨rfl, _, rfl⟩ ⟨rfl, rfl, rfl⟩
theorem calX11_flaws : Cal yX11_flaws cX11_flaws 3 (some .int) 1 := ⟨kw988, kw1, by decide +kernel⟩
theorem ctX11_flaws {G : Gl} {σ : Sg} {d : Dt} {r0 : Nat} {r0h : Nat} {r0p : Nat} {v1 : Int32} {rr : Int32 × Dt} (H0 : L10 σ r0 r0h r0p) (h : mX11_flaws r0 r0h r0p v1 d = some rr) : CTv G yX11_flaws cX11_flaws 3 (some .int) 5 [.ref (gB G + r0), .int v1] σ d [.int rr.1] rr.2 := by
  refine CT_of pn_RX11 (Nat.le_of_ble_eq_true rfl) ?_
  rw [mX11_flaws] at h
  refine V_aload_n (pc := 0) 0 dX11_flaws_0 rfl rfl ?_
  refine V_aload_n (pc := 1) 0 dX11_flaws_1 rfl rfl ?_
  refine V_getI (pc := 2) (c := 10) (k := 4) dX11_flaws_2 (by decide) (by decide) kw358 rfl rfl (L10_0 H0) ?_
  refine V_iload_n (pc := 5) 1 dX11_flaws_5 rfl rfl ?_
  refine V_cV2 (pc := 6) dX11_flaws_6 kw875 calX11_troubleOf kw877 ks38 (L10_0 H0) rfl (by decide) (Nat.le_of_ble_eq_true rfl) (ctX11_troubleOf H0) ?_
  refine V_istore_n (pc := 9) (lv1 := [(2, _), (0, _), (1, _)]) dX11_flaws_9 rfl (by decide) rfl ?_
  refine V_iload_n (pc := 10) 0 dX11_flaws_10 rfl rfl ?_
  refine V_if_eq (pc := 11) (tgt := 22) dX11_flaws_11 (by decide) (fun c3 => ?_) (fun c3 => ?_)
  · have h := ite_p c3 h
    refine V_aload_n (pc := 22) 1 dX11_flaws_22 rfl rfl ?_
    refine V_aload_n (pc := 23) 1 dX11_flaws_23 rfl rfl ?_
    refine V_getR (pc := 24) (c := 10) (k := 7) dX11_flaws_24 (by decide) (by decide) kw361 rfl rfl (L10_0 H0) (L10_r7 H0) ?_
    refine V_aload_n (pc := 27) 1 dX11_flaws_27 rfl rfl ?_
    refine V_getR (pc := 28) (c := 10) (k := 2) dX11_flaws_28 (by decide) (by decide) kw356 rfl rfl (L10_0 H0) (L10_r2 H0) ?_
    refine V_iload_n (pc := 31) 2 dX11_flaws_31 rfl rfl ?_
    obtain ⟨x5, h4, h⟩ := bnd h
    refine V_cV2 (pc := 32) dX11_flaws_32 kw989 calX3_list kw990 kw991 (L3_0 (L10_o7 H0)) rfl (by decide) (Nat.le_of_ble_eq_true rfl) (ctX3_list (L10_o7 H0) (L10_o2 H0) h4) ?_
    refine V_cV1 (pc := 35) dX11_flaws_35 kw720 calX11_answer kw722 ks29 (L10_0 H0) rfl (by decide) (Nat.le_of_ble_eq_true rfl) (ctX11_answer H0) ?_
    cases h
    exact V_ret (pc := 38) dX11_flaws_38 ⟨rfl, _, rfl⟩ ⟨rfl, rfl, rfl⟩
  · have h := ite_n c3 h
    refine V_aload_n (pc := 14) 1 dX11_flaws_14 rfl rfl ?_
    refine V_iload_n (pc := 15) 0 dX11_flaws_15 rfl rfl ?_
    refine V_cV1 (pc := 16) dX11_flaws_16 kw403 calX11_refuse kw405 ks1 (L10_0 H0) rfl (by decide) (Nat.le_of_ble_eq_true rfl) (ctX11_refuse H0) ?_
    refine V_goto (pc := 19) (tgt := 38) dX11_flaws_19 (by decide) ?_
    cases h
    exact V_ret (pc := 38) dX11_flaws_38 ⟨rfl, _, rfl⟩ ⟨rfl, rfl, rfl⟩
theorem wX2_givenBy_11 {G : Gl} {σ : Sg} {d : Dt} {r0 : Nat} {v1 : Int32} {v2 : Int32} {rr : Int32} (H0 : L4 σ r0) : ∀ (n : Nat) (v3 : Int32) (v4 : Int32), mX2_givenBy_11 d r0 v1 v2 n v3 v4 = some rr → V G yX2_givenBy cX2_givenBy 5 (some .int) 5 0 0 (PH [.int rr] σ d) 11 [(0, .ref (gB G + r0)), (1, .int v1), (2, .int v2), (3, .int v3), (4, .int v4)] [] σ d := by
  intro n
  induction n with
  | zero =>
    intro v3 v4
    intros
    rename_i h
    exact absurd h (by rw [mX2_givenBy_11]; exact fun q => nomatch q)
  | succ n ih =>
    intro v3 v4 h
    rw [mX2_givenBy_11] at h
    refine V_iload (pc := 11) 4 dX2_givenBy_11 rfl ?_
    refine V_aload_n (pc := 13) 0 dX2_givenBy_13 rfl rfl ?_
    refine V_getR (pc := 14) (c := 4) (k := 9) dX2_givenBy_14 (by decide) (by decide) kw248 rfl rfl (L4_0 H0) (L4_r9 H0) ?_
    refine V_getI (pc := 17) (c := 1) (k := 0) dX2_givenBy_17 (by decide) (by decide) kw201 rfl rfl (L1_0 (L4_o9 H0)) ?_
    refine V_icmp_ge (pc := 20) (tgt := 62) dX2_givenBy_20 (by decide) (fun c3 => ?_) (fun c3 => ?_)
    · have h := ite_p c3 h
      refine V_iload_n (pc := 62) 3 dX2_givenBy_62 rfl rfl ?_
      cases h
      exact V_ret (pc := 63) dX2_givenBy_63 ⟨rfl, _, rfl⟩ ⟨rfl, rfl, rfl⟩
    · have h := ite_n c3 h
      refine V_iload_n (pc := 23) 1 dX2_givenBy_23 rfl rfl ?_
      refine V_iload (pc := 24) 4 dX2_givenBy_24 rfl ?_
      refine V_cS2 (pc := 26) dX2_givenBy_26 kw1051 calX10_has kw676 (by decide) (Nat.le_of_ble_eq_true rfl) (ctX10_has) ?_
      refine V_ifB_eq (pc := 29) (tgt := 56) dX2_givenBy_29 (by decide) (fun c6 => ?_) (fun c6 => ?_)
      · have h := ite_f c6 h
        refine V_iinc (pc := 56) (lv1 := [(4, _), (0, _), (1, _), (2, _), (3, _)]) (z := _ + (1 : Int32)) 4 dX2_givenBy_56 rfl rfl (by decide) rfl ?_
        refine V_goto (pc := 59) (tgt := 11) dX2_givenBy_59 (by decide) ?_
        exact V_sub [1, 2, 3, 4, 0] rfl (ih v3 (v4 + (1 : Int32)) h)
      · have h := ite_p c6 h
        refine V_iload_n (pc := 32) 3 dX2_givenBy_32 rfl rfl ?_
        refine V_iload_n (pc := 33) 2 dX2_givenBy_33 rfl rfl ?_
        refine V_aload_n (pc := 34) 0 dX2_givenBy_34 rfl rfl ?_
        refine V_iconst (pc := 35) (x := 1) dX2_givenBy_35 (by decide) ?_
        refine V_iload (pc := 36) 4 dX2_givenBy_36 rfl ?_
        refine V_ishl (pc := 38) dX2_givenBy_38 ?_
        obtain ⟨x8, h7, h⟩ := bnd h
        refine V_cS2 (pc := 39) dX2_givenBy_39 kw1067 calX2_lengthFor kw1046 (by decide) (Nat.le_of_ble_eq_true rfl) (ctX2_lengthFor H0 h7) ?_
        refine V_isub (pc := 42) dX2_givenBy_42 ?_
        refine V_aload_n (pc := 43) 0 dX2_givenBy_43 rfl rfl ?_
        refine V_getR (pc := 44) (c := 4) (k := 9) dX2_givenBy_44 (by decide) (by decide) kw248 rfl rfl (L4_0 H0) (L4_r9 H0) ?_
        refine V_getR (pc := 47) (c := 1) (k := 2) dX2_givenBy_47 (by decide) (by decide) kw209 rfl rfl (L1_0 (L4_o9 H0)) (L1_r2 (L4_o9 H0)) ?_
        refine V_iload (pc := 50) 4 dX2_givenBy_50 rfl ?_
        obtain ⟨b9, h⟩ := ite_o h
        refine V_iald (pc := 52) dX2_givenBy_52 (L1_s2 (L4_o9 H0)) (inB_vp b9) ?_
        refine V_imul (pc := 53) dX2_givenBy_53 ?_
        refine V_iadd (pc := 54) dX2_givenBy_54 ?_
        refine V_istore_n (pc := 55) (lv1 := [(3, _), (0, _), (1, _), (2, _), (4, _)]) dX2_givenBy_55 rfl (by decide) rfl ?_
        refine V_iinc (pc := 56) (lv1 := [(4, _), (3, _), (0, _), (1, _), (2, _)]) (z := _ + (1 : Int32)) 4 dX2_givenBy_56 rfl rfl (by decide) rfl ?_
        refine V_goto (pc := 59) (tgt := 11) dX2_givenBy_59 (by decide) ?_
        exact V_sub [2, 3, 4, 1, 0] rfl (ih (v3 + ((v2 - x8) * (d.1 (r0 + 74) v4.toNatClampNeg))) (v4 + (1 : Int32)) h)
theorem calX2_givenBy : Cal yX2_givenBy cX2_givenBy 5 (some .int) 2 := ⟨kw1066, kw10, by decide +kernel⟩
theorem ctX2_givenBy {G : Gl} {σ : Sg} {d : Dt} {r0 : Nat} {v1 : Int32} {rr : Int32} (H0 : L4 σ r0) (h : mX2_givenBy r0 v1 d = some rr) : CTv G yX2_givenBy cX2_givenBy 5 (some .int) 5 [.ref (gB G + r0), .int v1] σ d [.int rr] d := by
  refine CT_of pn_RX2 (Nat.le_of_ble_eq_true rfl) ?_
  rw [mX2_givenBy] at h
  refine V_aload_n (pc := 0) 0 dX2_givenBy_0 rfl rfl ?_
  refine V_iload_n (pc := 1) 1 dX2_givenBy_1 rfl rfl ?_
  obtain ⟨x2, h1, h⟩ := bnd h
  refine V_cS2 (pc := 2) dX2_givenBy_2 kw1067 calX2_lengthFor kw1046 (by decide) (Nat.le_of_ble_eq_true rfl) (ctX2_lengthFor H0 h1) ?_
  refine V_istore_n (pc := 5) (lv1 := [(2, _), (0, _), (1, _)]) dX2_givenBy_5 rfl (by decide) rfl ?_
  refine V_iconst (pc := 6) (x := 0) dX2_givenBy_6 (by decide) ?_
  refine V_istore_n (pc := 7) (lv1 := [(3, _), (2, _), (0, _), (1, _)]) dX2_givenBy_7 rfl (by decide) rfl ?_
  refine V_iconst (pc := 8) (x := 0) dX2_givenBy_8 (by decide) ?_
  refine V_istore (pc := 9) (lv1 := [(4, _), (3, _), (2, _), (0, _), (1, _)]) dX2_givenBy_9 (by decide) rfl ?_
  exact V_sub [3, 4, 2, 1, 0] rfl (wX2_givenBy_11 H0 FUEL (0 : Int32) (0 : Int32) h)
theorem calX11_given : Cal yX11_given cX11_given 3 (some .int) 1 := ⟨kw1063, kw1, by decide +kernel⟩
theorem ctX11_given {G : Gl} {σ : Sg} {d : Dt} {r0 : Nat} {r0h : Nat} {r0p : Nat} {v1 : Int32} {rr : Int32 × Dt} (H0 : L10 σ r0 r0h r0p) (h : mX11_given r0 r0h r0p v1 d = some rr) : CTv G yX11_given cX11_given 3 (some .int) 6 [.ref (gB G + r0), .int v1] σ d [.int rr.1] rr.2 := by
  refine CT_of pn_RX11 (Nat.le_of_ble_eq_true rfl) ?_
  rw [mX11_given] at h
  refine V_aload_n (pc := 0) 0 dX11_given_0 rfl rfl ?_
  refine V_aload_n (pc := 1) 0 dX11_given_1 rfl rfl ?_
  refine V_getI (pc := 2) (c := 10) (k := 4) dX11_given_2 (by decide) (by decide) kw358 rfl rfl (L10_0 H0) ?_
  refine V_iload_n (pc := 5) 1 dX11_given_5 rfl rfl ?_
  refine V_cV2 (pc := 6) dX11_given_6 kw1041 calX11_troubleOfBuilds kw1043 ks44 (L10_0 H0) rfl (by decide) (Nat.le_of_ble_eq_true rfl) (ctX11_troubleOfBuilds H0) ?_
  refine V_istore_n (pc := 9) (lv1 := [(2, _), (0, _), (1, _)]) dX11_given_9 rfl (by decide) rfl ?_
  refine V_iload_n (pc := 10) 0 dX11_given_10 rfl rfl ?_
  refine V_if_eq (pc := 11) (tgt := 22) dX11_given_11 (by decide) (fun c3 => ?_) (fun c3 => ?_)
  · have h := ite_p c3 h
    refine V_aload_n (pc := 22) 1 dX11_given_22 rfl rfl ?_
    refine V_aload_n (pc := 23) 1 dX11_given_23 rfl rfl ?_
    refine V_getR (pc := 24) (c := 10) (k := 2) dX11_given_24 (by decide) (by decide) kw356 rfl rfl (L10_0 H0) (L10_r2 H0) ?_
    refine V_iload_n (pc := 27) 2 dX11_given_27 rfl rfl ?_
    obtain ⟨x5, h4, h⟩ := bnd h
    refine V_cS2 (pc := 28) dX11_given_28 kw1064 calX2_givenBy kw1065 (by decide) (Nat.le_of_ble_eq_true rfl) (ctX2_givenBy (L10_o2 H0) h4) ?_
    refine V_cV1 (pc := 31) dX11_given_31 kw720 calX11_answer kw722 ks29 (L10_0 H0) rfl (by decide) (Nat.le_of_ble_eq_true rfl) (ctX11_answer H0) ?_
    cases h
    exact V_ret (pc := 34) dX11_given_34 ⟨rfl, _, rfl⟩ ⟨rfl, rfl, rfl⟩
  · have h := ite_n c3 h
    refine V_aload_n (pc := 14) 1 dX11_given_14 rfl rfl ?_
    refine V_iload_n (pc := 15) 0 dX11_given_15 rfl rfl ?_
    refine V_cV1 (pc := 16) dX11_given_16 kw785 calX11_refuseNumber kw787 ks33 (L10_0 H0) rfl (by decide) (Nat.le_of_ble_eq_true rfl) (ctX11_refuseNumber H0) ?_
    refine V_goto (pc := 19) (tgt := 34) dX11_given_19 (by decide) ?_
    cases h
    exact V_ret (pc := 34) dX11_given_34 ⟨rfl, _, rfl⟩ ⟨rfl, rfl, rfl⟩
theorem calX11_group : Cal yX11_group cX11_group 3 (some .int) 2 := ⟨kw1123, kw1, by decide +kernel⟩
theorem ctX11_group {G : Gl} {σ : Sg} {d : Dt} {r0 : Nat} {r0h : Nat} {r0p : Nat} {v1 : Int32} {v2 : Int32} {rr : Int32 × Dt} (H0 : L10 σ r0 r0h r0p) (h : mX11_group r0 r0h r0p v1 v2 d = some rr) : CTv G yX11_group cX11_group 3 (some .int) 7 [.ref (gB G + r0), .int v1, .int v2] σ d [.int rr.1] rr.2 := by
  refine CT_of pn_RX11 (Nat.le_of_ble_eq_true rfl) ?_
  rw [mX11_group] at h
  refine V_aload_n (pc := 0) 0 dX11_group_0 rfl rfl ?_
  refine V_iload_n (pc := 1) 2 dX11_group_1 rfl rfl ?_
  refine V_cV1 (pc := 2) dX11_group_2 kw1033 calX11_isBuild kw1035 ks43 (L10_0 H0) rfl (by decide) (Nat.le_of_ble_eq_true rfl) (ctX11_isBuild H0) ?_
  refine V_ifB_ne (pc := 5) (tgt := 14) dX11_group_5 (by decide) (fun c3 => ?_) (fun c3 => ?_)
  · have h := ite_p c3 h
    refine V_aload_n (pc := 14) 0 dX11_group_14 rfl rfl ?_
    refine V_iload_n (pc := 15) 1 dX11_group_15 rfl rfl ?_
    refine V_cV1 (pc := 16) dX11_group_16 kw1076 calX11_isFamilyCount kw1078 ks46 (L10_0 H0) rfl (by decide) (Nat.le_of_ble_eq_true rfl) (ctX11_isFamilyCount H0) ?_
    refine V_ifB_ne (pc := 19) (tgt := 28) dX11_group_19 (by decide) (fun c6 => ?_) (fun c6 => ?_)
    · have h := ite_p c6 h
      refine V_aload_n (pc := 28) 0 dX11_group_28 rfl rfl ?_
      refine V_getR (pc := 29) (c := 10) (k := 8) dX11_group_29 (by decide) (by decide) kw362 rfl rfl (L10_0 H0) (L10_r8 H0) ?_
      refine V_aload_n (pc := 32) 0 dX11_group_32 rfl rfl ?_
      refine V_getR (pc := 33) (c := 10) (k := 2) dX11_group_33 (by decide) (by decide) kw356 rfl rfl (L10_0 H0) (L10_r2 H0) ?_
      refine V_iload_n (pc := 36) 1 dX11_group_36 rfl rfl ?_
      obtain ⟨x8, h7, h⟩ := bnd h
      refine V_cV2 (pc := 37) dX11_group_37 kw1080 calX2_find kw1081 kw1082 (L2_0 (L10_o8 H0)) rfl (by decide) (Nat.le_of_ble_eq_true rfl) (ctX2_find (L10_o8 H0) (L10_o2 H0) h7) ?_
      refine V_aload_n (pc := 40) 0 dX11_group_40 rfl rfl ?_
      refine V_aload_n (pc := 41) 0 dX11_group_41 rfl rfl ?_
      refine V_getR (pc := 42) (c := 10) (k := 8) dX11_group_42 (by decide) (by decide) kw362 rfl rfl (L10_0 H0) (L10_r8 H0) ?_
      refine V_getR (pc := 45) (c := 2) (k := 2) dX11_group_45 (by decide) (by decide) kw342 rfl rfl (L2_0 (L10_o8 H0)) (L2_r2 (L10_o8 H0)) ?_
      refine V_iload_n (pc := 48) 2 dX11_group_48 rfl rfl ?_
      obtain ⟨b9, h⟩ := ite_o h
      refine V_iald (pc := 49) dX11_group_49 (L2_s2 (L10_o8 H0)) (inB_vp b9) ?_
      refine V_cV1 (pc := 50) dX11_group_50 kw720 calX11_answer kw722 ks29 (L10_0 H0) rfl (by decide) (Nat.le_of_ble_eq_true rfl) (ctX11_answer H0) ?_
      cases h
      exact V_ret (pc := 53) dX11_group_53 ⟨rfl, _, rfl⟩ ⟨rfl, rfl, rfl⟩
    · have h := ite_f c6 h
      refine V_aload_n (pc := 22) 0 dX11_group_22 rfl rfl ?_
      refine V_iconst (pc := 23) (x := 2) dX11_group_23 (by decide) ?_
      refine V_cV1 (pc := 24) dX11_group_24 kw403 calX11_refuse kw405 ks1 (L10_0 H0) rfl (by decide) (Nat.le_of_ble_eq_true rfl) (ctX11_refuse H0) ?_
      cases h
      exact V_ret (pc := 27) dX11_group_27 ⟨rfl, _, rfl⟩ ⟨rfl, rfl, rfl⟩
  · have h := ite_f c3 h
    refine V_aload_n (pc := 8) 0 dX11_group_8 rfl rfl ?_
    refine V_iconst (pc := 9) (x := 1) dX11_group_9 (by decide) ?_
    refine V_cV1 (pc := 10) dX11_group_10 kw403 calX11_refuse kw405 ks1 (L10_0 H0) rfl (by decide) (Nat.le_of_ble_eq_true rfl) (ctX11_refuse H0) ?_
    cases h
    exact V_ret (pc := 13) dX11_group_13 ⟨rfl, _, rfl⟩ ⟨rfl, rfl, rfl⟩
theorem calX2_countBest : Cal yX2_countBest cX2_countBest 2 (some .int) 1 := ⟨kw1119, kw10, by decide +kernel⟩
theorem ctX2_countBest {G : Gl} {σ : Sg} {d : Dt} {r0 : Nat} {v1 : Int32} {rr : Int32} (H0 : L2 σ r0) (h : mX2_countBest r0 v1 d = some rr) : CTv G yX2_countBest cX2_countBest 2 (some .int) 4 [.ref (gB G + r0), .int v1] σ d [.int rr] d := by
  refine CT_of pn_RX2 (Nat.le_of_ble_eq_true rfl) ?_
  rw [mX2_countBest] at h
  refine V_aload_n (pc := 0) 0 dX2_countBest_0 rfl rfl ?_
  refine V_getR (pc := 1) (c := 2) (k := 2) dX2_countBest_1 (by decide) (by decide) kw341 rfl rfl (L2_0 H0) (L2_r2 H0) ?_
  refine V_iload_n (pc := 4) 1 dX2_countBest_4 rfl rfl ?_
  obtain ⟨x2, h1, h⟩ := bnd h
  refine V_cS2 (pc := 5) dX2_countBest_5 kw1099 calX2_greatest kw1100 (by decide) (Nat.le_of_ble_eq_true rfl) (ctX2_greatest (L2_s2 H0) h1) ?_
  refine V_iconst (pc := 8) (x := 1) dX2_countBest_8 (by decide) ?_
  refine V_iadd (pc := 9) dX2_countBest_9 ?_
  cases h
  exact V_ret (pc := 10) dX2_countBest_10 ⟨rfl, _, rfl⟩ ⟨rfl, rfl, rfl⟩
theorem calX11_groups : Cal yX11_groups cX11_groups 3 (some .int) 1 := ⟨kw1115, kw1, by decide +kernel⟩
theorem ctX11_groups {G : Gl} {σ : Sg} {d : Dt} {r0 : Nat} {r0h : Nat} {r0p : Nat} {v1 : Int32} {rr : Int32 × Dt} (H0 : L10 σ r0 r0h r0p) (h : mX11_groups r0 r0h r0p v1 d = some rr) : CTv G yX11_groups cX11_groups 3 (some .int) 7 [.ref (gB G + r0), .int v1] σ d [.int rr.1] rr.2 := by
  refine CT_of pn_RX11 (Nat.le_of_ble_eq_true rfl) ?_
  rw [mX11_groups] at h
  refine V_aload_n (pc := 0) 0 dX11_groups_0 rfl rfl ?_
  refine V_iload_n (pc := 1) 1 dX11_groups_1 rfl rfl ?_
  refine V_cV1 (pc := 2) dX11_groups_2 kw1072 calX11_troubleOfFamilies kw1074 ks45 (L10_0 H0) rfl (by decide) (Nat.le_of_ble_eq_true rfl) (ctX11_troubleOfFamilies H0) ?_
  refine V_istore_n (pc := 5) (lv1 := [(2, _), (0, _), (1, _)]) dX11_groups_5 rfl (by decide) rfl ?_
  refine V_iload_n (pc := 6) 0 dX11_groups_6 rfl rfl ?_
  refine V_if_eq (pc := 7) (tgt := 16) dX11_groups_7 (by decide) (fun c3 => ?_) (fun c3 => ?_)
  · have h := ite_p c3 h
    refine V_aload_n (pc := 16) 1 dX11_groups_16 rfl rfl ?_
    refine V_getR (pc := 17) (c := 10) (k := 8) dX11_groups_17 (by decide) (by decide) kw362 rfl rfl (L10_0 H0) (L10_r8 H0) ?_
    refine V_aload_n (pc := 20) 1 dX11_groups_20 rfl rfl ?_
    refine V_getR (pc := 21) (c := 10) (k := 2) dX11_groups_21 (by decide) (by decide) kw356 rfl rfl (L10_0 H0) (L10_r2 H0) ?_
    refine V_iload_n (pc := 24) 2 dX11_groups_24 rfl rfl ?_
    obtain ⟨x5, h4, h⟩ := bnd h
    refine V_cV2 (pc := 25) dX11_groups_25 kw1080 calX2_find kw1081 kw1082 (L2_0 (L10_o8 H0)) rfl (by decide) (Nat.le_of_ble_eq_true rfl) (ctX2_find (L10_o8 H0) (L10_o2 H0) h4) ?_
    refine V_aload_n (pc := 28) 1 dX11_groups_28 rfl rfl ?_
    refine V_aload_n (pc := 29) 1 dX11_groups_29 rfl rfl ?_
    refine V_getR (pc := 30) (c := 10) (k := 8) dX11_groups_30 (by decide) (by decide) kw362 rfl rfl (L10_0 H0) (L10_r8 H0) ?_
    refine V_aload_n (pc := 33) 1 dX11_groups_33 rfl rfl ?_
    refine V_getR (pc := 34) (c := 10) (k := 2) dX11_groups_34 (by decide) (by decide) kw356 rfl rfl (L10_0 H0) (L10_r2 H0) ?_
    refine V_getR (pc := 37) (c := 4) (k := 9) dX11_groups_37 (by decide) (by decide) kw249 rfl rfl (L4_0 (L10_o2 H0)) (L4_r9 (L10_o2 H0)) ?_
    refine V_getI (pc := 40) (c := 1) (k := 0) dX11_groups_40 (by decide) (by decide) kw203 rfl rfl (L1_0 (L4_o9 (L10_o2 H0))) ?_
    obtain ⟨x7, h6, h⟩ := bnd h
    refine V_cV1 (pc := 43) dX11_groups_43 kw1116 calX2_countBest kw1117 kw1118 (L2_0 (L10_o8 H0)) rfl (by decide) (Nat.le_of_ble_eq_true rfl) (ctX2_countBest (L10_o8 H0) h6) ?_
    refine V_cV1 (pc := 46) dX11_groups_46 kw720 calX11_answer kw722 ks29 (L10_0 H0) rfl (by decide) (Nat.le_of_ble_eq_true rfl) (ctX11_answer H0) ?_
    cases h
    exact V_ret (pc := 49) dX11_groups_49 ⟨rfl, _, rfl⟩ ⟨rfl, rfl, rfl⟩
  · have h := ite_n c3 h
    refine V_aload_n (pc := 10) 1 dX11_groups_10 rfl rfl ?_
    refine V_iload_n (pc := 11) 0 dX11_groups_11 rfl rfl ?_
    refine V_cV1 (pc := 12) dX11_groups_12 kw403 calX11_refuse kw405 ks1 (L10_0 H0) rfl (by decide) (Nat.le_of_ble_eq_true rfl) (ctX11_refuse H0) ?_
    cases h
    exact V_ret (pc := 15) dX11_groups_15 ⟨rfl, _, rfl⟩ ⟨rfl, rfl, rfl⟩
theorem calX4_clear : Cal yX4_clear cX4_clear 1 none 0 := ⟨kw410, kw2, by decide +kernel⟩
theorem ctX4_clear {G : Gl} {σ : Sg} {d : Dt} {r0 : Nat} (H0 : L4 σ r0) : CTv G yX4_clear cX4_clear 1 none 0 [.ref (gB G + r0)] σ d [] (mX4_clear r0 d) := by
  refine CT_of pn_RX4 (Nat.le_of_ble_eq_true rfl) ?_
  generalize h : mX4_clear r0 d = rr
  rw [mX4_clear] at h
  refine V_aload_n (pc := 0) 0 dX4_clear_0 rfl rfl ?_
  refine V_iconst (pc := 1) (x := 0) dX4_clear_1 (by decide) ?_
  refine V_putI (pc := 2) (c := 4) (k := 0) dX4_clear_2 (by decide) (by decide) kw218 rfl rfl rfl ⟨rfl, rfl⟩ (L4_0 H0) ?_
  refine V_aload_n (pc := 5) 0 dX4_clear_5 rfl rfl ?_
  refine V_iconst (pc := 6) (x := 0) dX4_clear_6 (by decide) ?_
  refine V_putI (pc := 7) (c := 4) (k := 1) dX4_clear_7 (by decide) (by decide) kw222 rfl rfl rfl ⟨rfl, rfl⟩ (L4_0 H0) ?_
  refine V_aload_n (pc := 10) 0 dX4_clear_10 rfl rfl ?_
  refine V_iconst (pc := 11) (x := 0) dX4_clear_11 (by decide) ?_
  refine V_putI (pc := 12) (c := 4) (k := 2) dX4_clear_12 (by decide) (by decide) kw226 rfl rfl rfl ⟨rfl, rfl⟩ (L4_0 H0) ?_
  refine V_aload_n (pc := 15) 0 dX4_clear_15 rfl rfl ?_
  refine V_iconst (pc := 16) (x := 0) dX4_clear_16 (by decide) ?_
  refine V_putI (pc := 17) (c := 4) (k := 3) dX4_clear_17 (by decide) (by decide) kw229 rfl rfl rfl ⟨rfl, rfl⟩ (L4_0 H0) ?_
  refine V_aload_n (pc := 20) 0 dX4_clear_20 rfl rfl ?_
  refine V_getR (pc := 21) (c := 4) (k := 6) dX4_clear_21 (by decide) (by decide) kw232 rfl rfl (L4_0 H0) (L4_r6 H0) ?_
  refine V_iconst (pc := 24) (x := 0) dX4_clear_24 (by decide) ?_
  refine V_putI (pc := 25) (c := 9) (k := 0) dX4_clear_25 (by decide) (by decide) kw48 rfl rfl rfl ⟨rfl, rfl⟩ (L9_0 (L4_o6 H0)) ?_
  refine V_aload_n (pc := 28) 0 dX4_clear_28 rfl rfl ?_
  refine V_getR (pc := 29) (c := 4) (k := 7) dX4_clear_29 (by decide) (by decide) kw236 rfl rfl (L4_0 H0) (L4_r7 H0) ?_
  refine V_iconst (pc := 32) (x := 0) dX4_clear_32 (by decide) ?_
  refine V_putI (pc := 33) (c := 6) (k := 0) dX4_clear_33 (by decide) (by decide) kw93 rfl rfl rfl ⟨rfl, rfl⟩ (L6_0 (L4_o7 H0)) ?_
  refine V_aload_n (pc := 36) 0 dX4_clear_36 rfl rfl ?_
  refine V_getR (pc := 37) (c := 4) (k := 8) dX4_clear_37 (by decide) (by decide) kw241 rfl rfl (L4_0 H0) (L4_r8 H0) ?_
  refine V_iconst (pc := 40) (x := 0) dX4_clear_40 (by decide) ?_
  refine V_putI (pc := 41) (c := 5) (k := 0) dX4_clear_41 (by decide) (by decide) kw140 rfl rfl rfl ⟨rfl, rfl⟩ (L5_0 (L4_o8 H0)) ?_
  refine V_aload_n (pc := 44) 0 dX4_clear_44 rfl rfl ?_
  refine V_getR (pc := 45) (c := 4) (k := 9) dX4_clear_45 (by decide) (by decide) kw247 rfl rfl (L4_0 H0) (L4_r9 H0) ?_
  refine V_iconst (pc := 48) (x := 0) dX4_clear_48 (by decide) ?_
  refine V_putI (pc := 49) (c := 1) (k := 0) dX4_clear_49 (by decide) (by decide) kw202 rfl rfl rfl ⟨rfl, rfl⟩ (L1_0 (L4_o9 H0)) ?_
  subst h
  exact V_ret (pc := 52) dX4_clear_52 ⟨rfl, rfl⟩ ⟨rfl, rfl, rfl⟩
theorem calX8_isLetter : Cal yX8_isLetter cX8_isLetter 1 (some .boolean) 1 := ⟨kw420, kw7, by decide +kernel⟩
theorem ctX8_isLetter {G : Gl} {σ : Sg} {d : Dt} {v0 : Int32} : CTv G yX8_isLetter cX8_isLetter 1 (some .boolean) 0 [.int v0] σ d [.int (b2i (mX8_isLetter v0))] d := by
  refine CT_of pn_RX8 (Nat.le_of_ble_eq_true rfl) ?_
  generalize h : mX8_isLetter v0 = rr
  rw [mX8_isLetter] at h
  refine V_iload_n (pc := 0) 0 dX8_isLetter_0 rfl rfl ?_
  refine V_bipush (pc := 1) (x := 97) dX8_isLetter_1 (by decide) ?_
  refine V_icmp_lt (pc := 3) (tgt := 16) dX8_isLetter_3 (by decide) (fun c1 => ?_) (fun c1 => ?_)
  · have h := ite_p c1 h
    refine V_iconst (pc := 16) (x := 0) dX8_isLetter_16 (by decide) ?_
    subst h
    exact V_ret (pc := 17) dX8_isLetter_17 ⟨rfl, _, rfl, rfl⟩ ⟨rfl, rfl, rfl⟩
  · have h := ite_n c1 h
    refine V_iload_n (pc := 6) 0 dX8_isLetter_6 rfl rfl ?_
    refine V_bipush (pc := 7) (x := 122) dX8_isLetter_7 (by decide) ?_
    refine V_icmp_gt (pc := 9) (tgt := 16) dX8_isLetter_9 (by decide) (fun c2 => ?_) (fun c2 => ?_)
    · have h := ite_p c2 h
      refine V_iconst (pc := 16) (x := 0) dX8_isLetter_16 (by decide) ?_
      subst h
      exact V_ret (pc := 17) dX8_isLetter_17 ⟨rfl, _, rfl, rfl⟩ ⟨rfl, rfl, rfl⟩
    · have h := ite_n c2 h
      refine V_iconst (pc := 12) (x := 1) dX8_isLetter_12 (by decide) ?_
      refine V_goto (pc := 13) (tgt := 17) dX8_isLetter_13 (by decide) ?_
      subst h
      exact V_ret (pc := 17) dX8_isLetter_17 ⟨rfl, _, rfl, rfl⟩ ⟨rfl, rfl, rfl⟩
theorem wX8_packed_4 {G : Gl} {σ : Sg} {d : Dt} {k0 : Nat} {rr : Int64} (H0 : k0 < strN) : ∀ (n : Nat) (v1 : Int64) (v3 : Int32), mX8_packed_4 k0 n v1 v3 = some rr → V G yX8_packed cX8_packed 4 (some .long) 6 0 0 (PH [.long rr] σ d) 4 [(0, .ref (gK G k0)), (1, .long v1), (3, .int v3)] [] σ d := by
  intro n
  induction n with
  | zero =>
    intro v1 v3
    intros
    rename_i h
    exact absurd h (by rw [mX8_packed_4]; exact fun q => nomatch q)
  | succ n ih =>
    intro v1 v3 h
    rw [mX8_packed_4] at h
    refine V_iload_n (pc := 4) 2 dX8_packed_4 rfl rfl ?_
    refine V_aload_n (pc := 5) 0 dX8_packed_5 rfl rfl ?_
    refine V_callK (pc := 6) (As := []) dX8_packed_6 kw432 cal_strlen kw433 kw434 H0 rfl (by decide) (Nat.le_of_ble_eq_true rfl) rfl (c_strlen H0) ?_
    refine V_icmp_ge (pc := 9) (tgt := 30) dX8_packed_9 (by decide) (fun c1 => ?_) (fun c1 => ?_)
    · have h := ite_p c1 h
      refine V_lload_n (pc := 30) 1 dX8_packed_30 rfl rfl ?_
      cases h
      exact V_ret (pc := 31) dX8_packed_31 ⟨rfl, _, rfl⟩ ⟨rfl, rfl, rfl⟩
    · have h := ite_n c1 h
      refine V_lload_n (pc := 12) 1 dX8_packed_12 rfl rfl ?_
      refine V_bipush (pc := 13) (x := 8) dX8_packed_13 (by decide) ?_
      refine V_lshl (pc := 15) dX8_packed_15 ?_
      refine V_aload_n (pc := 16) 0 dX8_packed_16 rfl rfl ?_
      refine V_iload_n (pc := 17) 2 dX8_packed_17 rfl rfl ?_
      obtain ⟨b2, h⟩ := ite_o h
      refine V_callK (pc := 18) (As := [_]) dX8_packed_18 kw442 cal_charAt kw443 kw444 H0 rfl (by decide) (Nat.le_of_ble_eq_true rfl) rfl (c_charAt H0 (inB_vp b2)) ?_
      refine V_i2l (pc := 21) dX8_packed_21 ?_
      refine V_lor (pc := 22) dX8_packed_22 ?_
      refine V_lstore_n (pc := 23) (lv1 := [(1, _), (0, _), (3, _)]) dX8_packed_23 rfl (by decide) rfl ?_
      refine V_iinc (pc := 24) (lv1 := [(3, _), (1, _), (0, _)]) (z := _ + (1 : Int32)) 2 dX8_packed_24 rfl rfl (by decide) rfl ?_
      refine V_goto (pc := 27) (tgt := 4) dX8_packed_27 (by decide) ?_
      exact V_sub [2, 1, 0] rfl (ih ((v1 <<< ((8 : Int32).toInt64 &&& 63)) ||| (chA k0 v3).toInt64) (v3 + (1 : Int32)) h)
theorem calX8_packed : Cal yX8_packed cX8_packed 4 (some .long) 1 := ⟨kw431, kw7, by decide +kernel⟩
theorem ctX8_packed {G : Gl} {σ : Sg} {d : Dt} {k0 : Nat} {rr : Int64} (H0 : k0 < strN) (h : mX8_packed k0 = some rr) : CTv G yX8_packed cX8_packed 4 (some .long) 6 [.ref (gK G k0)] σ d [.long rr] d := by
  refine CT_of pn_RX8 (Nat.le_of_ble_eq_true rfl) ?_
  rw [mX8_packed] at h
  refine V_lconst (pc := 0) (x := 0) dX8_packed_0 (by decide) ?_
  refine V_lstore_n (pc := 1) (lv1 := [(1, _), (0, _)]) dX8_packed_1 rfl (by decide) rfl ?_
  refine V_iconst (pc := 2) (x := 0) dX8_packed_2 (by decide) ?_
  refine V_istore_n (pc := 3) (lv1 := [(3, _), (1, _), (0, _)]) dX8_packed_3 rfl (by decide) rfl ?_
  exact V_sub [2, 1, 0] rfl (wX8_packed_4 H0 FUEL (0 : Int64) (0 : Int32) h)
theorem calX8_isReserved : Cal yX8_isReserved cX8_isReserved 2 (some .boolean) 1 := ⟨kw427, kw7, by decide +kernel⟩
theorem ctX8_isReserved {G : Gl} {σ : Sg} {d : Dt} {v0 : Int64} {rr : Bool} (h : mX8_isReserved v0 = some rr) : CTv G yX8_isReserved cX8_isReserved 2 (some .boolean) 7 [.long v0] σ d [.int (b2i rr)] d := by
  refine CT_of pn_RX8 (Nat.le_of_ble_eq_true rfl) ?_
  rw [mX8_isReserved] at h
  refine V_lload_n (pc := 0) 0 dX8_isReserved_0 rfl rfl ?_
  refine V_ldcS (pc := 1) (i := 0) (tx := "board") dX8_isReserved_1 (by decide) ?_
  obtain ⟨x2, h1, h⟩ := bnd h
  refine V_cS1 (pc := 3) dX8_isReserved_3 kw429 calX8_packed kw430 (by decide) (Nat.le_of_ble_eq_true rfl) (ctX8_packed (by decide) h1) ?_
  refine V_lcmp_eq (pc := 6) (tgt := 100) dX8_isReserved_6 dX8_isReserved_7 (by decide) (fun c3 => ?_) (fun c3 => ?_)
  · have h := ite_p c3 h
    refine V_iconst (pc := 100) (x := 1) dX8_isReserved_100 (by decide) ?_
    refine V_goto (pc := 101) (tgt := 105) dX8_isReserved_101 (by decide) ?_
    cases h
    exact V_ret (pc := 105) dX8_isReserved_105 ⟨rfl, _, rfl, rfl⟩ ⟨rfl, rfl, rfl⟩
  · have h := ite_n c3 h
    refine V_lload_n (pc := 10) 0 dX8_isReserved_10 rfl rfl ?_
    refine V_ldcS (pc := 11) (i := 1) (tx := "node") dX8_isReserved_11 (by decide) ?_
    obtain ⟨x5, h4, h⟩ := bnd h
    refine V_cS1 (pc := 13) dX8_isReserved_13 kw429 calX8_packed kw430 (by decide) (Nat.le_of_ble_eq_true rfl) (ctX8_packed (by decide) h4) ?_
    refine V_lcmp_eq (pc := 16) (tgt := 100) dX8_isReserved_16 dX8_isReserved_17 (by decide) (fun c6 => ?_) (fun c6 => ?_)
    · have h := ite_p c6 h
      refine V_iconst (pc := 100) (x := 1) dX8_isReserved_100 (by decide) ?_
      refine V_goto (pc := 101) (tgt := 105) dX8_isReserved_101 (by decide) ?_
      cases h
      exact V_ret (pc := 105) dX8_isReserved_105 ⟨rfl, _, rfl, rfl⟩ ⟨rfl, rfl, rfl⟩
    · have h := ite_n c6 h
      refine V_lload_n (pc := 20) 0 dX8_isReserved_20 rfl rfl ?_
      refine V_ldcS (pc := 21) (i := 2) (tx := "option") dX8_isReserved_21 (by decide) ?_
      obtain ⟨x8, h7, h⟩ := bnd h
      refine V_cS1 (pc := 23) dX8_isReserved_23 kw429 calX8_packed kw430 (by decide) (Nat.le_of_ble_eq_true rfl) (ctX8_packed (by decide) h7) ?_
      refine V_lcmp_eq (pc := 26) (tgt := 100) dX8_isReserved_26 dX8_isReserved_27 (by decide) (fun c9 => ?_) (fun c9 => ?_)
      · have h := ite_p c9 h
        refine V_iconst (pc := 100) (x := 1) dX8_isReserved_100 (by decide) ?_
        refine V_goto (pc := 101) (tgt := 105) dX8_isReserved_101 (by decide) ?_
        cases h
        exact V_ret (pc := 105) dX8_isReserved_105 ⟨rfl, _, rfl, rfl⟩ ⟨rfl, rfl, rfl⟩
      · have h := ite_n c9 h
        refine V_lload_n (pc := 30) 0 dX8_isReserved_30 rfl rfl ?_
        refine V_ldcS (pc := 31) (i := 3) (tx := "plug") dX8_isReserved_31 (by decide) ?_
        obtain ⟨x11, h10, h⟩ := bnd h
        refine V_cS1 (pc := 33) dX8_isReserved_33 kw429 calX8_packed kw430 (by decide) (Nat.le_of_ble_eq_true rfl) (ctX8_packed (by decide) h10) ?_
        refine V_lcmp_eq (pc := 36) (tgt := 100) dX8_isReserved_36 dX8_isReserved_37 (by decide) (fun c12 => ?_) (fun c12 => ?_)
        · have h := ite_p c12 h
          refine V_iconst (pc := 100) (x := 1) dX8_isReserved_100 (by decide) ?_
          refine V_goto (pc := 101) (tgt := 105) dX8_isReserved_101 (by decide) ?_
          cases h
          exact V_ret (pc := 105) dX8_isReserved_105 ⟨rfl, _, rfl, rfl⟩ ⟨rfl, rfl, rfl⟩
        · have h := ite_n c12 h
          refine V_lload_n (pc := 40) 0 dX8_isReserved_40 rfl rfl ?_
          refine V_ldcS (pc := 41) (i := 4) (tx := "net") dX8_isReserved_41 (by decide) ?_
          obtain ⟨x14, h13, h⟩ := bnd h
          refine V_cS1 (pc := 43) dX8_isReserved_43 kw429 calX8_packed kw430 (by decide) (Nat.le_of_ble_eq_true rfl) (ctX8_packed (by decide) h13) ?_
          refine V_lcmp_eq (pc := 46) (tgt := 100) dX8_isReserved_46 dX8_isReserved_47 (by decide) (fun c15 => ?_) (fun c15 => ?_)
          · have h := ite_p c15 h
            refine V_iconst (pc := 100) (x := 1) dX8_isReserved_100 (by decide) ?_
            refine V_goto (pc := 101) (tgt := 105) dX8_isReserved_101 (by decide) ?_
            cases h
            exact V_ret (pc := 105) dX8_isReserved_105 ⟨rfl, _, rfl, rfl⟩ ⟨rfl, rfl, rfl⟩
          · have h := ite_n c15 h
            refine V_lload_n (pc := 50) 0 dX8_isReserved_50 rfl rfl ?_
            refine V_ldcS (pc := 51) (i := 5) (tx := "build") dX8_isReserved_51 (by decide) ?_
            obtain ⟨x17, h16, h⟩ := bnd h
            refine V_cS1 (pc := 53) dX8_isReserved_53 kw429 calX8_packed kw430 (by decide) (Nat.le_of_ble_eq_true rfl) (ctX8_packed (by decide) h16) ?_
            refine V_lcmp_eq (pc := 56) (tgt := 100) dX8_isReserved_56 dX8_isReserved_57 (by decide) (fun c18 => ?_) (fun c18 => ?_)
            · have h := ite_p c18 h
              refine V_iconst (pc := 100) (x := 1) dX8_isReserved_100 (by decide) ?_
              refine V_goto (pc := 101) (tgt := 105) dX8_isReserved_101 (by decide) ?_
              cases h
              exact V_ret (pc := 105) dX8_isReserved_105 ⟨rfl, _, rfl, rfl⟩ ⟨rfl, rfl, rfl⟩
            · have h := ite_n c18 h
              refine V_lload_n (pc := 60) 0 dX8_isReserved_60 rfl rfl ?_
              refine V_ldcS (pc := 61) (i := 6) (tx := "off") dX8_isReserved_61 (by decide) ?_
              obtain ⟨x20, h19, h⟩ := bnd h
              refine V_cS1 (pc := 63) dX8_isReserved_63 kw429 calX8_packed kw430 (by decide) (Nat.le_of_ble_eq_true rfl) (ctX8_packed (by decide) h19) ?_
              refine V_lcmp_eq (pc := 66) (tgt := 100) dX8_isReserved_66 dX8_isReserved_67 (by decide) (fun c21 => ?_) (fun c21 => ?_)
              · have h := ite_p c21 h
                refine V_iconst (pc := 100) (x := 1) dX8_isReserved_100 (by decide) ?_
                refine V_goto (pc := 101) (tgt := 105) dX8_isReserved_101 (by decide) ?_
                cases h
                exact V_ret (pc := 105) dX8_isReserved_105 ⟨rfl, _, rfl, rfl⟩ ⟨rfl, rfl, rfl⟩
              · have h := ite_n c21 h
                refine V_lload_n (pc := 70) 0 dX8_isReserved_70 rfl rfl ?_
                refine V_ldcS (pc := 71) (i := 7) (tx := "with") dX8_isReserved_71 (by decide) ?_
                obtain ⟨x23, h22, h⟩ := bnd h
                refine V_cS1 (pc := 73) dX8_isReserved_73 kw429 calX8_packed kw430 (by decide) (Nat.le_of_ble_eq_true rfl) (ctX8_packed (by decide) h22) ?_
                refine V_lcmp_eq (pc := 76) (tgt := 100) dX8_isReserved_76 dX8_isReserved_77 (by decide) (fun c24 => ?_) (fun c24 => ?_)
                · have h := ite_p c24 h
                  refine V_iconst (pc := 100) (x := 1) dX8_isReserved_100 (by decide) ?_
                  refine V_goto (pc := 101) (tgt := 105) dX8_isReserved_101 (by decide) ?_
                  cases h
                  exact V_ret (pc := 105) dX8_isReserved_105 ⟨rfl, _, rfl, rfl⟩ ⟨rfl, rfl, rfl⟩
                · have h := ite_n c24 h
                  refine V_lload_n (pc := 80) 0 dX8_isReserved_80 rfl rfl ?_
                  refine V_ldcS (pc := 81) (i := 8) (tx := "without") dX8_isReserved_81 (by decide) ?_
                  obtain ⟨x26, h25, h⟩ := bnd h
                  refine V_cS1 (pc := 83) dX8_isReserved_83 kw429 calX8_packed kw430 (by decide) (Nat.le_of_ble_eq_true rfl) (ctX8_packed (by decide) h25) ?_
                  refine V_lcmp_eq (pc := 86) (tgt := 100) dX8_isReserved_86 dX8_isReserved_87 (by decide) (fun c27 => ?_) (fun c27 => ?_)
                  · have h := ite_p c27 h
                    refine V_iconst (pc := 100) (x := 1) dX8_isReserved_100 (by decide) ?_
                    refine V_goto (pc := 101) (tgt := 105) dX8_isReserved_101 (by decide) ?_
                    cases h
                    exact V_ret (pc := 105) dX8_isReserved_105 ⟨rfl, _, rfl, rfl⟩ ⟨rfl, rfl, rfl⟩
                  · have h := ite_n c27 h
                    refine V_lload_n (pc := 90) 0 dX8_isReserved_90 rfl rfl ?_
                    refine V_ldcS (pc := 91) (i := 9) (tx := "of") dX8_isReserved_91 (by decide) ?_
                    obtain ⟨x29, h28, h⟩ := bnd h
                    refine V_cS1 (pc := 93) dX8_isReserved_93 kw429 calX8_packed kw430 (by decide) (Nat.le_of_ble_eq_true rfl) (ctX8_packed (by decide) h28) ?_
                    refine V_lcmp_ne (pc := 96) (tgt := 104) dX8_isReserved_96 dX8_isReserved_97 (by decide) (fun c30 => ?_) (fun c30 => ?_)
                    · have h := ite_n c30 h
                      refine V_iconst (pc := 104) (x := 0) dX8_isReserved_104 (by decide) ?_
                      cases h
                      exact V_ret (pc := 105) dX8_isReserved_105 ⟨rfl, _, rfl, rfl⟩ ⟨rfl, rfl, rfl⟩
                    · have h := ite_p c30 h
                      refine V_iconst (pc := 100) (x := 1) dX8_isReserved_100 (by decide) ?_
                      refine V_goto (pc := 101) (tgt := 105) dX8_isReserved_101 (by decide) ?_
                      cases h
                      exact V_ret (pc := 105) dX8_isReserved_105 ⟨rfl, _, rfl, rfl⟩ ⟨rfl, rfl, rfl⟩
theorem calX8_add : Cal yX8_add cX8_add 5 none 3 := ⟨kw492, kw7, by decide +kernel⟩
theorem ctX8_add {G : Gl} {σ : Sg} {d : Dt} {r0 : Nat} {v1 : Int32} {v2 : Int32} {v3 : Int64} {rr : Dt} (H0 : L8 σ r0) (h : mX8_add r0 v1 v2 v3 d = some rr) : CTv G yX8_add cX8_add 5 none 0 [.ref (gB G + r0), .int v1, .int v2, .long v3] σ d [] rr := by
  refine CT_of pn_RX8 (Nat.le_of_ble_eq_true rfl) ?_
  rw [mX8_add] at h
  refine V_aload_n (pc := 0) 0 dX8_add_0 rfl rfl ?_
  refine V_getI (pc := 1) (c := 8) (k := 0) dX8_add_1 (by decide) (by decide) kw278 rfl rfl (L8_0 H0) ?_
  refine V_sipush (pc := 4) (x := 1000) dX8_add_4 (by decide) ?_
  refine V_icmp_ge (pc := 7) (tgt := 50) dX8_add_7 (by decide) (fun c1 => ?_) (fun c1 => ?_)
  · have h := ite_p c1 h
    cases h
    exact V_ret (pc := 50) dX8_add_50 ⟨rfl, rfl⟩ ⟨rfl, rfl, rfl⟩
  · have h := ite_n c1 h
    refine V_aload_n (pc := 10) 0 dX8_add_10 rfl rfl ?_
    refine V_getR (pc := 11) (c := 8) (k := 2) dX8_add_11 (by decide) (by decide) kw280 rfl rfl (L8_0 H0) (L8_r2 H0) ?_
    refine V_aload_n (pc := 14) 0 dX8_add_14 rfl rfl ?_
    refine V_getI (pc := 15) (c := 8) (k := 0) dX8_add_15 (by decide) (by decide) kw278 rfl rfl (L8_0 H0) ?_
    refine V_iload_n (pc := 18) 1 dX8_add_18 rfl rfl ?_
    obtain ⟨b2, h⟩ := ite_o h
    refine V_iast (pc := 19) dX8_add_19 (L8_s2 H0) (inB_vp b2) ?_
    refine V_aload_n (pc := 20) 0 dX8_add_20 rfl rfl ?_
    refine V_getR (pc := 21) (c := 8) (k := 3) dX8_add_21 (by decide) (by decide) kw281 rfl rfl (L8_0 H0) (L8_r3 H0) ?_
    refine V_aload_n (pc := 24) 0 dX8_add_24 rfl rfl ?_
    refine V_getI (pc := 25) (c := 8) (k := 0) dX8_add_25 (by decide) (by decide) kw278 rfl rfl (L8_0 H0) ?_
    refine V_iload_n (pc := 28) 2 dX8_add_28 rfl rfl ?_
    obtain ⟨b3, h⟩ := ite_o h
    refine V_iast (pc := 29) dX8_add_29 (L8_s3 H0) (inB_vp b3) ?_
    refine V_aload_n (pc := 30) 0 dX8_add_30 rfl rfl ?_
    refine V_getR (pc := 31) (c := 8) (k := 4) dX8_add_31 (by decide) (by decide) kw282 rfl rfl (L8_0 H0) (L8_r4 H0) ?_
    refine V_aload_n (pc := 34) 0 dX8_add_34 rfl rfl ?_
    refine V_getI (pc := 35) (c := 8) (k := 0) dX8_add_35 (by decide) (by decide) kw278 rfl rfl (L8_0 H0) ?_
    refine V_lload_n (pc := 38) 3 dX8_add_38 rfl rfl ?_
    obtain ⟨b4, h⟩ := ite_o h
    refine V_last (pc := 39) dX8_add_39 (L8_s4 H0) (inB_vp b4) ?_
    refine V_aload_n (pc := 40) 0 dX8_add_40 rfl rfl ?_
    refine V_dup (pc := 41) dX8_add_41 rfl ?_
    refine V_getI (pc := 42) (c := 8) (k := 0) dX8_add_42 (by decide) (by decide) kw278 rfl rfl (L8_0 H0) ?_
    refine V_iconst (pc := 45) (x := 1) dX8_add_45 (by decide) ?_
    refine V_iadd (pc := 46) dX8_add_46 ?_
    refine V_putI (pc := 47) (c := 8) (k := 0) dX8_add_47 (by decide) (by decide) kw278 rfl rfl rfl ⟨rfl, rfl⟩ (L8_0 H0) ?_
    cases h
    exact V_ret (pc := 50) dX8_add_50 ⟨rfl, rfl⟩ ⟨rfl, rfl, rfl⟩
theorem wX8_cutLetters_41 {G : Gl} {σ : Sg} {d : Dt} {r0 : Nat} {v2 : Int32} {v3 : Int64} {v5 : Int32} {rr : Int32 × Dt} (H0 : L8 σ r0) (h : mX8_cutLetters_41 r0 v2 v3 v5 d = some rr) : V G yX8_cutLetters cX8_cutLetters 6 (some .int) 8 0 0 (PH [.int rr.1] σ rr.2) 41 [(0, .ref (gB G + r0)), (2, .int v2), (3, .long v3), (5, .int v5)] [] σ d := by
  rw [mX8_cutLetters_41] at h
  refine V_aload_n (pc := 41) 0 dX8_cutLetters_41 rfl rfl ?_
  refine V_iload (pc := 42) 3 dX8_cutLetters_42 rfl ?_
  refine V_iload_n (pc := 44) 1 dX8_cutLetters_44 rfl rfl ?_
  refine V_isub (pc := 45) dX8_cutLetters_45 ?_
  refine V_bipush (pc := 46) (x := 7) dX8_cutLetters_46 (by decide) ?_
  refine V_icmp_le (pc := 48) (tgt := 55) dX8_cutLetters_48 (by decide) (fun c7 => ?_) (fun c7 => ?_)
  · have h := ite_p c7 h
    refine V_lload_n (pc := 55) 2 dX8_cutLetters_55 rfl rfl ?_
    obtain ⟨x9, h8, h⟩ := bnd h
    refine V_cS1 (pc := 56) dX8_cutLetters_56 kw425 calX8_isReserved kw426 (by decide) (Nat.le_of_ble_eq_true rfl) (ctX8_isReserved h8) ?_
    refine V_ifB_eq (pc := 59) (tgt := 66) dX8_cutLetters_59 (by decide) (fun c10 => ?_) (fun c10 => ?_)
    · have h := ite_f c10 h
      refine V_iconst (pc := 66) (x := 1) dX8_cutLetters_66 (by decide) ?_
      refine V_iload_n (pc := 67) 1 dX8_cutLetters_67 rfl rfl ?_
      refine V_lload_n (pc := 68) 2 dX8_cutLetters_68 rfl rfl ?_
      obtain ⟨x12, h11, h⟩ := bnd h
      refine V_cV3 (pc := 69) dX8_cutLetters_69 kw489 calX8_add kw491 ks3 (L8_0 H0) rfl (by decide) (Nat.le_of_ble_eq_true rfl) (ctX8_add H0 h11) ?_
      refine V_iload (pc := 72) 3 dX8_cutLetters_72 rfl ?_
      cases h
      exact V_ret (pc := 74) dX8_cutLetters_74 ⟨rfl, _, rfl⟩ ⟨rfl, rfl, rfl⟩
    · have h := ite_p c10 h
      refine V_iconst (pc := 62) (x := 2) dX8_cutLetters_62 (by decide) ?_
      refine V_goto (pc := 63) (tgt := 67) dX8_cutLetters_63 (by decide) ?_
      refine V_iload_n (pc := 67) 1 dX8_cutLetters_67 rfl rfl ?_
      refine V_lload_n (pc := 68) 2 dX8_cutLetters_68 rfl rfl ?_
      obtain ⟨x14, h13, h⟩ := bnd h
      refine V_cV3 (pc := 69) dX8_cutLetters_69 kw489 calX8_add kw491 ks3 (L8_0 H0) rfl (by decide) (Nat.le_of_ble_eq_true rfl) (ctX8_add H0 h13) ?_
      refine V_iload (pc := 72) 3 dX8_cutLetters_72 rfl ?_
      cases h
      exact V_ret (pc := 74) dX8_cutLetters_74 ⟨rfl, _, rfl⟩ ⟨rfl, rfl, rfl⟩
  · have h := ite_n c7 h
    refine V_iconst (pc := 51) (x := 0) dX8_cutLetters_51 (by decide) ?_
    refine V_goto (pc := 52) (tgt := 67) dX8_cutLetters_52 (by decide) ?_
    refine V_iload_n (pc := 67) 1 dX8_cutLetters_67 rfl rfl ?_
    refine V_lload_n (pc := 68) 2 dX8_cutLetters_68 rfl rfl ?_
    obtain ⟨x16, h15, h⟩ := bnd h
    refine V_cV3 (pc := 69) dX8_cutLetters_69 kw489 calX8_add kw491 ks3 (L8_0 H0) rfl (by decide) (Nat.le_of_ble_eq_true rfl) (ctX8_add H0 h15) ?_
    refine V_iload (pc := 72) 3 dX8_cutLetters_72 rfl ?_
    cases h
    exact V_ret (pc := 74) dX8_cutLetters_74 ⟨rfl, _, rfl⟩ ⟨rfl, rfl, rfl⟩
theorem wX8_cutLetters_5 {G : Gl} {σ : Sg} {r0 : Nat} {r1 : Nat} {v2 : Int32} {rr : Int32 × Dt} (H0 : L8 σ r0) (H1 : σ.2.1 r1 = some (3, 1000)) : ∀ (n : Nat) (v3 : Int64) (v5 : Int32) (d : Dt), mX8_cutLetters_5 r0 r1 v2 n v3 v5 d = some rr → V G yX8_cutLetters cX8_cutLetters 6 (some .int) 8 0 0 (PH [.int rr.1] σ rr.2) 5 [(0, .ref (gB G + r0)), (1, .ref (gB G + r1)), (2, .int v2), (3, .long v3), (5, .int v5)] [] σ d := by
  intro n
  induction n with
  | zero =>
    intro v3 v5 d
    intros
    rename_i h
    exact absurd h (by rw [mX8_cutLetters_5]; exact fun q => nomatch q)
  | succ n ih =>
    intro v3 v5 d h
    rw [mX8_cutLetters_5] at h
    refine V_iload (pc := 5) 4 dX8_cutLetters_5 rfl ?_
    refine V_aload_n (pc := 7) 0 dX8_cutLetters_7 rfl rfl ?_
    refine V_getI (pc := 8) (c := 8) (k := 1) dX8_cutLetters_8 (by decide) (by decide) kw279 rfl rfl (L8_0 H0) ?_
    refine V_icmp_ge (pc := 11) (tgt := 41) dX8_cutLetters_11 (by decide) (fun c1 => ?_) (fun c1 => ?_)
    · have h := ite_p c1 h
      exact V_sub [0, 2, 3, 4] rfl (wX8_cutLetters_41 H0 h)
    · have h := ite_n c1 h
      refine V_aload_n (pc := 14) 1 dX8_cutLetters_14 rfl rfl ?_
      refine V_iload (pc := 15) 4 dX8_cutLetters_15 rfl ?_
      obtain ⟨b2, h⟩ := ite_o h
      refine V_bald (pc := 17) dX8_cutLetters_17 H1 (inB_vp b2) ?_
      refine V_cS1 (pc := 18) dX8_cutLetters_18 kw418 calX8_isLetter kw419 (by decide) (Nat.le_of_ble_eq_true rfl) (ctX8_isLetter) ?_
      refine V_ifB_eq (pc := 21) (tgt := 41) dX8_cutLetters_21 (by decide) (fun c5 => ?_) (fun c5 => ?_)
      · have h := ite_f c5 h
        exact V_sub [0, 2, 3, 4] rfl (wX8_cutLetters_41 H0 h)
      · have h := ite_p c5 h
        refine V_lload_n (pc := 24) 3 dX8_cutLetters_24 rfl rfl ?_
        refine V_bipush (pc := 25) (x := 8) dX8_cutLetters_25 (by decide) ?_
        refine V_lshl (pc := 27) dX8_cutLetters_27 ?_
        refine V_aload_n (pc := 28) 1 dX8_cutLetters_28 rfl rfl ?_
        refine V_iload (pc := 29) 4 dX8_cutLetters_29 rfl ?_
        obtain ⟨b6, h⟩ := ite_o h
        refine V_bald (pc := 31) dX8_cutLetters_31 H1 (inB_vp b6) ?_
        refine V_i2l (pc := 32) dX8_cutLetters_32 ?_
        refine V_lor (pc := 33) dX8_cutLetters_33 ?_
        refine V_lstore_n (pc := 34) (lv1 := [(3, _), (0, _), (1, _), (2, _), (5, _)]) dX8_cutLetters_34 rfl (by decide) rfl ?_
        refine V_iinc (pc := 35) (lv1 := [(5, _), (3, _), (0, _), (1, _), (2, _)]) (z := _ + (1 : Int32)) 4 dX8_cutLetters_35 rfl rfl (by decide) rfl ?_
        refine V_goto (pc := 38) (tgt := 5) dX8_cutLetters_38 (by decide) ?_
        exact V_sub [2, 3, 4, 1, 0] rfl (ih ((v3 <<< ((8 : Int32).toInt64 &&& 63)) ||| (d.1 r1 v5.toNatClampNeg).toInt64) (v5 + (1 : Int32)) d h)
theorem calX8_cutLetters : Cal yX8_cutLetters cX8_cutLetters 6 (some .int) 2 := ⟨kw424, kw7, by decide +kernel⟩
theorem ctX8_cutLetters {G : Gl} {σ : Sg} {d : Dt} {r0 : Nat} {r1 : Nat} {v2 : Int32} {rr : Int32 × Dt} (H0 : L8 σ r0) (H1 : σ.2.1 r1 = some (3, 1000)) (h : mX8_cutLetters r0 r1 v2 d = some rr) : CTv G yX8_cutLetters cX8_cutLetters 6 (some .int) 8 [.ref (gB G + r0), .ref (gB G + r1), .int v2] σ d [.int rr.1] rr.2 := by
  refine CT_of pn_RX8 (Nat.le_of_ble_eq_true rfl) ?_
  rw [mX8_cutLetters] at h
  refine V_lconst (pc := 0) (x := 0) dX8_cutLetters_0 (by decide) ?_
  refine V_lstore_n (pc := 1) (lv1 := [(3, _), (0, _), (1, _), (2, _)]) dX8_cutLetters_1 rfl (by decide) rfl ?_
  refine V_iload_n (pc := 2) 3 dX8_cutLetters_2 rfl rfl ?_
  refine V_istore (pc := 3) (lv1 := [(5, _), (3, _), (0, _), (1, _), (2, _)]) dX8_cutLetters_3 (by decide) rfl ?_
  exact V_sub [2, 3, 4, 1, 0] rfl (wX8_cutLetters_5 H0 H1 FUEL (0 : Int64) v2 d h)
theorem calX8_isDigit : Cal yX8_isDigit cX8_isDigit 1 (some .boolean) 1 := ⟨kw495, kw7, by decide +kernel⟩
theorem ctX8_isDigit {G : Gl} {σ : Sg} {d : Dt} {v0 : Int32} : CTv G yX8_isDigit cX8_isDigit 1 (some .boolean) 0 [.int v0] σ d [.int (b2i (mX8_isDigit v0))] d := by
  refine CT_of pn_RX8 (Nat.le_of_ble_eq_true rfl) ?_
  generalize h : mX8_isDigit v0 = rr
  rw [mX8_isDigit] at h
  refine V_iload_n (pc := 0) 0 dX8_isDigit_0 rfl rfl ?_
  refine V_bipush (pc := 1) (x := 48) dX8_isDigit_1 (by decide) ?_
  refine V_icmp_lt (pc := 3) (tgt := 16) dX8_isDigit_3 (by decide) (fun c1 => ?_) (fun c1 => ?_)
  · have h := ite_p c1 h
    refine V_iconst (pc := 16) (x := 0) dX8_isDigit_16 (by decide) ?_
    subst h
    exact V_ret (pc := 17) dX8_isDigit_17 ⟨rfl, _, rfl, rfl⟩ ⟨rfl, rfl, rfl⟩
  · have h := ite_n c1 h
    refine V_iload_n (pc := 6) 0 dX8_isDigit_6 rfl rfl ?_
    refine V_bipush (pc := 7) (x := 57) dX8_isDigit_7 (by decide) ?_
    refine V_icmp_gt (pc := 9) (tgt := 16) dX8_isDigit_9 (by decide) (fun c2 => ?_) (fun c2 => ?_)
    · have h := ite_p c2 h
      refine V_iconst (pc := 16) (x := 0) dX8_isDigit_16 (by decide) ?_
      subst h
      exact V_ret (pc := 17) dX8_isDigit_17 ⟨rfl, _, rfl, rfl⟩ ⟨rfl, rfl, rfl⟩
    · have h := ite_n c2 h
      refine V_iconst (pc := 12) (x := 1) dX8_isDigit_12 (by decide) ?_
      refine V_goto (pc := 13) (tgt := 17) dX8_isDigit_13 (by decide) ?_
      subst h
      exact V_ret (pc := 17) dX8_isDigit_17 ⟨rfl, _, rfl, rfl⟩ ⟨rfl, rfl, rfl⟩
theorem wX8_cutDigits_46 {G : Gl} {σ : Sg} {d : Dt} {r0 : Nat} {v2 : Int32} {v3 : Int64} {v5 : Int32} {rr : Int32 × Dt} (H0 : L8 σ r0) (h : mX8_cutDigits_46 r0 v2 v3 v5 d = some rr) : V G yX8_cutDigits cX8_cutDigits 6 (some .int) 1 0 0 (PH [.int rr.1] σ rr.2) 46 [(0, .ref (gB G + r0)), (2, .int v2), (3, .long v3), (5, .int v5)] [] σ d := by
  rw [mX8_cutDigits_46] at h
  refine V_aload_n (pc := 46) 0 dX8_cutDigits_46 rfl rfl ?_
  refine V_iload (pc := 47) 3 dX8_cutDigits_47 rfl ?_
  refine V_iload_n (pc := 49) 1 dX8_cutDigits_49 rfl rfl ?_
  refine V_isub (pc := 50) dX8_cutDigits_50 ?_
  refine V_iconst (pc := 51) (x := 3) dX8_cutDigits_51 (by decide) ?_
  refine V_icmp_le (pc := 52) (tgt := 59) dX8_cutDigits_52 (by decide) (fun c7 => ?_) (fun c7 => ?_)
  · have h := ite_p c7 h
    refine V_iconst (pc := 59) (x := 3) dX8_cutDigits_59 (by decide) ?_
    refine V_iload_n (pc := 60) 1 dX8_cutDigits_60 rfl rfl ?_
    refine V_lload_n (pc := 61) 2 dX8_cutDigits_61 rfl rfl ?_
    obtain ⟨x9, h8, h⟩ := bnd h
    refine V_cV3 (pc := 62) dX8_cutDigits_62 kw489 calX8_add kw491 ks3 (L8_0 H0) rfl (by decide) (Nat.le_of_ble_eq_true rfl) (ctX8_add H0 h8) ?_
    refine V_iload (pc := 65) 3 dX8_cutDigits_65 rfl ?_
    cases h
    exact V_ret (pc := 67) dX8_cutDigits_67 ⟨rfl, _, rfl⟩ ⟨rfl, rfl, rfl⟩
  · have h := ite_n c7 h
    refine V_iconst (pc := 55) (x := 0) dX8_cutDigits_55 (by decide) ?_
    refine V_goto (pc := 56) (tgt := 60) dX8_cutDigits_56 (by decide) ?_
    refine V_iload_n (pc := 60) 1 dX8_cutDigits_60 rfl rfl ?_
    refine V_lload_n (pc := 61) 2 dX8_cutDigits_61 rfl rfl ?_
    obtain ⟨x11, h10, h⟩ := bnd h
    refine V_cV3 (pc := 62) dX8_cutDigits_62 kw489 calX8_add kw491 ks3 (L8_0 H0) rfl (by decide) (Nat.le_of_ble_eq_true rfl) (ctX8_add H0 h10) ?_
    refine V_iload (pc := 65) 3 dX8_cutDigits_65 rfl ?_
    cases h
    exact V_ret (pc := 67) dX8_cutDigits_67 ⟨rfl, _, rfl⟩ ⟨rfl, rfl, rfl⟩
theorem wX8_cutDigits_5 {G : Gl} {σ : Sg} {r0 : Nat} {r1 : Nat} {v2 : Int32} {rr : Int32 × Dt} (H0 : L8 σ r0) (H1 : σ.2.1 r1 = some (3, 1000)) : ∀ (n : Nat) (v3 : Int64) (v5 : Int32) (d : Dt), mX8_cutDigits_5 r0 r1 v2 n v3 v5 d = some rr → V G yX8_cutDigits cX8_cutDigits 6 (some .int) 1 0 0 (PH [.int rr.1] σ rr.2) 5 [(0, .ref (gB G + r0)), (1, .ref (gB G + r1)), (2, .int v2), (3, .long v3), (5, .int v5)] [] σ d := by
  intro n
  induction n with
  | zero =>
    intro v3 v5 d
    intros
    rename_i h
    exact absurd h (by rw [mX8_cutDigits_5]; exact fun q => nomatch q)
  | succ n ih =>
    intro v3 v5 d h
    rw [mX8_cutDigits_5] at h
    refine V_iload (pc := 5) 4 dX8_cutDigits_5 rfl ?_
    refine V_aload_n (pc := 7) 0 dX8_cutDigits_7 rfl rfl ?_
    refine V_getI (pc := 8) (c := 8) (k := 1) dX8_cutDigits_8 (by decide) (by decide) kw279 rfl rfl (L8_0 H0) ?_
    refine V_icmp_ge (pc := 11) (tgt := 46) dX8_cutDigits_11 (by decide) (fun c1 => ?_) (fun c1 => ?_)
    · have h := ite_p c1 h
      exact V_sub [0, 2, 3, 4] rfl (wX8_cutDigits_46 H0 h)
    · have h := ite_n c1 h
      refine V_aload_n (pc := 14) 1 dX8_cutDigits_14 rfl rfl ?_
      refine V_iload (pc := 15) 4 dX8_cutDigits_15 rfl ?_
      obtain ⟨b2, h⟩ := ite_o h
      refine V_bald (pc := 17) dX8_cutDigits_17 H1 (inB_vp b2) ?_
      refine V_cS1 (pc := 18) dX8_cutDigits_18 kw493 calX8_isDigit kw494 (by decide) (Nat.le_of_ble_eq_true rfl) (ctX8_isDigit) ?_
      refine V_ifB_eq (pc := 21) (tgt := 46) dX8_cutDigits_21 (by decide) (fun c5 => ?_) (fun c5 => ?_)
      · have h := ite_f c5 h
        exact V_sub [0, 2, 3, 4] rfl (wX8_cutDigits_46 H0 h)
      · have h := ite_p c5 h
        refine V_lload_n (pc := 24) 3 dX8_cutDigits_24 rfl rfl ?_
        refine V_ldc2 (pc := 25) dX8_cutDigits_25 kw500 ?_
        refine V_lmul (pc := 28) dX8_cutDigits_28 ?_
        refine V_aload_n (pc := 29) 1 dX8_cutDigits_29 rfl rfl ?_
        refine V_iload (pc := 30) 4 dX8_cutDigits_30 rfl ?_
        obtain ⟨b6, h⟩ := ite_o h
        refine V_bald (pc := 32) dX8_cutDigits_32 H1 (inB_vp b6) ?_
        refine V_i2l (pc := 33) dX8_cutDigits_33 ?_
        refine V_ladd (pc := 34) dX8_cutDigits_34 ?_
        refine V_ldc2 (pc := 35) dX8_cutDigits_35 kw501 ?_
        refine V_lsub (pc := 38) dX8_cutDigits_38 ?_
        refine V_lstore_n (pc := 39) (lv1 := [(3, _), (0, _), (1, _), (2, _), (5, _)]) dX8_cutDigits_39 rfl (by decide) rfl ?_
        refine V_iinc (pc := 40) (lv1 := [(5, _), (3, _), (0, _), (1, _), (2, _)]) (z := _ + (1 : Int32)) 4 dX8_cutDigits_40 rfl rfl (by decide) rfl ?_
        refine V_goto (pc := 43) (tgt := 5) dX8_cutDigits_43 (by decide) ?_
        exact V_sub [2, 3, 4, 1, 0] rfl (ih (((v3 * (10 : Int64)) + (d.1 r1 v5.toNatClampNeg).toInt64) - (48 : Int64)) (v5 + (1 : Int32)) d h)
theorem calX8_cutDigits : Cal yX8_cutDigits cX8_cutDigits 6 (some .int) 2 := ⟨kw499, kw7, by decide +kernel⟩
theorem ctX8_cutDigits {G : Gl} {σ : Sg} {d : Dt} {r0 : Nat} {r1 : Nat} {v2 : Int32} {rr : Int32 × Dt} (H0 : L8 σ r0) (H1 : σ.2.1 r1 = some (3, 1000)) (h : mX8_cutDigits r0 r1 v2 d = some rr) : CTv G yX8_cutDigits cX8_cutDigits 6 (some .int) 1 [.ref (gB G + r0), .ref (gB G + r1), .int v2] σ d [.int rr.1] rr.2 := by
  refine CT_of pn_RX8 (Nat.le_of_ble_eq_true rfl) ?_
  rw [mX8_cutDigits] at h
  refine V_lconst (pc := 0) (x := 0) dX8_cutDigits_0 (by decide) ?_
  refine V_lstore_n (pc := 1) (lv1 := [(3, _), (0, _), (1, _), (2, _)]) dX8_cutDigits_1 rfl (by decide) rfl ?_
  refine V_iload_n (pc := 2) 3 dX8_cutDigits_2 rfl rfl ?_
  refine V_istore (pc := 3) (lv1 := [(5, _), (3, _), (0, _), (1, _), (2, _)]) dX8_cutDigits_3 (by decide) rfl ?_
  exact V_sub [2, 3, 4, 1, 0] rfl (wX8_cutDigits_5 H0 H1 FUEL (0 : Int64) v2 d h)
theorem wX8_cut_20 {G : Gl} {σ : Sg} {r0 : Nat} {r1 : Nat} {rr : Dt} (H0 : L8 σ r0) (H1 : σ.2.1 r1 = some (3, 1000)) : ∀ (n : Nat) (v3 : Int32) (v4 : Int32) (d : Dt), mX8_cut_20 r0 r1 n v3 v4 d = some rr → V G yX8_cut cX8_cut 6 none 9 0 0 (PH [] σ rr) 20 [(0, .ref (gB G + r0)), (1, .ref (gB G + r1)), (3, .int v3), (4, .int v4)] [] σ d := by
  intro n
  induction n with
  | zero =>
    intro v3 v4 d
    intros
    rename_i h
    exact absurd h (by rw [mX8_cut_20]; exact fun q => nomatch q)
  | succ n ih =>
    intro v3 v4 d h
    rw [mX8_cut_20] at h
    refine V_iload (pc := 20) 3 dX8_cut_20 rfl ?_
    refine V_sipush (pc := 22) (x := 1000) dX8_cut_22 (by decide) ?_
    refine V_icmp_ge (pc := 25) (tgt := 128) dX8_cut_25 (by decide) (fun c1 => ?_) (fun c1 => ?_)
    · have h := ite_p c1 h
      cases h
      exact V_ret (pc := 128) dX8_cut_128 ⟨rfl, rfl⟩ ⟨rfl, rfl, rfl⟩
    · have h := ite_n c1 h
      refine V_iload_n (pc := 28) 2 dX8_cut_28 rfl rfl ?_
      refine V_aload_n (pc := 29) 0 dX8_cut_29 rfl rfl ?_
      refine V_getI (pc := 30) (c := 8) (k := 1) dX8_cut_30 (by decide) (by decide) kw279 rfl rfl (L8_0 H0) ?_
      refine V_icmp_ge (pc := 33) (tgt := 128) dX8_cut_33 (by decide) (fun c2 => ?_) (fun c2 => ?_)
      · have h := ite_p c2 h
        cases h
        exact V_ret (pc := 128) dX8_cut_128 ⟨rfl, rfl⟩ ⟨rfl, rfl, rfl⟩
      · have h := ite_n c2 h
        refine V_aload_n (pc := 36) 1 dX8_cut_36 rfl rfl ?_
        refine V_iload_n (pc := 37) 2 dX8_cut_37 rfl rfl ?_
        obtain ⟨b3, h⟩ := ite_o h
        refine V_bald (pc := 38) dX8_cut_38 H1 (inB_vp b3) ?_
        refine V_istore (pc := 39) (lv1 := [(5, _), (0, _), (1, _), (3, _), (4, _)]) dX8_cut_39 (by decide) rfl ?_
        refine V_iload (pc := 41) 0 dX8_cut_41 rfl ?_
        refine V_bipush (pc := 43) (x := 32) dX8_cut_43 (by decide) ?_
        refine V_icmp_ne (pc := 45) (tgt := 54) dX8_cut_45 (by decide) (fun c4 => ?_) (fun c4 => ?_)
        · have h := ite_n c4 h
          refine V_iload (pc := 54) 0 dX8_cut_54 rfl ?_
          refine V_cS1 (pc := 56) dX8_cut_56 kw418 calX8_isLetter kw419 (by decide) (Nat.le_of_ble_eq_true rfl) (ctX8_isLetter) ?_
          refine V_ifB_eq (pc := 59) (tgt := 72) dX8_cut_59 (by decide) (fun c7 => ?_) (fun c7 => ?_)
          · have h := ite_f c7 h
            refine V_iload (pc := 72) 0 dX8_cut_72 rfl ?_
            refine V_cS1 (pc := 74) dX8_cut_74 kw493 calX8_isDigit kw494 (by decide) (Nat.le_of_ble_eq_true rfl) (ctX8_isDigit) ?_
            refine V_ifB_eq (pc := 77) (tgt := 90) dX8_cut_77 (by decide) (fun c10 => ?_) (fun c10 => ?_)
            · have h := ite_f c10 h
              refine V_aload_n (pc := 90) 1 dX8_cut_90 rfl rfl ?_
              refine V_iload (pc := 91) 0 dX8_cut_91 rfl ?_
              refine V_bipush (pc := 93) (x := 44) dX8_cut_93 (by decide) ?_
              refine V_icmp_ne (pc := 95) (tgt := 102) dX8_cut_95 (by decide) (fun c11 => ?_) (fun c11 => ?_)
              · have h := ite_n c11 h
                refine V_iload (pc := 102) 0 dX8_cut_102 rfl ?_
                refine V_bipush (pc := 104) (x := 59) dX8_cut_104 (by decide) ?_
                refine V_icmp_ne (pc := 106) (tgt := 113) dX8_cut_106 (by decide) (fun c12 => ?_) (fun c12 => ?_)
                · have h := ite_n c12 h
                  refine V_iconst (pc := 113) (x := 0) dX8_cut_113 (by decide) ?_
                  refine V_iload_n (pc := 114) 3 dX8_cut_114 rfl rfl ?_
                  refine V_lconst (pc := 115) (x := 0) dX8_cut_115 (by decide) ?_
                  obtain ⟨x14, h13, h⟩ := bnd h
                  refine V_cV3 (pc := 116) dX8_cut_116 kw489 calX8_add kw491 ks3 (L8_0 H0) rfl (by decide) (Nat.le_of_ble_eq_true rfl) (ctX8_add H0 h13) ?_
                  refine V_iinc (pc := 119) (lv1 := [(3, _), (5, _), (0, _), (1, _), (4, _)]) (z := _ + (1 : Int32)) 3 dX8_cut_119 rfl rfl (by decide) rfl ?_
                  refine V_iinc (pc := 122) (lv1 := [(4, _), (3, _), (5, _), (0, _), (1, _)]) (z := _ + (1 : Int32)) 4 dX8_cut_122 rfl rfl (by decide) rfl ?_
                  refine V_goto (pc := 125) (tgt := 20) dX8_cut_125 (by decide) ?_
                  exact V_sub [3, 4, 1, 0] rfl (ih (v3 + (1 : Int32)) (v4 + (1 : Int32)) x14 h)
                · have h := ite_p c12 h
                  refine V_iconst (pc := 109) (x := 5) dX8_cut_109 (by decide) ?_
                  refine V_goto (pc := 110) (tgt := 114) dX8_cut_110 (by decide) ?_
                  refine V_iload_n (pc := 114) 3 dX8_cut_114 rfl rfl ?_
                  refine V_lconst (pc := 115) (x := 0) dX8_cut_115 (by decide) ?_
                  obtain ⟨x16, h15, h⟩ := bnd h
                  refine V_cV3 (pc := 116) dX8_cut_116 kw489 calX8_add kw491 ks3 (L8_0 H0) rfl (by decide) (Nat.le_of_ble_eq_true rfl) (ctX8_add H0 h15) ?_
                  refine V_iinc (pc := 119) (lv1 := [(3, _), (5, _), (0, _), (1, _), (4, _)]) (z := _ + (1 : Int32)) 3 dX8_cut_119 rfl rfl (by decide) rfl ?_
                  refine V_iinc (pc := 122) (lv1 := [(4, _), (3, _), (5, _), (0, _), (1, _)]) (z := _ + (1 : Int32)) 4 dX8_cut_122 rfl rfl (by decide) rfl ?_
                  refine V_goto (pc := 125) (tgt := 20) dX8_cut_125 (by decide) ?_
                  exact V_sub [3, 4, 1, 0] rfl (ih (v3 + (1 : Int32)) (v4 + (1 : Int32)) x16 h)
              · have h := ite_p c11 h
                refine V_iconst (pc := 98) (x := 4) dX8_cut_98 (by decide) ?_
                refine V_goto (pc := 99) (tgt := 114) dX8_cut_99 (by decide) ?_
                refine V_iload_n (pc := 114) 3 dX8_cut_114 rfl rfl ?_
                refine V_lconst (pc := 115) (x := 0) dX8_cut_115 (by decide) ?_
                obtain ⟨x18, h17, h⟩ := bnd h
                refine V_cV3 (pc := 116) dX8_cut_116 kw489 calX8_add kw491 ks3 (L8_0 H0) rfl (by decide) (Nat.le_of_ble_eq_true rfl) (ctX8_add H0 h17) ?_
                refine V_iinc (pc := 119) (lv1 := [(3, _), (5, _), (0, _), (1, _), (4, _)]) (z := _ + (1 : Int32)) 3 dX8_cut_119 rfl rfl (by decide) rfl ?_
                refine V_iinc (pc := 122) (lv1 := [(4, _), (3, _), (5, _), (0, _), (1, _)]) (z := _ + (1 : Int32)) 4 dX8_cut_122 rfl rfl (by decide) rfl ?_
                refine V_goto (pc := 125) (tgt := 20) dX8_cut_125 (by decide) ?_
                exact V_sub [3, 4, 1, 0] rfl (ih (v3 + (1 : Int32)) (v4 + (1 : Int32)) x18 h)
            · have h := ite_p c10 h
              refine V_aload_n (pc := 80) 1 dX8_cut_80 rfl rfl ?_
              refine V_aload_n (pc := 81) 2 dX8_cut_81 rfl rfl ?_
              refine V_iload_n (pc := 82) 3 dX8_cut_82 rfl rfl ?_
              obtain ⟨x20, h19, h⟩ := bnd h
              refine V_cV2 (pc := 83) dX8_cut_83 kw496 calX8_cutDigits kw498 ks4 (L8_0 H0) rfl (by decide) (Nat.le_of_ble_eq_true rfl) (ctX8_cutDigits H0 H1 h19) ?_
              refine V_istore_n (pc := 86) (lv1 := [(3, _), (5, _), (0, _), (1, _), (4, _)]) dX8_cut_86 rfl (by decide) rfl ?_
              refine V_goto (pc := 87) (tgt := 122) dX8_cut_87 (by decide) ?_
              refine V_iinc (pc := 122) (lv1 := [(4, _), (3, _), (5, _), (0, _), (1, _)]) (z := _ + (1 : Int32)) 4 dX8_cut_122 rfl rfl (by decide) rfl ?_
              refine V_goto (pc := 125) (tgt := 20) dX8_cut_125 (by decide) ?_
              exact V_sub [3, 4, 1, 0] rfl (ih x20.1 (v4 + (1 : Int32)) x20.2 h)
          · have h := ite_p c7 h
            refine V_aload_n (pc := 62) 1 dX8_cut_62 rfl rfl ?_
            refine V_aload_n (pc := 63) 2 dX8_cut_63 rfl rfl ?_
            refine V_iload_n (pc := 64) 3 dX8_cut_64 rfl rfl ?_
            obtain ⟨x22, h21, h⟩ := bnd h
            refine V_cV2 (pc := 65) dX8_cut_65 kw421 calX8_cutLetters kw423 ks2 (L8_0 H0) rfl (by decide) (Nat.le_of_ble_eq_true rfl) (ctX8_cutLetters H0 H1 h21) ?_
            refine V_istore_n (pc := 68) (lv1 := [(3, _), (5, _), (0, _), (1, _), (4, _)]) dX8_cut_68 rfl (by decide) rfl ?_
            refine V_goto (pc := 69) (tgt := 122) dX8_cut_69 (by decide) ?_
            refine V_iinc (pc := 122) (lv1 := [(4, _), (3, _), (5, _), (0, _), (1, _)]) (z := _ + (1 : Int32)) 4 dX8_cut_122 rfl rfl (by decide) rfl ?_
            refine V_goto (pc := 125) (tgt := 20) dX8_cut_125 (by decide) ?_
            exact V_sub [3, 4, 1, 0] rfl (ih x22.1 (v4 + (1 : Int32)) x22.2 h)
        · have h := ite_p c4 h
          refine V_iinc (pc := 48) (lv1 := [(3, _), (5, _), (0, _), (1, _), (4, _)]) (z := _ + (1 : Int32)) 3 dX8_cut_48 rfl rfl (by decide) rfl ?_
          refine V_goto (pc := 51) (tgt := 122) dX8_cut_51 (by decide) ?_
          refine V_iinc (pc := 122) (lv1 := [(4, _), (3, _), (5, _), (0, _), (1, _)]) (z := _ + (1 : Int32)) 4 dX8_cut_122 rfl rfl (by decide) rfl ?_
          refine V_goto (pc := 125) (tgt := 20) dX8_cut_125 (by decide) ?_
          exact V_sub [3, 4, 1, 0] rfl (ih (v3 + (1 : Int32)) (v4 + (1 : Int32)) d h)
theorem calX8_cut : Cal yX8_cut cX8_cut 6 none 2 := ⟨kw414, kw7, by decide +kernel⟩
theorem ctX8_cut {G : Gl} {σ : Sg} {d : Dt} {r0 : Nat} {r1 : Nat} {v2 : Int32} {rr : Dt} (H0 : L8 σ r0) (H1 : σ.2.1 r1 = some (3, 1000)) (h : mX8_cut r0 r1 v2 d = some rr) : CTv G yX8_cut cX8_cut 6 none 9 [.ref (gB G + r0), .ref (gB G + r1), .int v2] σ d [] rr := by
  refine CT_of pn_RX8 (Nat.le_of_ble_eq_true rfl) ?_
  rw [mX8_cut] at h
  refine V_aload_n (pc := 0) 0 dX8_cut_0 rfl rfl ?_
  refine V_iconst (pc := 1) (x := 0) dX8_cut_1 (by decide) ?_
  refine V_putI (pc := 2) (c := 8) (k := 0) dX8_cut_2 (by decide) (by decide) kw278 rfl rfl rfl ⟨rfl, rfl⟩ (L8_0 H0) ?_
  refine V_aload_n (pc := 5) 0 dX8_cut_5 rfl rfl ?_
  refine V_iload_n (pc := 6) 2 dX8_cut_6 rfl rfl ?_
  refine V_aload_n (pc := 7) 1 dX8_cut_7 rfl rfl ?_
  refine V_alen (pc := 8) (t := 2) (z := 1000) dX8_cut_8 H1 (by decide) ?_
  refine V_mmin (pc := 9) dX8_cut_9 kw415 (by decide) (Nat.le_of_ble_eq_true rfl) ?_
  refine V_putI (pc := 12) (c := 8) (k := 1) dX8_cut_12 (by decide) (by decide) kw279 rfl rfl rfl ⟨rfl, rfl⟩ (L8_0 H0) ?_
  refine V_iconst (pc := 15) (x := 0) dX8_cut_15 (by decide) ?_
  refine V_istore_n (pc := 16) (lv1 := [(3, _), (0, _), (1, _), (2, _)]) dX8_cut_16 rfl (by decide) rfl ?_
  refine V_iconst (pc := 17) (x := 0) dX8_cut_17 (by decide) ?_
  refine V_istore (pc := 18) (lv1 := [(4, _), (3, _), (0, _), (1, _), (2, _)]) dX8_cut_18 (by decide) rfl ?_
  exact V_sub [2, 3, 1, 0] rfl (wX8_cut_20 H0 H1 FUEL (0 : Int32) (0 : Int32) (uI (uI d r0 0 (0 : Int32)) r0 1 (mnI v2 (1000 : Int32))) h)
theorem calX8_kindOf : Cal yX8_kindOf cX8_kindOf 2 (some .int) 1 := ⟨kw547, kw7, by decide +kernel⟩
theorem ctX8_kindOf {G : Gl} {σ : Sg} {d : Dt} {r0 : Nat} {v1 : Int32} {rr : Int32} (H0 : L8 σ r0) (h : mX8_kindOf r0 v1 d = some rr) : CTv G yX8_kindOf cX8_kindOf 2 (some .int) 0 [.ref (gB G + r0), .int v1] σ d [.int rr] d := by
  refine CT_of pn_RX8 (Nat.le_of_ble_eq_true rfl) ?_
  rw [mX8_kindOf] at h
  refine V_iload_n (pc := 0) 1 dX8_kindOf_0 rfl rfl ?_
  refine V_if_lt (pc := 1) (tgt := 21) dX8_kindOf_1 (by decide) (fun c1 => ?_) (fun c1 => ?_)
  · have h := ite_p c1 h
    refine V_bipush (pc := 21) (x := 6) dX8_kindOf_21 (by decide) ?_
    cases h
    exact V_ret (pc := 23) dX8_kindOf_23 ⟨rfl, _, rfl⟩ ⟨rfl, rfl, rfl⟩
  · have h := ite_n c1 h
    refine V_iload_n (pc := 4) 1 dX8_kindOf_4 rfl rfl ?_
    refine V_aload_n (pc := 5) 0 dX8_kindOf_5 rfl rfl ?_
    refine V_getI (pc := 6) (c := 8) (k := 0) dX8_kindOf_6 (by decide) (by decide) kw278 rfl rfl (L8_0 H0) ?_
    refine V_icmp_ge (pc := 9) (tgt := 21) dX8_kindOf_9 (by decide) (fun c2 => ?_) (fun c2 => ?_)
    · have h := ite_p c2 h
      refine V_bipush (pc := 21) (x := 6) dX8_kindOf_21 (by decide) ?_
      cases h
      exact V_ret (pc := 23) dX8_kindOf_23 ⟨rfl, _, rfl⟩ ⟨rfl, rfl, rfl⟩
    · have h := ite_n c2 h
      refine V_aload_n (pc := 12) 0 dX8_kindOf_12 rfl rfl ?_
      refine V_getR (pc := 13) (c := 8) (k := 2) dX8_kindOf_13 (by decide) (by decide) kw280 rfl rfl (L8_0 H0) (L8_r2 H0) ?_
      refine V_iload_n (pc := 16) 1 dX8_kindOf_16 rfl rfl ?_
      obtain ⟨b3, h⟩ := ite_o h
      refine V_iald (pc := 17) dX8_kindOf_17 (L8_s2 H0) (inB_vp b3) ?_
      refine V_goto (pc := 18) (tgt := 23) dX8_kindOf_18 (by decide) ?_
      cases h
      exact V_ret (pc := 23) dX8_kindOf_23 ⟨rfl, _, rfl⟩ ⟨rfl, rfl, rfl⟩
theorem calX8_valueOf : Cal yX8_valueOf cX8_valueOf 2 (some .long) 1 := ⟨kw551, kw7, by decide +kernel⟩
theorem ctX8_valueOf {G : Gl} {σ : Sg} {d : Dt} {r0 : Nat} {v1 : Int32} {rr : Int64} (H0 : L8 σ r0) (h : mX8_valueOf r0 v1 d = some rr) : CTv G yX8_valueOf cX8_valueOf 2 (some .long) 0 [.ref (gB G + r0), .int v1] σ d [.long rr] d := by
  refine CT_of pn_RX8 (Nat.le_of_ble_eq_true rfl) ?_
  rw [mX8_valueOf] at h
  refine V_iload_n (pc := 0) 1 dX8_valueOf_0 rfl rfl ?_
  refine V_if_lt (pc := 1) (tgt := 21) dX8_valueOf_1 (by decide) (fun c1 => ?_) (fun c1 => ?_)
  · have h := ite_p c1 h
    refine V_lconst (pc := 21) (x := 0) dX8_valueOf_21 (by decide) ?_
    cases h
    exact V_ret (pc := 22) dX8_valueOf_22 ⟨rfl, _, rfl⟩ ⟨rfl, rfl, rfl⟩
  · have h := ite_n c1 h
    refine V_iload_n (pc := 4) 1 dX8_valueOf_4 rfl rfl ?_
    refine V_aload_n (pc := 5) 0 dX8_valueOf_5 rfl rfl ?_
    refine V_getI (pc := 6) (c := 8) (k := 0) dX8_valueOf_6 (by decide) (by decide) kw278 rfl rfl (L8_0 H0) ?_
    refine V_icmp_ge (pc := 9) (tgt := 21) dX8_valueOf_9 (by decide) (fun c2 => ?_) (fun c2 => ?_)
    · have h := ite_p c2 h
      refine V_lconst (pc := 21) (x := 0) dX8_valueOf_21 (by decide) ?_
      cases h
      exact V_ret (pc := 22) dX8_valueOf_22 ⟨rfl, _, rfl⟩ ⟨rfl, rfl, rfl⟩
    · have h := ite_n c2 h
      refine V_aload_n (pc := 12) 0 dX8_valueOf_12 rfl rfl ?_
      refine V_getR (pc := 13) (c := 8) (k := 4) dX8_valueOf_13 (by decide) (by decide) kw282 rfl rfl (L8_0 H0) (L8_r4 H0) ?_
      refine V_iload_n (pc := 16) 1 dX8_valueOf_16 rfl rfl ?_
      obtain ⟨b3, h⟩ := ite_o h
      refine V_lald (pc := 17) dX8_valueOf_17 (L8_s4 H0) (inB_vp b3) ?_
      refine V_goto (pc := 18) (tgt := 22) dX8_valueOf_18 (by decide) ?_
      cases h
      exact V_ret (pc := 22) dX8_valueOf_22 ⟨rfl, _, rfl⟩ ⟨rfl, rfl, rfl⟩
theorem wX7_reads_22 {G : Gl} {σ : Sg} {d : Dt} {r0 : Nat} {r0t : Nat} {r0h : Nat} {k1 : Nat} {rr : Bool} (H0 : L7 σ r0 r0t r0h) (H1 : k1 < strN) (h : mX7_reads_22 d r0 r0t r0h k1 = some rr) : V G yX7_reads cX7_reads 3 (some .boolean) 7 0 0 (PH [.int (b2i rr)] σ d) 22 [(0, .ref (gB G + r0)), (1, .ref (gK G k1))] [] σ d := by
  rw [mX7_reads_22] at h
  refine V_aload_n (pc := 22) 0 dX7_reads_22 rfl rfl ?_
  refine V_getR (pc := 23) (c := 7) (k := 0) dX7_reads_23 (by decide) (by decide) kw508 rfl rfl (L7_0 H0) (L7_r0 H0) ?_
  refine V_aload_n (pc := 26) 0 dX7_reads_26 rfl rfl ?_
  refine V_getI (pc := 27) (c := 7) (k := 2) dX7_reads_27 (by decide) (by decide) kw510 rfl rfl (L7_0 H0) ?_
  obtain ⟨x6, h5, h⟩ := bnd h
  refine V_cV1 (pc := 30) dX7_reads_30 kw548 calX8_valueOf kw549 kw550 (L8_0 (L7_o0 H0)) rfl (by decide) (Nat.le_of_ble_eq_true rfl) (ctX8_valueOf (L7_o0 H0) h5) ?_
  refine V_aload_n (pc := 33) 1 dX7_reads_33 rfl rfl ?_
  obtain ⟨x8, h7, h⟩ := bnd h
  refine V_cS1 (pc := 34) dX7_reads_34 kw552 calX8_packed kw430 (by decide) (Nat.le_of_ble_eq_true rfl) (ctX8_packed H1 h7) ?_
  refine V_lcmp_ne (pc := 37) (tgt := 45) dX7_reads_37 dX7_reads_38 (by decide) (fun c9 => ?_) (fun c9 => ?_)
  · have h := ite_n c9 h
    refine V_iconst (pc := 45) (x := 0) dX7_reads_45 (by decide) ?_
    cases h
    exact V_ret (pc := 46) dX7_reads_46 ⟨rfl, _, rfl, rfl⟩ ⟨rfl, rfl, rfl⟩
  · have h := ite_p c9 h
    refine V_iconst (pc := 41) (x := 1) dX7_reads_41 (by decide) ?_
    refine V_goto (pc := 42) (tgt := 46) dX7_reads_42 (by decide) ?_
    cases h
    exact V_ret (pc := 46) dX7_reads_46 ⟨rfl, _, rfl, rfl⟩ ⟨rfl, rfl, rfl⟩
theorem calX7_reads : Cal yX7_reads cX7_reads 3 (some .boolean) 1 := ⟨kw543, kw17, by decide +kernel⟩
theorem ctX7_reads {G : Gl} {σ : Sg} {d : Dt} {r0 : Nat} {r0t : Nat} {r0h : Nat} {k1 : Nat} {rr : Bool} (H0 : L7 σ r0 r0t r0h) (H1 : k1 < strN) (h : mX7_reads r0 r0t r0h k1 d = some rr) : CTv G yX7_reads cX7_reads 3 (some .boolean) 7 [.ref (gB G + r0), .ref (gK G k1)] σ d [.int (b2i rr)] d := by
  refine CT_of pn_RX7 (Nat.le_of_ble_eq_true rfl) ?_
  rw [mX7_reads] at h
  refine V_aload_n (pc := 0) 0 dX7_reads_0 rfl rfl ?_
  refine V_getR (pc := 1) (c := 7) (k := 0) dX7_reads_1 (by decide) (by decide) kw508 rfl rfl (L7_0 H0) (L7_r0 H0) ?_
  refine V_aload_n (pc := 4) 0 dX7_reads_4 rfl rfl ?_
  refine V_getI (pc := 5) (c := 7) (k := 2) dX7_reads_5 (by decide) (by decide) kw510 rfl rfl (L7_0 H0) ?_
  obtain ⟨x2, h1, h⟩ := bnd h
  refine V_cV1 (pc := 8) dX7_reads_8 kw544 calX8_kindOf kw545 kw546 (L8_0 (L7_o0 H0)) rfl (by decide) (Nat.le_of_ble_eq_true rfl) (ctX8_kindOf (L7_o0 H0) h1) ?_
  refine V_istore_n (pc := 11) (lv1 := [(2, _), (0, _), (1, _)]) dX7_reads_11 rfl (by decide) rfl ?_
  refine V_iload_n (pc := 12) 0 dX7_reads_12 rfl rfl ?_
  refine V_iconst (pc := 13) (x := 1) dX7_reads_13 (by decide) ?_
  refine V_icmp_eq (pc := 14) (tgt := 22) dX7_reads_14 (by decide) (fun c3 => ?_) (fun c3 => ?_)
  · have h := ite_p c3 h
    exact V_sub [1, 2] rfl (wX7_reads_22 H0 H1 h)
  · have h := ite_n c3 h
    refine V_iload_n (pc := 17) 0 dX7_reads_17 rfl rfl ?_
    refine V_iconst (pc := 18) (x := 2) dX7_reads_18 (by decide) ?_
    refine V_icmp_ne (pc := 19) (tgt := 45) dX7_reads_19 (by decide) (fun c4 => ?_) (fun c4 => ?_)
    · have h := ite_n c4 h
      refine V_iconst (pc := 45) (x := 0) dX7_reads_45 (by decide) ?_
      cases h
      exact V_ret (pc := 46) dX7_reads_46 ⟨rfl, _, rfl, rfl⟩ ⟨rfl, rfl, rfl⟩
    · have h := ite_p c4 h
      exact V_sub [1, 2] rfl (wX7_reads_22 H0 H1 h)
theorem calX7_fail : Cal yX7_fail cX7_fail 2 (some .boolean) 1 := ⟨kw556, kw17, by decide +kernel⟩
theorem ctX7_fail {G : Gl} {σ : Sg} {d : Dt} {r0 : Nat} {r0t : Nat} {r0h : Nat} {v1 : Int32} (H0 : L7 σ r0 r0t r0h) : CTv G yX7_fail cX7_fail 2 (some .boolean) 0 [.ref (gB G + r0), .int v1] σ d [.int (b2i (mX7_fail r0 r0t r0h v1 d).1)] (mX7_fail r0 r0t r0h v1 d).2 := by
  refine CT_of pn_RX7 (Nat.le_of_ble_eq_true rfl) ?_
  generalize h : mX7_fail r0 r0t r0h v1 d = rr
  rw [mX7_fail] at h
  refine V_aload_n (pc := 0) 0 dX7_fail_0 rfl rfl ?_
  refine V_iload_n (pc := 1) 1 dX7_fail_1 rfl rfl ?_
  refine V_putI (pc := 2) (c := 7) (k := 6) dX7_fail_2 (by decide) (by decide) kw515 rfl rfl rfl ⟨rfl, rfl⟩ (L7_0 H0) ?_
  refine V_iconst (pc := 5) (x := 0) dX7_fail_5 (by decide) ?_
  subst h
  exact V_ret (pc := 6) dX7_fail_6 ⟨rfl, _, rfl, rfl⟩ ⟨rfl, rfl, rfl⟩
theorem calX7_take : Cal yX7_take cX7_take 2 (some .boolean) 1 := ⟨kw565, kw17, by decide +kernel⟩
theorem ctX7_take {G : Gl} {σ : Sg} {d : Dt} {r0 : Nat} {r0t : Nat} {r0h : Nat} {k1 : Nat} {rr : Bool × Dt} (H0 : L7 σ r0 r0t r0h) (H1 : k1 < strN) (h : mX7_take r0 r0t r0h k1 d = some rr) : CTv G yX7_take cX7_take 2 (some .boolean) 8 [.ref (gB G + r0), .ref (gK G k1)] σ d [.int (b2i rr.1)] rr.2 := by
  refine CT_of pn_RX7 (Nat.le_of_ble_eq_true rfl) ?_
  rw [mX7_take] at h
  refine V_aload_n (pc := 0) 0 dX7_take_0 rfl rfl ?_
  refine V_aload_n (pc := 1) 1 dX7_take_1 rfl rfl ?_
  obtain ⟨x2, h1, h⟩ := bnd h
  refine V_cV1 (pc := 2) dX7_take_2 kw540 calX7_reads kw542 ks6 (L7_0 H0) rfl (by decide) (Nat.le_of_ble_eq_true rfl) (ctX7_reads H0 H1 h1) ?_
  refine V_ifB_ne (pc := 5) (tgt := 14) dX7_take_5 (by decide) (fun c3 => ?_) (fun c3 => ?_)
  · have h := ite_p c3 h
    refine V_aload_n (pc := 14) 0 dX7_take_14 rfl rfl ?_
    refine V_dup (pc := 15) dX7_take_15 rfl ?_
    refine V_getI (pc := 16) (c := 7) (k := 2) dX7_take_16 (by decide) (by decide) kw510 rfl rfl (L7_0 H0) ?_
    refine V_iconst (pc := 19) (x := 1) dX7_take_19 (by decide) ?_
    refine V_iadd (pc := 20) dX7_take_20 ?_
    refine V_putI (pc := 21) (c := 7) (k := 2) dX7_take_21 (by decide) (by decide) kw510 rfl rfl rfl ⟨rfl, rfl⟩ (L7_0 H0) ?_
    refine V_iconst (pc := 24) (x := 1) dX7_take_24 (by decide) ?_
    cases h
    exact V_ret (pc := 25) dX7_take_25 ⟨rfl, _, rfl, rfl⟩ ⟨rfl, rfl, rfl⟩
  · have h := ite_f c3 h
    refine V_aload_n (pc := 8) 0 dX7_take_8 rfl rfl ?_
    refine V_iconst (pc := 9) (x := 1) dX7_take_9 (by decide) ?_
    refine V_cV1 (pc := 10) dX7_take_10 kw553 calX7_fail kw555 ks7 (L7_0 H0) rfl (by decide) (Nat.le_of_ble_eq_true rfl) (ctX7_fail H0) ?_
    cases h
    exact V_ret (pc := 13) dX7_take_13 ⟨rfl, _, rfl, b2i_nar _⟩ ⟨rfl, rfl, rfl⟩
theorem calX7_sees : Cal yX7_sees cX7_sees 2 (some .boolean) 1 := ⟨kw573, kw17, by decide +kernel⟩
theorem ctX7_sees {G : Gl} {σ : Sg} {d : Dt} {r0 : Nat} {r0t : Nat} {r0h : Nat} {v1 : Int32} {rr : Bool} (H0 : L7 σ r0 r0t r0h) (h : mX7_sees r0 r0t r0h v1 d = some rr) : CTv G yX7_sees cX7_sees 2 (some .boolean) 1 [.ref (gB G + r0), .int v1] σ d [.int (b2i rr)] d := by
  refine CT_of pn_RX7 (Nat.le_of_ble_eq_true rfl) ?_
  rw [mX7_sees] at h
  refine V_aload_n (pc := 0) 0 dX7_sees_0 rfl rfl ?_
  refine V_getR (pc := 1) (c := 7) (k := 0) dX7_sees_1 (by decide) (by decide) kw508 rfl rfl (L7_0 H0) (L7_r0 H0) ?_
  refine V_aload_n (pc := 4) 0 dX7_sees_4 rfl rfl ?_
  refine V_getI (pc := 5) (c := 7) (k := 2) dX7_sees_5 (by decide) (by decide) kw510 rfl rfl (L7_0 H0) ?_
  obtain ⟨x2, h1, h⟩ := bnd h
  refine V_cV1 (pc := 8) dX7_sees_8 kw544 calX8_kindOf kw545 kw546 (L8_0 (L7_o0 H0)) rfl (by decide) (Nat.le_of_ble_eq_true rfl) (ctX8_kindOf (L7_o0 H0) h1) ?_
  refine V_iload_n (pc := 11) 1 dX7_sees_11 rfl rfl ?_
  refine V_icmp_ne (pc := 12) (tgt := 19) dX7_sees_12 (by decide) (fun c3 => ?_) (fun c3 => ?_)
  · have h := ite_n c3 h
    refine V_iconst (pc := 19) (x := 0) dX7_sees_19 (by decide) ?_
    cases h
    exact V_ret (pc := 20) dX7_sees_20 ⟨rfl, _, rfl, rfl⟩ ⟨rfl, rfl, rfl⟩
  · have h := ite_p c3 h
    refine V_iconst (pc := 15) (x := 1) dX7_sees_15 (by decide) ?_
    refine V_goto (pc := 16) (tgt := 20) dX7_sees_16 (by decide) ?_
    cases h
    exact V_ret (pc := 20) dX7_sees_20 ⟨rfl, _, rfl, rfl⟩ ⟨rfl, rfl, rfl⟩
theorem calX7_takeWhole : Cal yX7_takeWhole cX7_takeWhole 4 (some .int) 2 := ⟨kw569, kw17, by decide +kernel⟩
theorem ctX7_takeWhole {G : Gl} {σ : Sg} {d : Dt} {r0 : Nat} {r0t : Nat} {r0h : Nat} {v1 : Int32} {v2 : Int32} {rr : Int32 × Dt} (H0 : L7 σ r0 r0t r0h) (h : mX7_takeWhole r0 r0t r0h v1 v2 d = some rr) : CTv G yX7_takeWhole cX7_takeWhole 4 (some .int) 2 [.ref (gB G + r0), .int v1, .int v2] σ d [.int rr.1] rr.2 := by
  refine CT_of pn_RX7 (Nat.le_of_ble_eq_true rfl) ?_
  rw [mX7_takeWhole] at h
  refine V_aload_n (pc := 0) 0 dX7_takeWhole_0 rfl rfl ?_
  refine V_iconst (pc := 1) (x := 3) dX7_takeWhole_1 (by decide) ?_
  obtain ⟨x2, h1, h⟩ := bnd h
  refine V_cV1 (pc := 2) dX7_takeWhole_2 kw570 calX7_sees kw572 ks11 (L7_0 H0) rfl (by decide) (Nat.le_of_ble_eq_true rfl) (ctX7_sees H0 h1) ?_
  refine V_ifB_ne (pc := 5) (tgt := 16) dX7_takeWhole_5 (by decide) (fun c3 => ?_) (fun c3 => ?_)
  · have h := ite_p c3 h
    refine V_aload_n (pc := 16) 0 dX7_takeWhole_16 rfl rfl ?_
    refine V_getR (pc := 17) (c := 7) (k := 0) dX7_takeWhole_17 (by decide) (by decide) kw508 rfl rfl (L7_0 H0) (L7_r0 H0) ?_
    refine V_aload_n (pc := 20) 0 dX7_takeWhole_20 rfl rfl ?_
    refine V_getI (pc := 21) (c := 7) (k := 2) dX7_takeWhole_21 (by decide) (by decide) kw510 rfl rfl (L7_0 H0) ?_
    obtain ⟨x5, h4, h⟩ := bnd h
    refine V_cV1 (pc := 24) dX7_takeWhole_24 kw548 calX8_valueOf kw549 kw550 (L8_0 (L7_o0 H0)) rfl (by decide) (Nat.le_of_ble_eq_true rfl) (ctX8_valueOf (L7_o0 H0) h4) ?_
    refine V_l2i (pc := 27) dX7_takeWhole_27 ?_
    refine V_istore_n (pc := 28) (lv1 := [(3, _), (0, _), (1, _), (2, _)]) dX7_takeWhole_28 rfl (by decide) rfl ?_
    refine V_iload_n (pc := 29) 0 dX7_takeWhole_29 rfl rfl ?_
    refine V_iload_n (pc := 30) 2 dX7_takeWhole_30 rfl rfl ?_
    refine V_icmp_lt (pc := 31) (tgt := 39) dX7_takeWhole_31 (by decide) (fun c6 => ?_) (fun c6 => ?_)
    · have h := ite_p c6 h
      refine V_aload_n (pc := 39) 1 dX7_takeWhole_39 rfl rfl ?_
      refine V_iconst (pc := 40) (x := 4) dX7_takeWhole_40 (by decide) ?_
      refine V_cV1 (pc := 41) dX7_takeWhole_41 kw553 calX7_fail kw555 ks7 (L7_0 H0) rfl (by decide) (Nat.le_of_ble_eq_true rfl) (ctX7_fail H0) ?_
      refine V_pop (pc := 44) dX7_takeWhole_44 rfl ?_
      refine V_iconst (pc := 45) (x := (-1)) dX7_takeWhole_45 (by decide) ?_
      cases h
      exact V_ret (pc := 46) dX7_takeWhole_46 ⟨rfl, _, rfl⟩ ⟨rfl, rfl, rfl⟩
    · have h := ite_n c6 h
      refine V_iload_n (pc := 34) 0 dX7_takeWhole_34 rfl rfl ?_
      refine V_iload_n (pc := 35) 3 dX7_takeWhole_35 rfl rfl ?_
      refine V_icmp_le (pc := 36) (tgt := 47) dX7_takeWhole_36 (by decide) (fun c9 => ?_) (fun c9 => ?_)
      · have h := ite_p c9 h
        refine V_aload_n (pc := 47) 1 dX7_takeWhole_47 rfl rfl ?_
        refine V_dup (pc := 48) dX7_takeWhole_48 rfl ?_
        refine V_getI (pc := 49) (c := 7) (k := 2) dX7_takeWhole_49 (by decide) (by decide) kw510 rfl rfl (L7_0 H0) ?_
        refine V_iconst (pc := 52) (x := 1) dX7_takeWhole_52 (by decide) ?_
        refine V_iadd (pc := 53) dX7_takeWhole_53 ?_
        refine V_putI (pc := 54) (c := 7) (k := 2) dX7_takeWhole_54 (by decide) (by decide) kw510 rfl rfl rfl ⟨rfl, rfl⟩ (L7_0 H0) ?_
        refine V_iload_n (pc := 57) 0 dX7_takeWhole_57 rfl rfl ?_
        cases h
        exact V_ret (pc := 58) dX7_takeWhole_58 ⟨rfl, _, rfl⟩ ⟨rfl, rfl, rfl⟩
      · have h := ite_n c9 h
        refine V_aload_n (pc := 39) 1 dX7_takeWhole_39 rfl rfl ?_
        refine V_iconst (pc := 40) (x := 4) dX7_takeWhole_40 (by decide) ?_
        refine V_cV1 (pc := 41) dX7_takeWhole_41 kw553 calX7_fail kw555 ks7 (L7_0 H0) rfl (by decide) (Nat.le_of_ble_eq_true rfl) (ctX7_fail H0) ?_
        refine V_pop (pc := 44) dX7_takeWhole_44 rfl ?_
        refine V_iconst (pc := 45) (x := (-1)) dX7_takeWhole_45 (by decide) ?_
        cases h
        exact V_ret (pc := 46) dX7_takeWhole_46 ⟨rfl, _, rfl⟩ ⟨rfl, rfl, rfl⟩
  · have h := ite_f c3 h
    refine V_aload_n (pc := 8) 0 dX7_takeWhole_8 rfl rfl ?_
    refine V_iconst (pc := 9) (x := 1) dX7_takeWhole_9 (by decide) ?_
    refine V_cV1 (pc := 10) dX7_takeWhole_10 kw553 calX7_fail kw555 ks7 (L7_0 H0) rfl (by decide) (Nat.le_of_ble_eq_true rfl) (ctX7_fail H0) ?_
    refine V_pop (pc := 13) dX7_takeWhole_13 rfl ?_
    refine V_iconst (pc := 14) (x := (-1)) dX7_takeWhole_14 (by decide) ?_
    cases h
    exact V_ret (pc := 15) dX7_takeWhole_15 ⟨rfl, _, rfl⟩ ⟨rfl, rfl, rfl⟩
theorem calX7_lineEnds : Cal yX7_lineEnds cX7_lineEnds 1 (some .boolean) 0 := ⟨kw578, kw17, by decide +kernel⟩
theorem ctX7_lineEnds {G : Gl} {σ : Sg} {d : Dt} {r0 : Nat} {r0t : Nat} {r0h : Nat} {rr : Bool × Dt} (H0 : L7 σ r0 r0t r0h) (h : mX7_lineEnds r0 r0t r0h d = some rr) : CTv G yX7_lineEnds cX7_lineEnds 1 (some .boolean) 2 [.ref (gB G + r0)] σ d [.int (b2i rr.1)] rr.2 := by
  refine CT_of pn_RX7 (Nat.le_of_ble_eq_true rfl) ?_
  rw [mX7_lineEnds] at h
  refine V_aload_n (pc := 0) 0 dX7_lineEnds_0 rfl rfl ?_
  refine V_iconst (pc := 1) (x := 5) dX7_lineEnds_1 (by decide) ?_
  obtain ⟨x2, h1, h⟩ := bnd h
  refine V_cV1 (pc := 2) dX7_lineEnds_2 kw570 calX7_sees kw572 ks11 (L7_0 H0) rfl (by decide) (Nat.le_of_ble_eq_true rfl) (ctX7_sees H0 h1) ?_
  refine V_ifB_ne (pc := 5) (tgt := 25) dX7_lineEnds_5 (by decide) (fun c3 => ?_) (fun c3 => ?_)
  · have h := ite_p c3 h
    refine V_iconst (pc := 25) (x := 1) dX7_lineEnds_25 (by decide) ?_
    refine V_goto (pc := 26) (tgt := 30) dX7_lineEnds_26 (by decide) ?_
    cases h
    exact V_ret (pc := 30) dX7_lineEnds_30 ⟨rfl, _, rfl, rfl⟩ ⟨rfl, rfl, rfl⟩
  · have h := ite_f c3 h
    refine V_aload_n (pc := 8) 0 dX7_lineEnds_8 rfl rfl ?_
    refine V_bipush (pc := 9) (x := 6) dX7_lineEnds_9 (by decide) ?_
    obtain ⟨x5, h4, h⟩ := bnd h
    refine V_cV1 (pc := 11) dX7_lineEnds_11 kw570 calX7_sees kw572 ks11 (L7_0 H0) rfl (by decide) (Nat.le_of_ble_eq_true rfl) (ctX7_sees H0 h4) ?_
    refine V_ifB_ne (pc := 14) (tgt := 25) dX7_lineEnds_14 (by decide) (fun c6 => ?_) (fun c6 => ?_)
    · have h := ite_p c6 h
      refine V_iconst (pc := 25) (x := 1) dX7_lineEnds_25 (by decide) ?_
      refine V_goto (pc := 26) (tgt := 30) dX7_lineEnds_26 (by decide) ?_
      cases h
      exact V_ret (pc := 30) dX7_lineEnds_30 ⟨rfl, _, rfl, rfl⟩ ⟨rfl, rfl, rfl⟩
    · have h := ite_f c6 h
      refine V_aload_n (pc := 17) 0 dX7_lineEnds_17 rfl rfl ?_
      refine V_iconst (pc := 18) (x := 1) dX7_lineEnds_18 (by decide) ?_
      refine V_cV1 (pc := 19) dX7_lineEnds_19 kw553 calX7_fail kw555 ks7 (L7_0 H0) rfl (by decide) (Nat.le_of_ble_eq_true rfl) (ctX7_fail H0) ?_
      refine V_ifB_eq (pc := 22) (tgt := 29) dX7_lineEnds_22 (by decide) (fun c9 => ?_) (fun c9 => ?_)
      · have h := ite_f c9 h
        refine V_iconst (pc := 29) (x := 0) dX7_lineEnds_29 (by decide) ?_
        cases h
        exact V_ret (pc := 30) dX7_lineEnds_30 ⟨rfl, _, rfl, rfl⟩ ⟨rfl, rfl, rfl⟩
      · have h := ite_p c9 h
        refine V_iconst (pc := 25) (x := 1) dX7_lineEnds_25 (by decide) ?_
        refine V_goto (pc := 26) (tgt := 30) dX7_lineEnds_26 (by decide) ?_
        cases h
        exact V_ret (pc := 30) dX7_lineEnds_30 ⟨rfl, _, rfl, rfl⟩ ⟨rfl, rfl, rfl⟩
theorem calX7_readBoard : Cal yX7_readBoard cX7_readBoard 3 (some .boolean) 0 := ⟨kw560, kw17, by decide +kernel⟩
theorem ctX7_readBoard {G : Gl} {σ : Sg} {d : Dt} {r0 : Nat} {r0t : Nat} {r0h : Nat} {rr : Bool × Dt} (H0 : L7 σ r0 r0t r0h) (h : mX7_readBoard r0 r0t r0h d = some rr) : CTv G yX7_readBoard cX7_readBoard 3 (some .boolean) 9 [.ref (gB G + r0)] σ d [.int (b2i rr.1)] rr.2 := by
  refine CT_of pn_RX7 (Nat.le_of_ble_eq_true rfl) ?_
  rw [mX7_readBoard] at h
  refine V_aload_n (pc := 0) 0 dX7_readBoard_0 rfl rfl ?_
  refine V_dup (pc := 1) dX7_readBoard_1 rfl ?_
  refine V_getI (pc := 2) (c := 7) (k := 2) dX7_readBoard_2 (by decide) (by decide) kw510 rfl rfl (L7_0 H0) ?_
  refine V_iconst (pc := 5) (x := 1) dX7_readBoard_5 (by decide) ?_
  refine V_iadd (pc := 6) dX7_readBoard_6 ?_
  refine V_putI (pc := 7) (c := 7) (k := 2) dX7_readBoard_7 (by decide) (by decide) kw510 rfl rfl rfl ⟨rfl, rfl⟩ (L7_0 H0) ?_
  refine V_aload_n (pc := 10) 0 dX7_readBoard_10 rfl rfl ?_
  refine V_ldcS (pc := 11) (i := 10) (tx := "slack") dX7_readBoard_11 (by decide) ?_
  obtain ⟨x2, h1, h⟩ := bnd h
  refine V_cV1 (pc := 13) dX7_readBoard_13 kw562 calX7_take kw564 ks9 (L7_0 H0) rfl (by decide) (Nat.le_of_ble_eq_true rfl) (ctX7_take H0 (by decide) h1) ?_
  refine V_ifB_ne (pc := 16) (tgt := 21) dX7_readBoard_16 (by decide) (fun c3 => ?_) (fun c3 => ?_)
  · have h := ite_p c3 h
    refine V_aload_n (pc := 21) 0 dX7_readBoard_21 rfl rfl ?_
    refine V_iconst (pc := 22) (x := 0) dX7_readBoard_22 (by decide) ?_
    refine V_bipush (pc := 23) (x := 99) dX7_readBoard_23 (by decide) ?_
    obtain ⟨x5, h4, h⟩ := bnd h
    refine V_cV2 (pc := 25) dX7_readBoard_25 kw566 calX7_takeWhole kw568 ks10 (L7_0 H0) rfl (by decide) (Nat.le_of_ble_eq_true rfl) (ctX7_takeWhole H0 h4) ?_
    refine V_istore_n (pc := 28) (lv1 := [(1, _), (0, _)]) dX7_readBoard_28 rfl (by decide) rfl ?_
    refine V_iload_n (pc := 29) 0 dX7_readBoard_29 rfl rfl ?_
    refine V_if_lt (pc := 30) (tgt := 42) dX7_readBoard_30 (by decide) (fun c6 => ?_) (fun c6 => ?_)
    · have h := ite_p c6 h
      refine V_iconst (pc := 42) (x := 0) dX7_readBoard_42 (by decide) ?_
      cases h
      exact V_ret (pc := 43) dX7_readBoard_43 ⟨rfl, _, rfl, rfl⟩ ⟨rfl, rfl, rfl⟩
    · have h := ite_n c6 h
      refine V_aload_n (pc := 33) 1 dX7_readBoard_33 rfl rfl ?_
      refine V_ldcS (pc := 34) (i := 11) (tx := "joint") dX7_readBoard_34 (by decide) ?_
      obtain ⟨x8, h7, h⟩ := bnd h
      refine V_cV1 (pc := 36) dX7_readBoard_36 kw562 calX7_take kw564 ks9 (L7_0 H0) rfl (by decide) (Nat.le_of_ble_eq_true rfl) (ctX7_take H0 (by decide) h7) ?_
      refine V_ifB_ne (pc := 39) (tgt := 44) dX7_readBoard_39 (by decide) (fun c9 => ?_) (fun c9 => ?_)
      · have h := ite_p c9 h
        refine V_aload_n (pc := 44) 1 dX7_readBoard_44 rfl rfl ?_
        refine V_iconst (pc := 45) (x := 0) dX7_readBoard_45 (by decide) ?_
        refine V_bipush (pc := 46) (x := 99) dX7_readBoard_46 (by decide) ?_
        obtain ⟨x11, h10, h⟩ := bnd h
        refine V_cV2 (pc := 48) dX7_readBoard_48 kw566 calX7_takeWhole kw568 ks10 (L7_0 H0) rfl (by decide) (Nat.le_of_ble_eq_true rfl) (ctX7_takeWhole H0 h10) ?_
        refine V_istore_n (pc := 51) (lv1 := [(2, _), (1, _), (0, _)]) dX7_readBoard_51 rfl (by decide) rfl ?_
        refine V_iload_n (pc := 52) 0 dX7_readBoard_52 rfl rfl ?_
        refine V_if_ge (pc := 53) (tgt := 58) dX7_readBoard_53 (by decide) (fun c12 => ?_) (fun c12 => ?_)
        · have h := ite_p c12 h
          refine V_aload_n (pc := 58) 2 dX7_readBoard_58 rfl rfl ?_
          refine V_getR (pc := 59) (c := 7) (k := 1) dX7_readBoard_59 (by decide) (by decide) kw509 rfl rfl (L7_0 H0) (L7_r1 H0) ?_
          refine V_iload_n (pc := 62) 1 dX7_readBoard_62 rfl rfl ?_
          refine V_putI (pc := 63) (c := 4) (k := 0) dX7_readBoard_63 (by decide) (by decide) kw221 rfl rfl rfl ⟨rfl, rfl⟩ (L4_0 (L7_o1 H0)) ?_
          refine V_aload_n (pc := 66) 2 dX7_readBoard_66 rfl rfl ?_
          refine V_getR (pc := 67) (c := 7) (k := 1) dX7_readBoard_67 (by decide) (by decide) kw509 rfl rfl (L7_0 H0) (L7_r1 H0) ?_
          refine V_iload_n (pc := 70) 0 dX7_readBoard_70 rfl rfl ?_
          refine V_putI (pc := 71) (c := 4) (k := 1) dX7_readBoard_71 (by decide) (by decide) kw225 rfl rfl rfl ⟨rfl, rfl⟩ (L4_0 (L7_o1 H0)) ?_
          refine V_aload_n (pc := 74) 2 dX7_readBoard_74 rfl rfl ?_
          refine V_iconst (pc := 75) (x := 1) dX7_readBoard_75 (by decide) ?_
          refine V_putI (pc := 76) (c := 7) (k := 5) dX7_readBoard_76 (by decide) (by decide) kw513 rfl rfl rfl ⟨rfl, rfl⟩ (L7_0 H0) ?_
          refine V_aload_n (pc := 79) 2 dX7_readBoard_79 rfl rfl ?_
          obtain ⟨x14, h13, h⟩ := bnd h
          refine V_cV0 (pc := 80) dX7_readBoard_80 kw575 calX7_lineEnds kw577 ks12 (L7_0 H0) rfl (by decide) (Nat.le_of_ble_eq_true rfl) (ctX7_lineEnds H0 h13) ?_
          cases h
          exact V_ret (pc := 83) dX7_readBoard_83 ⟨rfl, _, rfl, b2i_nar _⟩ ⟨rfl, rfl, rfl⟩
        · have h := ite_n c12 h
          refine V_iconst (pc := 56) (x := 0) dX7_readBoard_56 (by decide) ?_
          cases h
          exact V_ret (pc := 57) dX7_readBoard_57 ⟨rfl, _, rfl, rfl⟩ ⟨rfl, rfl, rfl⟩
      · have h := ite_f c9 h
        refine V_iconst (pc := 42) (x := 0) dX7_readBoard_42 (by decide) ?_
        cases h
        exact V_ret (pc := 43) dX7_readBoard_43 ⟨rfl, _, rfl, rfl⟩ ⟨rfl, rfl, rfl⟩
  · have h := ite_f c3 h
    refine V_iconst (pc := 19) (x := 0) dX7_readBoard_19 (by decide) ?_
    cases h
    exact V_ret (pc := 20) dX7_readBoard_20 ⟨rfl, _, rfl, rfl⟩ ⟨rfl, rfl, rfl⟩
theorem calX7_opens : Cal yX7_opens cX7_opens 3 (some .boolean) 2 := ⟨kw583, kw17, by decide +kernel⟩
theorem ctX7_opens {G : Gl} {σ : Sg} {d : Dt} {r0 : Nat} {r0t : Nat} {r0h : Nat} {v1 : Int32} {v2 : Int32} (H0 : L7 σ r0 r0t r0h) : CTv G yX7_opens cX7_opens 3 (some .boolean) 1 [.ref (gB G + r0), .int v1, .int v2] σ d [.int (b2i (mX7_opens r0 r0t r0h v1 v2 d).1)] (mX7_opens r0 r0t r0h v1 v2 d).2 := by
  refine CT_of pn_RX7 (Nat.le_of_ble_eq_true rfl) ?_
  generalize h : mX7_opens r0 r0t r0h v1 v2 d = rr
  rw [mX7_opens] at h
  refine V_aload_n (pc := 0) 0 dX7_opens_0 rfl rfl ?_
  refine V_getI (pc := 1) (c := 7) (k := 5) dX7_opens_1 (by decide) (by decide) kw513 rfl rfl (L7_0 H0) ?_
  refine V_if_ne (pc := 4) (tgt := 14) dX7_opens_4 (by decide) (fun c1 => ?_) (fun c1 => ?_)
  · have h := ite_n c1 h
    refine V_iload_n (pc := 14) 1 dX7_opens_14 rfl rfl ?_
    refine V_iload_n (pc := 15) 2 dX7_opens_15 rfl rfl ?_
    refine V_icmp_lt (pc := 16) (tgt := 25) dX7_opens_16 (by decide) (fun c2 => ?_) (fun c2 => ?_)
    · have h := ite_p c2 h
      refine V_aload_n (pc := 25) 0 dX7_opens_25 rfl rfl ?_
      refine V_dup (pc := 26) dX7_opens_26 rfl ?_
      refine V_getI (pc := 27) (c := 7) (k := 2) dX7_opens_27 (by decide) (by decide) kw510 rfl rfl (L7_0 H0) ?_
      refine V_iconst (pc := 30) (x := 1) dX7_opens_30 (by decide) ?_
      refine V_iadd (pc := 31) dX7_opens_31 ?_
      refine V_putI (pc := 32) (c := 7) (k := 2) dX7_opens_32 (by decide) (by decide) kw510 rfl rfl rfl ⟨rfl, rfl⟩ (L7_0 H0) ?_
      refine V_iconst (pc := 35) (x := 1) dX7_opens_35 (by decide) ?_
      subst h
      exact V_ret (pc := 36) dX7_opens_36 ⟨rfl, _, rfl, rfl⟩ ⟨rfl, rfl, rfl⟩
    · have h := ite_n c2 h
      refine V_aload_n (pc := 19) 0 dX7_opens_19 rfl rfl ?_
      refine V_iconst (pc := 20) (x := 5) dX7_opens_20 (by decide) ?_
      refine V_cV1 (pc := 21) dX7_opens_21 kw553 calX7_fail kw555 ks7 (L7_0 H0) rfl (by decide) (Nat.le_of_ble_eq_true rfl) (ctX7_fail H0) ?_
      subst h
      exact V_ret (pc := 24) dX7_opens_24 ⟨rfl, _, rfl, b2i_nar _⟩ ⟨rfl, rfl, rfl⟩
  · have h := ite_p c1 h
    refine V_aload_n (pc := 7) 0 dX7_opens_7 rfl rfl ?_
    refine V_bipush (pc := 8) (x := 6) dX7_opens_8 (by decide) ?_
    refine V_cV1 (pc := 10) dX7_opens_10 kw553 calX7_fail kw555 ks7 (L7_0 H0) rfl (by decide) (Nat.le_of_ble_eq_true rfl) (ctX7_fail H0) ?_
    subst h
    exact V_ret (pc := 13) dX7_opens_13 ⟨rfl, _, rfl, b2i_nar _⟩ ⟨rfl, rfl, rfl⟩
theorem wX4_meaningOf_2 {G : Gl} {σ : Sg} {d : Dt} {r0 : Nat} {v1 : Int64} {rr : Int32} (H0 : L4 σ r0) : ∀ (n : Nat) (v3 : Int32), mX4_meaningOf_2 d r0 v1 n v3 = some rr → V G yX4_meaningOf cX4_meaningOf 4 (some .int) 0 0 0 (PH [.int rr] σ d) 2 [(0, .ref (gB G + r0)), (1, .long v1), (3, .int v3)] [] σ d := by
  intro n
  induction n with
  | zero =>
    intro v3
    intros
    rename_i h
    exact absurd h (by rw [mX4_meaningOf_2]; exact fun q => nomatch q)
  | succ n ih =>
    intro v3 h
    rw [mX4_meaningOf_2] at h
    refine V_iload_n (pc := 2) 2 dX4_meaningOf_2 rfl rfl ?_
    refine V_aload_n (pc := 3) 0 dX4_meaningOf_3 rfl rfl ?_
    refine V_getI (pc := 4) (c := 4) (k := 3) dX4_meaningOf_4 (by decide) (by decide) kw229 rfl rfl (L4_0 H0) ?_
    refine V_icmp_ge (pc := 7) (tgt := 34) dX4_meaningOf_7 (by decide) (fun c1 => ?_) (fun c1 => ?_)
    · have h := ite_p c1 h
      refine V_iconst (pc := 34) (x := (-1)) dX4_meaningOf_34 (by decide) ?_
      cases h
      exact V_ret (pc := 35) dX4_meaningOf_35 ⟨rfl, _, rfl⟩ ⟨rfl, rfl, rfl⟩
    · have h := ite_n c1 h
      refine V_aload_n (pc := 10) 0 dX4_meaningOf_10 rfl rfl ?_
      refine V_getR (pc := 11) (c := 4) (k := 4) dX4_meaningOf_11 (by decide) (by decide) kw230 rfl rfl (L4_0 H0) (L4_r4 H0) ?_
      refine V_iload_n (pc := 14) 2 dX4_meaningOf_14 rfl rfl ?_
      obtain ⟨b2, h⟩ := ite_o h
      refine V_lald (pc := 15) dX4_meaningOf_15 (L4_s4 H0) (inB_vp b2) ?_
      refine V_lload_n (pc := 16) 1 dX4_meaningOf_16 rfl rfl ?_
      refine V_lcmp_ne (pc := 17) (tgt := 28) dX4_meaningOf_17 dX4_meaningOf_18 (by decide) (fun c3 => ?_) (fun c3 => ?_)
      · have h := ite_n c3 h
        refine V_iinc (pc := 28) (lv1 := [(3, _), (0, _), (1, _)]) (z := _ + (1 : Int32)) 2 dX4_meaningOf_28 rfl rfl (by decide) rfl ?_
        refine V_goto (pc := 31) (tgt := 2) dX4_meaningOf_31 (by decide) ?_
        exact V_sub [1, 2, 0] rfl (ih (v3 + (1 : Int32)) h)
      · have h := ite_p c3 h
        refine V_aload_n (pc := 21) 0 dX4_meaningOf_21 rfl rfl ?_
        refine V_getR (pc := 22) (c := 4) (k := 5) dX4_meaningOf_22 (by decide) (by decide) kw231 rfl rfl (L4_0 H0) (L4_r5 H0) ?_
        refine V_iload_n (pc := 25) 2 dX4_meaningOf_25 rfl rfl ?_
        obtain ⟨b4, h⟩ := ite_o h
        refine V_iald (pc := 26) dX4_meaningOf_26 (L4_s5 H0) (inB_vp b4) ?_
        cases h
        exact V_ret (pc := 27) dX4_meaningOf_27 ⟨rfl, _, rfl⟩ ⟨rfl, rfl, rfl⟩
theorem calX4_meaningOf : Cal yX4_meaningOf cX4_meaningOf 4 (some .int) 1 := ⟨kw595, kw2, by decide +kernel⟩
theorem ctX4_meaningOf {G : Gl} {σ : Sg} {d : Dt} {r0 : Nat} {v1 : Int64} {rr : Int32} (H0 : L4 σ r0) (h : mX4_meaningOf r0 v1 d = some rr) : CTv G yX4_meaningOf cX4_meaningOf 4 (some .int) 0 [.ref (gB G + r0), .long v1] σ d [.int rr] d := by
  refine CT_of pn_RX4 (Nat.le_of_ble_eq_true rfl) ?_
  rw [mX4_meaningOf] at h
  refine V_iconst (pc := 0) (x := 0) dX4_meaningOf_0 (by decide) ?_
  refine V_istore_n (pc := 1) (lv1 := [(3, _), (0, _), (1, _)]) dX4_meaningOf_1 rfl (by decide) rfl ?_
  exact V_sub [1, 2, 0] rfl (wX4_meaningOf_2 H0 FUEL (0 : Int32) h)
theorem calX7_takeNewName : Cal yX7_takeNewName cX7_takeNewName 3 (some .long) 0 := ⟨kw591, kw17, by decide +kernel⟩
theorem ctX7_takeNewName {G : Gl} {σ : Sg} {d : Dt} {r0 : Nat} {r0t : Nat} {r0h : Nat} {rr : Int64 × Dt} (H0 : L7 σ r0 r0t r0h) (h : mX7_takeNewName r0 r0t r0h d = some rr) : CTv G yX7_takeNewName cX7_takeNewName 3 (some .long) 2 [.ref (gB G + r0)] σ d [.long rr.1] rr.2 := by
  refine CT_of pn_RX7 (Nat.le_of_ble_eq_true rfl) ?_
  rw [mX7_takeNewName] at h
  refine V_aload_n (pc := 0) 0 dX7_takeNewName_0 rfl rfl ?_
  refine V_iconst (pc := 1) (x := 1) dX7_takeNewName_1 (by decide) ?_
  obtain ⟨x2, h1, h⟩ := bnd h
  refine V_cV1 (pc := 2) dX7_takeNewName_2 kw570 calX7_sees kw572 ks11 (L7_0 H0) rfl (by decide) (Nat.le_of_ble_eq_true rfl) (ctX7_sees H0 h1) ?_
  refine V_ifB_ne (pc := 5) (tgt := 16) dX7_takeNewName_5 (by decide) (fun c3 => ?_) (fun c3 => ?_)
  · have h := ite_p c3 h
    refine V_aload_n (pc := 16) 0 dX7_takeNewName_16 rfl rfl ?_
    refine V_getR (pc := 17) (c := 7) (k := 0) dX7_takeNewName_17 (by decide) (by decide) kw508 rfl rfl (L7_0 H0) (L7_r0 H0) ?_
    refine V_aload_n (pc := 20) 0 dX7_takeNewName_20 rfl rfl ?_
    refine V_getI (pc := 21) (c := 7) (k := 2) dX7_takeNewName_21 (by decide) (by decide) kw510 rfl rfl (L7_0 H0) ?_
    obtain ⟨x5, h4, h⟩ := bnd h
    refine V_cV1 (pc := 24) dX7_takeNewName_24 kw548 calX8_valueOf kw549 kw550 (L8_0 (L7_o0 H0)) rfl (by decide) (Nat.le_of_ble_eq_true rfl) (ctX8_valueOf (L7_o0 H0) h4) ?_
    refine V_lstore_n (pc := 27) (lv1 := [(1, _), (0, _)]) dX7_takeNewName_27 rfl (by decide) rfl ?_
    refine V_aload_n (pc := 28) 1 dX7_takeNewName_28 rfl rfl ?_
    refine V_getR (pc := 29) (c := 7) (k := 1) dX7_takeNewName_29 (by decide) (by decide) kw509 rfl rfl (L7_0 H0) (L7_r1 H0) ?_
    refine V_lload_n (pc := 32) 0 dX7_takeNewName_32 rfl rfl ?_
    obtain ⟨x7, h6, h⟩ := bnd h
    refine V_cV1 (pc := 33) dX7_takeNewName_33 kw592 calX4_meaningOf kw593 kw594 (L4_0 (L7_o1 H0)) rfl (by decide) (Nat.le_of_ble_eq_true rfl) (ctX4_meaningOf (L7_o1 H0) h6) ?_
    refine V_if_lt (pc := 36) (tgt := 47) dX7_takeNewName_36 (by decide) (fun c8 => ?_) (fun c8 => ?_)
    · have h := ite_p c8 h
      refine V_aload_n (pc := 47) 1 dX7_takeNewName_47 rfl rfl ?_
      refine V_dup (pc := 48) dX7_takeNewName_48 rfl ?_
      refine V_getI (pc := 49) (c := 7) (k := 2) dX7_takeNewName_49 (by decide) (by decide) kw510 rfl rfl (L7_0 H0) ?_
      refine V_iconst (pc := 52) (x := 1) dX7_takeNewName_52 (by decide) ?_
      refine V_iadd (pc := 53) dX7_takeNewName_53 ?_
      refine V_putI (pc := 54) (c := 7) (k := 2) dX7_takeNewName_54 (by decide) (by decide) kw510 rfl rfl rfl ⟨rfl, rfl⟩ (L7_0 H0) ?_
      refine V_lload_n (pc := 57) 0 dX7_takeNewName_57 rfl rfl ?_
      cases h
      exact V_ret (pc := 58) dX7_takeNewName_58 ⟨rfl, _, rfl⟩ ⟨rfl, rfl, rfl⟩
    · have h := ite_n c8 h
      refine V_aload_n (pc := 39) 1 dX7_takeNewName_39 rfl rfl ?_
      refine V_iconst (pc := 40) (x := 3) dX7_takeNewName_40 (by decide) ?_
      refine V_cV1 (pc := 41) dX7_takeNewName_41 kw553 calX7_fail kw555 ks7 (L7_0 H0) rfl (by decide) (Nat.le_of_ble_eq_true rfl) (ctX7_fail H0) ?_
      refine V_pop (pc := 44) dX7_takeNewName_44 rfl ?_
      refine V_lconst (pc := 45) (x := 0) dX7_takeNewName_45 (by decide) ?_
      cases h
      exact V_ret (pc := 46) dX7_takeNewName_46 ⟨rfl, _, rfl⟩ ⟨rfl, rfl, rfl⟩
  · have h := ite_f c3 h
    refine V_aload_n (pc := 8) 0 dX7_takeNewName_8 rfl rfl ?_
    refine V_iconst (pc := 9) (x := 1) dX7_takeNewName_9 (by decide) ?_
    refine V_cV1 (pc := 10) dX7_takeNewName_10 kw553 calX7_fail kw555 ks7 (L7_0 H0) rfl (by decide) (Nat.le_of_ble_eq_true rfl) (ctX7_fail H0) ?_
    refine V_pop (pc := 13) dX7_takeNewName_13 rfl ?_
    refine V_lconst (pc := 14) (x := 0) dX7_takeNewName_14 (by decide) ?_
    cases h
    exact V_ret (pc := 15) dX7_takeNewName_15 ⟨rfl, _, rfl⟩ ⟨rfl, rfl, rfl⟩
theorem calX9_add : Cal yX9_add cX9_add 4 none 3 := ⟨kw599, kw3, by decide +kernel⟩
theorem ctX9_add {G : Gl} {σ : Sg} {d : Dt} {r0 : Nat} {v1 : Int32} {v2 : Int32} {v3 : Int32} {rr : Dt} (H0 : L9 σ r0) (h : mX9_add r0 v1 v2 v3 d = some rr) : CTv G yX9_add cX9_add 4 none 0 [.ref (gB G + r0), .int v1, .int v2, .int v3] σ d [] rr := by
  refine CT_of pn_RX9 (Nat.le_of_ble_eq_true rfl) ?_
  rw [mX9_add] at h
  refine V_aload_n (pc := 0) 0 dX9_add_0 rfl rfl ?_
  refine V_getI (pc := 1) (c := 9) (k := 0) dX9_add_1 (by decide) (by decide) kw47 rfl rfl (L9_0 H0) ?_
  refine V_bipush (pc := 4) (x := 14) dX9_add_4 (by decide) ?_
  refine V_icmp_ge (pc := 6) (tgt := 49) dX9_add_6 (by decide) (fun c1 => ?_) (fun c1 => ?_)
  · have h := ite_p c1 h
    cases h
    exact V_ret (pc := 49) dX9_add_49 ⟨rfl, rfl⟩ ⟨rfl, rfl, rfl⟩
  · have h := ite_n c1 h
    refine V_aload_n (pc := 9) 0 dX9_add_9 rfl rfl ?_
    refine V_getR (pc := 10) (c := 9) (k := 1) dX9_add_10 (by decide) (by decide) kw52 rfl rfl (L9_0 H0) (L9_r1 H0) ?_
    refine V_aload_n (pc := 13) 0 dX9_add_13 rfl rfl ?_
    refine V_getI (pc := 14) (c := 9) (k := 0) dX9_add_14 (by decide) (by decide) kw47 rfl rfl (L9_0 H0) ?_
    refine V_iload_n (pc := 17) 1 dX9_add_17 rfl rfl ?_
    obtain ⟨b2, h⟩ := ite_o h
    refine V_iast (pc := 18) dX9_add_18 (L9_s1 H0) (inB_vp b2) ?_
    refine V_aload_n (pc := 19) 0 dX9_add_19 rfl rfl ?_
    refine V_getR (pc := 20) (c := 9) (k := 3) dX9_add_20 (by decide) (by decide) kw56 rfl rfl (L9_0 H0) (L9_r3 H0) ?_
    refine V_aload_n (pc := 23) 0 dX9_add_23 rfl rfl ?_
    refine V_getI (pc := 24) (c := 9) (k := 0) dX9_add_24 (by decide) (by decide) kw47 rfl rfl (L9_0 H0) ?_
    refine V_iload_n (pc := 27) 2 dX9_add_27 rfl rfl ?_
    obtain ⟨b3, h⟩ := ite_o h
    refine V_iast (pc := 28) dX9_add_28 (L9_s3 H0) (inB_vp b3) ?_
    refine V_aload_n (pc := 29) 0 dX9_add_29 rfl rfl ?_
    refine V_getR (pc := 30) (c := 9) (k := 2) dX9_add_30 (by decide) (by decide) kw54 rfl rfl (L9_0 H0) (L9_r2 H0) ?_
    refine V_aload_n (pc := 33) 0 dX9_add_33 rfl rfl ?_
    refine V_getI (pc := 34) (c := 9) (k := 0) dX9_add_34 (by decide) (by decide) kw47 rfl rfl (L9_0 H0) ?_
    refine V_iload_n (pc := 37) 3 dX9_add_37 rfl rfl ?_
    obtain ⟨b4, h⟩ := ite_o h
    refine V_iast (pc := 38) dX9_add_38 (L9_s2 H0) (inB_vp b4) ?_
    refine V_aload_n (pc := 39) 0 dX9_add_39 rfl rfl ?_
    refine V_dup (pc := 40) dX9_add_40 rfl ?_
    refine V_getI (pc := 41) (c := 9) (k := 0) dX9_add_41 (by decide) (by decide) kw47 rfl rfl (L9_0 H0) ?_
    refine V_iconst (pc := 44) (x := 1) dX9_add_44 (by decide) ?_
    refine V_iadd (pc := 45) dX9_add_45 ?_
    refine V_putI (pc := 46) (c := 9) (k := 0) dX9_add_46 (by decide) (by decide) kw47 rfl rfl rfl ⟨rfl, rfl⟩ (L9_0 H0) ?_
    cases h
    exact V_ret (pc := 49) dX9_add_49 ⟨rfl, rfl⟩ ⟨rfl, rfl, rfl⟩
theorem calX7_takeNamed : Cal yX7_takeNamed cX7_takeNamed 3 (some .int) 1 := ⟨kw608, kw17, by decide +kernel⟩
theorem ctX7_takeNamed {G : Gl} {σ : Sg} {d : Dt} {r0 : Nat} {r0t : Nat} {r0h : Nat} {v1 : Int32} {rr : Int32 × Dt} (H0 : L7 σ r0 r0t r0h) (h : mX7_takeNamed r0 r0t r0h v1 d = some rr) : CTv G yX7_takeNamed cX7_takeNamed 3 (some .int) 2 [.ref (gB G + r0), .int v1] σ d [.int rr.1] rr.2 := by
  refine CT_of pn_RX7 (Nat.le_of_ble_eq_true rfl) ?_
  rw [mX7_takeNamed] at h
  refine V_aload_n (pc := 0) 0 dX7_takeNamed_0 rfl rfl ?_
  refine V_iconst (pc := 1) (x := 1) dX7_takeNamed_1 (by decide) ?_
  obtain ⟨x2, h1, h⟩ := bnd h
  refine V_cV1 (pc := 2) dX7_takeNamed_2 kw570 calX7_sees kw572 ks11 (L7_0 H0) rfl (by decide) (Nat.le_of_ble_eq_true rfl) (ctX7_sees H0 h1) ?_
  refine V_ifB_ne (pc := 5) (tgt := 16) dX7_takeNamed_5 (by decide) (fun c3 => ?_) (fun c3 => ?_)
  · have h := ite_p c3 h
    refine V_aload_n (pc := 16) 0 dX7_takeNamed_16 rfl rfl ?_
    refine V_getR (pc := 17) (c := 7) (k := 1) dX7_takeNamed_17 (by decide) (by decide) kw509 rfl rfl (L7_0 H0) (L7_r1 H0) ?_
    refine V_aload_n (pc := 20) 0 dX7_takeNamed_20 rfl rfl ?_
    refine V_getR (pc := 21) (c := 7) (k := 0) dX7_takeNamed_21 (by decide) (by decide) kw508 rfl rfl (L7_0 H0) (L7_r0 H0) ?_
    refine V_aload_n (pc := 24) 0 dX7_takeNamed_24 rfl rfl ?_
    refine V_getI (pc := 25) (c := 7) (k := 2) dX7_takeNamed_25 (by decide) (by decide) kw510 rfl rfl (L7_0 H0) ?_
    obtain ⟨x5, h4, h⟩ := bnd h
    refine V_cV1 (pc := 28) dX7_takeNamed_28 kw548 calX8_valueOf kw549 kw550 (L8_0 (L7_o0 H0)) rfl (by decide) (Nat.le_of_ble_eq_true rfl) (ctX8_valueOf (L7_o0 H0) h4) ?_
    obtain ⟨x7, h6, h⟩ := bnd h
    refine V_cV1 (pc := 31) dX7_takeNamed_31 kw592 calX4_meaningOf kw593 kw594 (L4_0 (L7_o1 H0)) rfl (by decide) (Nat.le_of_ble_eq_true rfl) (ctX4_meaningOf (L7_o1 H0) h6) ?_
    refine V_istore_n (pc := 34) (lv1 := [(2, _), (0, _), (1, _)]) dX7_takeNamed_34 rfl (by decide) rfl ?_
    refine V_iload_n (pc := 35) 0 dX7_takeNamed_35 rfl rfl ?_
    refine V_iload_n (pc := 36) 2 dX7_takeNamed_36 rfl rfl ?_
    refine V_icmp_lt (pc := 37) (tgt := 48) dX7_takeNamed_37 (by decide) (fun c8 => ?_) (fun c8 => ?_)
    · have h := ite_p c8 h
      refine V_aload_n (pc := 48) 1 dX7_takeNamed_48 rfl rfl ?_
      refine V_iconst (pc := 49) (x := 2) dX7_takeNamed_49 (by decide) ?_
      refine V_cV1 (pc := 50) dX7_takeNamed_50 kw553 calX7_fail kw555 ks7 (L7_0 H0) rfl (by decide) (Nat.le_of_ble_eq_true rfl) (ctX7_fail H0) ?_
      refine V_pop (pc := 53) dX7_takeNamed_53 rfl ?_
      refine V_iconst (pc := 54) (x := (-1)) dX7_takeNamed_54 (by decide) ?_
      cases h
      exact V_ret (pc := 55) dX7_takeNamed_55 ⟨rfl, _, rfl⟩ ⟨rfl, rfl, rfl⟩
    · have h := ite_n c8 h
      refine V_iload_n (pc := 40) 0 dX7_takeNamed_40 rfl rfl ?_
      refine V_iload_n (pc := 41) 2 dX7_takeNamed_41 rfl rfl ?_
      refine V_bipush (pc := 42) (x := 100) dX7_takeNamed_42 (by decide) ?_
      refine V_iadd (pc := 44) dX7_takeNamed_44 ?_
      refine V_icmp_lt (pc := 45) (tgt := 56) dX7_takeNamed_45 (by decide) (fun c11 => ?_) (fun c11 => ?_)
      · have h := ite_p c11 h
        refine V_aload_n (pc := 56) 1 dX7_takeNamed_56 rfl rfl ?_
        refine V_dup (pc := 57) dX7_takeNamed_57 rfl ?_
        refine V_getI (pc := 58) (c := 7) (k := 2) dX7_takeNamed_58 (by decide) (by decide) kw510 rfl rfl (L7_0 H0) ?_
        refine V_iconst (pc := 61) (x := 1) dX7_takeNamed_61 (by decide) ?_
        refine V_iadd (pc := 62) dX7_takeNamed_62 ?_
        refine V_putI (pc := 63) (c := 7) (k := 2) dX7_takeNamed_63 (by decide) (by decide) kw510 rfl rfl rfl ⟨rfl, rfl⟩ (L7_0 H0) ?_
        refine V_iload_n (pc := 66) 0 dX7_takeNamed_66 rfl rfl ?_
        refine V_iload_n (pc := 67) 2 dX7_takeNamed_67 rfl rfl ?_
        refine V_isub (pc := 68) dX7_takeNamed_68 ?_
        cases h
        exact V_ret (pc := 69) dX7_takeNamed_69 ⟨rfl, _, rfl⟩ ⟨rfl, rfl, rfl⟩
      · have h := ite_n c11 h
        refine V_aload_n (pc := 48) 1 dX7_takeNamed_48 rfl rfl ?_
        refine V_iconst (pc := 49) (x := 2) dX7_takeNamed_49 (by decide) ?_
        refine V_cV1 (pc := 50) dX7_takeNamed_50 kw553 calX7_fail kw555 ks7 (L7_0 H0) rfl (by decide) (Nat.le_of_ble_eq_true rfl) (ctX7_fail H0) ?_
        refine V_pop (pc := 53) dX7_takeNamed_53 rfl ?_
        refine V_iconst (pc := 54) (x := (-1)) dX7_takeNamed_54 (by decide) ?_
        cases h
        exact V_ret (pc := 55) dX7_takeNamed_55 ⟨rfl, _, rfl⟩ ⟨rfl, rfl, rfl⟩
  · have h := ite_f c3 h
    refine V_aload_n (pc := 8) 0 dX7_takeNamed_8 rfl rfl ?_
    refine V_iconst (pc := 9) (x := 1) dX7_takeNamed_9 (by decide) ?_
    refine V_cV1 (pc := 10) dX7_takeNamed_10 kw553 calX7_fail kw555 ks7 (L7_0 H0) rfl (by decide) (Nat.le_of_ble_eq_true rfl) (ctX7_fail H0) ?_
    refine V_pop (pc := 13) dX7_takeNamed_13 rfl ?_
    refine V_iconst (pc := 14) (x := (-1)) dX7_takeNamed_14 (by decide) ?_
    cases h
    exact V_ret (pc := 15) dX7_takeNamed_15 ⟨rfl, _, rfl⟩ ⟨rfl, rfl, rfl⟩
theorem calX7_takeChoice : Cal yX7_takeChoice cX7_takeChoice 2 (some .int) 1 := ⟨kw620, kw17, by decide +kernel⟩
theorem ctX7_takeChoice {G : Gl} {σ : Sg} {d : Dt} {r0 : Nat} {r0t : Nat} {r0h : Nat} {v1 : Int32} (H0 : L7 σ r0 r0t r0h) : CTv G yX7_takeChoice cX7_takeChoice 2 (some .int) 1 [.ref (gB G + r0), .int v1] σ d [.int (mX7_takeChoice r0 r0t r0h v1 d).1] (mX7_takeChoice r0 r0t r0h v1 d).2 := by
  refine CT_of pn_RX7 (Nat.le_of_ble_eq_true rfl) ?_
  generalize h : mX7_takeChoice r0 r0t r0h v1 d = rr
  rw [mX7_takeChoice] at h
  refine V_iload_n (pc := 0) 1 dX7_takeChoice_0 rfl rfl ?_
  refine V_if_ge (pc := 1) (tgt := 13) dX7_takeChoice_1 (by decide) (fun c1 => ?_) (fun c1 => ?_)
  · have h := ite_p c1 h
    refine V_aload_n (pc := 13) 0 dX7_takeChoice_13 rfl rfl ?_
    refine V_dup (pc := 14) dX7_takeChoice_14 rfl ?_
    refine V_getI (pc := 15) (c := 7) (k := 2) dX7_takeChoice_15 (by decide) (by decide) kw510 rfl rfl (L7_0 H0) ?_
    refine V_iconst (pc := 18) (x := 1) dX7_takeChoice_18 (by decide) ?_
    refine V_iadd (pc := 19) dX7_takeChoice_19 ?_
    refine V_putI (pc := 20) (c := 7) (k := 2) dX7_takeChoice_20 (by decide) (by decide) kw510 rfl rfl rfl ⟨rfl, rfl⟩ (L7_0 H0) ?_
    refine V_iload_n (pc := 23) 1 dX7_takeChoice_23 rfl rfl ?_
    subst h
    exact V_ret (pc := 24) dX7_takeChoice_24 ⟨rfl, _, rfl⟩ ⟨rfl, rfl, rfl⟩
  · have h := ite_n c1 h
    refine V_aload_n (pc := 4) 0 dX7_takeChoice_4 rfl rfl ?_
    refine V_iconst (pc := 5) (x := 1) dX7_takeChoice_5 (by decide) ?_
    refine V_cV1 (pc := 6) dX7_takeChoice_6 kw553 calX7_fail kw555 ks7 (L7_0 H0) rfl (by decide) (Nat.le_of_ble_eq_true rfl) (ctX7_fail H0) ?_
    refine V_pop (pc := 9) dX7_takeChoice_9 rfl ?_
    refine V_goto (pc := 10) (tgt := 23) dX7_takeChoice_10 (by decide) ?_
    refine V_iload_n (pc := 23) 1 dX7_takeChoice_23 rfl rfl ?_
    subst h
    exact V_ret (pc := 24) dX7_takeChoice_24 ⟨rfl, _, rfl⟩ ⟨rfl, rfl, rfl⟩
theorem calX7_takeSide : Cal yX7_takeSide cX7_takeSide 2 (some .int) 0 := ⟨kw612, kw17, by decide +kernel⟩
theorem ctX7_takeSide {G : Gl} {σ : Sg} {d : Dt} {r0 : Nat} {r0t : Nat} {r0h : Nat} {rr : Int32 × Dt} (H0 : L7 σ r0 r0t r0h) (h : mX7_takeSide r0 r0t r0h d = some rr) : CTv G yX7_takeSide cX7_takeSide 2 (some .int) 8 [.ref (gB G + r0)] σ d [.int rr.1] rr.2 := by
  refine CT_of pn_RX7 (Nat.le_of_ble_eq_true rfl) ?_
  rw [mX7_takeSide] at h
  refine V_aload_n (pc := 0) 0 dX7_takeSide_0 rfl rfl ?_
  refine V_ldcS (pc := 1) (i := 12) (tx := "up") dX7_takeSide_1 (by decide) ?_
  obtain ⟨x2, h1, h⟩ := bnd h
  refine V_cV1 (pc := 3) dX7_takeSide_3 kw540 calX7_reads kw542 ks6 (L7_0 H0) rfl (by decide) (Nat.le_of_ble_eq_true rfl) (ctX7_reads H0 (by decide) h1) ?_
  refine V_ifB_eq (pc := 6) (tgt := 13) dX7_takeSide_6 (by decide) (fun c3 => ?_) (fun c3 => ?_)
  · have h := ite_f c3 h
    refine V_aload_n (pc := 13) 0 dX7_takeSide_13 rfl rfl ?_
    refine V_ldcS (pc := 14) (i := 13) (tx := "right") dX7_takeSide_14 (by decide) ?_
    obtain ⟨x5, h4, h⟩ := bnd h
    refine V_cV1 (pc := 16) dX7_takeSide_16 kw540 calX7_reads kw542 ks6 (L7_0 H0) rfl (by decide) (Nat.le_of_ble_eq_true rfl) (ctX7_reads H0 (by decide) h4) ?_
    refine V_ifB_eq (pc := 19) (tgt := 26) dX7_takeSide_19 (by decide) (fun c6 => ?_) (fun c6 => ?_)
    · have h := ite_f c6 h
      refine V_aload_n (pc := 26) 0 dX7_takeSide_26 rfl rfl ?_
      refine V_ldcS (pc := 27) (i := 14) (tx := "down") dX7_takeSide_27 (by decide) ?_
      obtain ⟨x8, h7, h⟩ := bnd h
      refine V_cV1 (pc := 29) dX7_takeSide_29 kw540 calX7_reads kw542 ks6 (L7_0 H0) rfl (by decide) (Nat.le_of_ble_eq_true rfl) (ctX7_reads H0 (by decide) h7) ?_
      refine V_ifB_eq (pc := 32) (tgt := 39) dX7_takeSide_32 (by decide) (fun c9 => ?_) (fun c9 => ?_)
      · have h := ite_f c9 h
        refine V_aload_n (pc := 39) 0 dX7_takeSide_39 rfl rfl ?_
        refine V_ldcS (pc := 40) (i := 15) (tx := "left") dX7_takeSide_40 (by decide) ?_
        obtain ⟨x11, h10, h⟩ := bnd h
        refine V_cV1 (pc := 42) dX7_takeSide_42 kw540 calX7_reads kw542 ks6 (L7_0 H0) rfl (by decide) (Nat.le_of_ble_eq_true rfl) (ctX7_reads H0 (by decide) h10) ?_
        refine V_ifB_eq (pc := 45) (tgt := 52) dX7_takeSide_45 (by decide) (fun c12 => ?_) (fun c12 => ?_)
        · have h := ite_f c12 h
          refine V_iconst (pc := 52) (x := (-1)) dX7_takeSide_52 (by decide) ?_
          refine V_istore_n (pc := 53) (lv1 := [(1, _), (0, _)]) dX7_takeSide_53 rfl (by decide) rfl ?_
          refine V_aload_n (pc := 54) 1 dX7_takeSide_54 rfl rfl ?_
          refine V_iload_n (pc := 55) 0 dX7_takeSide_55 rfl rfl ?_
          refine V_cV1 (pc := 56) dX7_takeSide_56 kw617 calX7_takeChoice kw619 ks19 (L7_0 H0) rfl (by decide) (Nat.le_of_ble_eq_true rfl) (ctX7_takeChoice H0) ?_
          cases h
          exact V_ret (pc := 59) dX7_takeSide_59 ⟨rfl, _, rfl⟩ ⟨rfl, rfl, rfl⟩
        · have h := ite_p c12 h
          refine V_iconst (pc := 48) (x := 3) dX7_takeSide_48 (by decide) ?_
          refine V_goto (pc := 49) (tgt := 53) dX7_takeSide_49 (by decide) ?_
          refine V_istore_n (pc := 53) (lv1 := [(1, _), (0, _)]) dX7_takeSide_53 rfl (by decide) rfl ?_
          refine V_aload_n (pc := 54) 1 dX7_takeSide_54 rfl rfl ?_
          refine V_iload_n (pc := 55) 0 dX7_takeSide_55 rfl rfl ?_
          refine V_cV1 (pc := 56) dX7_takeSide_56 kw617 calX7_takeChoice kw619 ks19 (L7_0 H0) rfl (by decide) (Nat.le_of_ble_eq_true rfl) (ctX7_takeChoice H0) ?_
          cases h
          exact V_ret (pc := 59) dX7_takeSide_59 ⟨rfl, _, rfl⟩ ⟨rfl, rfl, rfl⟩
      · have h := ite_p c9 h
        refine V_iconst (pc := 35) (x := 2) dX7_takeSide_35 (by decide) ?_
        refine V_goto (pc := 36) (tgt := 53) dX7_takeSide_36 (by decide) ?_
        refine V_istore_n (pc := 53) (lv1 := [(1, _), (0, _)]) dX7_takeSide_53 rfl (by decide) rfl ?_
        refine V_aload_n (pc := 54) 1 dX7_takeSide_54 rfl rfl ?_
        refine V_iload_n (pc := 55) 0 dX7_takeSide_55 rfl rfl ?_
        refine V_cV1 (pc := 56) dX7_takeSide_56 kw617 calX7_takeChoice kw619 ks19 (L7_0 H0) rfl (by decide) (Nat.le_of_ble_eq_true rfl) (ctX7_takeChoice H0) ?_
        cases h
        exact V_ret (pc := 59) dX7_takeSide_59 ⟨rfl, _, rfl⟩ ⟨rfl, rfl, rfl⟩
    · have h := ite_p c6 h
      refine V_iconst (pc := 22) (x := 1) dX7_takeSide_22 (by decide) ?_
      refine V_goto (pc := 23) (tgt := 53) dX7_takeSide_23 (by decide) ?_
      refine V_istore_n (pc := 53) (lv1 := [(1, _), (0, _)]) dX7_takeSide_53 rfl (by decide) rfl ?_
      refine V_aload_n (pc := 54) 1 dX7_takeSide_54 rfl rfl ?_
      refine V_iload_n (pc := 55) 0 dX7_takeSide_55 rfl rfl ?_
      refine V_cV1 (pc := 56) dX7_takeSide_56 kw617 calX7_takeChoice kw619 ks19 (L7_0 H0) rfl (by decide) (Nat.le_of_ble_eq_true rfl) (ctX7_takeChoice H0) ?_
      cases h
      exact V_ret (pc := 59) dX7_takeSide_59 ⟨rfl, _, rfl⟩ ⟨rfl, rfl, rfl⟩
  · have h := ite_p c3 h
    refine V_iconst (pc := 9) (x := 0) dX7_takeSide_9 (by decide) ?_
    refine V_goto (pc := 10) (tgt := 53) dX7_takeSide_10 (by decide) ?_
    refine V_istore_n (pc := 53) (lv1 := [(1, _), (0, _)]) dX7_takeSide_53 rfl (by decide) rfl ?_
    refine V_aload_n (pc := 54) 1 dX7_takeSide_54 rfl rfl ?_
    refine V_iload_n (pc := 55) 0 dX7_takeSide_55 rfl rfl ?_
    refine V_cV1 (pc := 56) dX7_takeSide_56 kw617 calX7_takeChoice kw619 ks19 (L7_0 H0) rfl (by decide) (Nat.le_of_ble_eq_true rfl) (ctX7_takeChoice H0) ?_
    cases h
    exact V_ret (pc := 59) dX7_takeSide_59 ⟨rfl, _, rfl⟩ ⟨rfl, rfl, rfl⟩
theorem calX7_readBranch : Cal yX7_readBranch cX7_readBranch 4 (some .boolean) 0 := ⟨kw603, kw17, by decide +kernel⟩
theorem ctX7_readBranch {G : Gl} {σ : Sg} {d : Dt} {r0 : Nat} {r0t : Nat} {r0h : Nat} {rr : Bool × Dt} (H0 : L7 σ r0 r0t r0h) (h : mX7_readBranch r0 r0t r0h d = some rr) : CTv G yX7_readBranch cX7_readBranch 4 (some .boolean) 9 [.ref (gB G + r0)] σ d [.int (b2i rr.1)] rr.2 := by
  refine CT_of pn_RX7 (Nat.le_of_ble_eq_true rfl) ?_
  rw [mX7_readBranch] at h
  refine V_aload_n (pc := 0) 0 dX7_readBranch_0 rfl rfl ?_
  refine V_ldcS (pc := 1) (i := 6) (tx := "off") dX7_readBranch_1 (by decide) ?_
  obtain ⟨x2, h1, h⟩ := bnd h
  refine V_cV1 (pc := 3) dX7_readBranch_3 kw562 calX7_take kw564 ks9 (L7_0 H0) rfl (by decide) (Nat.le_of_ble_eq_true rfl) (ctX7_take H0 (by decide) h1) ?_
  refine V_ifB_ne (pc := 6) (tgt := 11) dX7_readBranch_6 (by decide) (fun c3 => ?_) (fun c3 => ?_)
  · have h := ite_p c3 h
    refine V_aload_n (pc := 11) 0 dX7_readBranch_11 rfl rfl ?_
    refine V_iconst (pc := 12) (x := 0) dX7_readBranch_12 (by decide) ?_
    obtain ⟨x5, h4, h⟩ := bnd h
    refine V_cV1 (pc := 13) dX7_readBranch_13 kw605 calX7_takeNamed kw607 ks17 (L7_0 H0) rfl (by decide) (Nat.le_of_ble_eq_true rfl) (ctX7_takeNamed H0 h4) ?_
    refine V_istore_n (pc := 16) (lv1 := [(1, _), (0, _)]) dX7_readBranch_16 rfl (by decide) rfl ?_
    refine V_iload_n (pc := 17) 0 dX7_readBranch_17 rfl rfl ?_
    refine V_if_ge (pc := 18) (tgt := 23) dX7_readBranch_18 (by decide) (fun c6 => ?_) (fun c6 => ?_)
    · have h := ite_p c6 h
      refine V_aload_n (pc := 23) 1 dX7_readBranch_23 rfl rfl ?_
      obtain ⟨x8, h7, h⟩ := bnd h
      refine V_cV0 (pc := 24) dX7_readBranch_24 kw609 calX7_takeSide kw611 ks18 (L7_0 H0) rfl (by decide) (Nat.le_of_ble_eq_true rfl) (ctX7_takeSide H0 h7) ?_
      refine V_istore_n (pc := 27) (lv1 := [(2, _), (1, _), (0, _)]) dX7_readBranch_27 rfl (by decide) rfl ?_
      refine V_iload_n (pc := 28) 0 dX7_readBranch_28 rfl rfl ?_
      refine V_if_lt (pc := 29) (tgt := 41) dX7_readBranch_29 (by decide) (fun c9 => ?_) (fun c9 => ?_)
      · have h := ite_p c9 h
        refine V_iconst (pc := 41) (x := 0) dX7_readBranch_41 (by decide) ?_
        cases h
        exact V_ret (pc := 42) dX7_readBranch_42 ⟨rfl, _, rfl, rfl⟩ ⟨rfl, rfl, rfl⟩
      · have h := ite_n c9 h
        refine V_aload_n (pc := 32) 2 dX7_readBranch_32 rfl rfl ?_
        refine V_ldcS (pc := 33) (i := 16) (tx := "long") dX7_readBranch_33 (by decide) ?_
        obtain ⟨x11, h10, h⟩ := bnd h
        refine V_cV1 (pc := 35) dX7_readBranch_35 kw562 calX7_take kw564 ks9 (L7_0 H0) rfl (by decide) (Nat.le_of_ble_eq_true rfl) (ctX7_take H0 (by decide) h10) ?_
        refine V_ifB_ne (pc := 38) (tgt := 43) dX7_readBranch_38 (by decide) (fun c12 => ?_) (fun c12 => ?_)
        · have h := ite_p c12 h
          refine V_aload_n (pc := 43) 2 dX7_readBranch_43 rfl rfl ?_
          refine V_iconst (pc := 44) (x := 1) dX7_readBranch_44 (by decide) ?_
          refine V_sipush (pc := 45) (x := 999) dX7_readBranch_45 (by decide) ?_
          obtain ⟨x14, h13, h⟩ := bnd h
          refine V_cV2 (pc := 48) dX7_readBranch_48 kw566 calX7_takeWhole kw568 ks10 (L7_0 H0) rfl (by decide) (Nat.le_of_ble_eq_true rfl) (ctX7_takeWhole H0 h13) ?_
          refine V_istore_n (pc := 51) (lv1 := [(3, _), (2, _), (1, _), (0, _)]) dX7_readBranch_51 rfl (by decide) rfl ?_
          refine V_iload_n (pc := 52) 0 dX7_readBranch_52 rfl rfl ?_
          refine V_if_ge (pc := 53) (tgt := 58) dX7_readBranch_53 (by decide) (fun c15 => ?_) (fun c15 => ?_)
          · have h := ite_p c15 h
            refine V_aload_n (pc := 58) 3 dX7_readBranch_58 rfl rfl ?_
            refine V_getR (pc := 59) (c := 7) (k := 1) dX7_readBranch_59 (by decide) (by decide) kw509 rfl rfl (L7_0 H0) (L7_r1 H0) ?_
            refine V_getR (pc := 62) (c := 4) (k := 6) dX7_readBranch_62 (by decide) (by decide) kw235 rfl rfl (L4_0 (L7_o1 H0)) (L4_r6 (L7_o1 H0)) ?_
            refine V_iload_n (pc := 65) 2 dX7_readBranch_65 rfl rfl ?_
            refine V_iload_n (pc := 66) 1 dX7_readBranch_66 rfl rfl ?_
            refine V_iload_n (pc := 67) 0 dX7_readBranch_67 rfl rfl ?_
            obtain ⟨x17, h16, h⟩ := bnd h
            refine V_cV3 (pc := 68) dX7_readBranch_68 kw596 calX9_add kw597 kw598 (L9_0 (L4_o6 (L7_o1 H0))) rfl (by decide) (Nat.le_of_ble_eq_true rfl) (ctX9_add (L4_o6 (L7_o1 H0)) h16) ?_
            refine V_iconst (pc := 71) (x := 1) dX7_readBranch_71 (by decide) ?_
            cases h
            exact V_ret (pc := 72) dX7_readBranch_72 ⟨rfl, _, rfl, rfl⟩ ⟨rfl, rfl, rfl⟩
          · have h := ite_n c15 h
            refine V_iconst (pc := 56) (x := 0) dX7_readBranch_56 (by decide) ?_
            cases h
            exact V_ret (pc := 57) dX7_readBranch_57 ⟨rfl, _, rfl, rfl⟩ ⟨rfl, rfl, rfl⟩
        · have h := ite_f c12 h
          refine V_iconst (pc := 41) (x := 0) dX7_readBranch_41 (by decide) ?_
          cases h
          exact V_ret (pc := 42) dX7_readBranch_42 ⟨rfl, _, rfl, rfl⟩ ⟨rfl, rfl, rfl⟩
    · have h := ite_n c6 h
      refine V_iconst (pc := 21) (x := 0) dX7_readBranch_21 (by decide) ?_
      cases h
      exact V_ret (pc := 22) dX7_readBranch_22 ⟨rfl, _, rfl, rfl⟩ ⟨rfl, rfl, rfl⟩
  · have h := ite_f c3 h
    refine V_iconst (pc := 9) (x := 0) dX7_readBranch_9 (by decide) ?_
    cases h
    exact V_ret (pc := 10) dX7_readBranch_10 ⟨rfl, _, rfl, rfl⟩ ⟨rfl, rfl, rfl⟩
theorem calX4_addName : Cal yX4_addName cX4_addName 4 none 2 := ⟨kw625, kw2, by decide +kernel⟩
theorem ctX4_addName {G : Gl} {σ : Sg} {d : Dt} {r0 : Nat} {v1 : Int64} {v3 : Int32} {rr : Dt} (H0 : L4 σ r0) (h : mX4_addName r0 v1 v3 d = some rr) : CTv G yX4_addName cX4_addName 4 none 0 [.ref (gB G + r0), .long v1, .int v3] σ d [] rr := by
  refine CT_of pn_RX4 (Nat.le_of_ble_eq_true rfl) ?_
  rw [mX4_addName] at h
  refine V_aload_n (pc := 0) 0 dX4_addName_0 rfl rfl ?_
  refine V_getI (pc := 1) (c := 4) (k := 3) dX4_addName_1 (by decide) (by decide) kw229 rfl rfl (L4_0 H0) ?_
  refine V_bipush (pc := 4) (x := 36) dX4_addName_4 (by decide) ?_
  refine V_icmp_ge (pc := 6) (tgt := 39) dX4_addName_6 (by decide) (fun c1 => ?_) (fun c1 => ?_)
  · have h := ite_p c1 h
    cases h
    exact V_ret (pc := 39) dX4_addName_39 ⟨rfl, rfl⟩ ⟨rfl, rfl, rfl⟩
  · have h := ite_n c1 h
    refine V_aload_n (pc := 9) 0 dX4_addName_9 rfl rfl ?_
    refine V_getR (pc := 10) (c := 4) (k := 4) dX4_addName_10 (by decide) (by decide) kw230 rfl rfl (L4_0 H0) (L4_r4 H0) ?_
    refine V_aload_n (pc := 13) 0 dX4_addName_13 rfl rfl ?_
    refine V_getI (pc := 14) (c := 4) (k := 3) dX4_addName_14 (by decide) (by decide) kw229 rfl rfl (L4_0 H0) ?_
    refine V_lload_n (pc := 17) 1 dX4_addName_17 rfl rfl ?_
    obtain ⟨b2, h⟩ := ite_o h
    refine V_last (pc := 18) dX4_addName_18 (L4_s4 H0) (inB_vp b2) ?_
    refine V_aload_n (pc := 19) 0 dX4_addName_19 rfl rfl ?_
    refine V_getR (pc := 20) (c := 4) (k := 5) dX4_addName_20 (by decide) (by decide) kw231 rfl rfl (L4_0 H0) (L4_r5 H0) ?_
    refine V_aload_n (pc := 23) 0 dX4_addName_23 rfl rfl ?_
    refine V_getI (pc := 24) (c := 4) (k := 3) dX4_addName_24 (by decide) (by decide) kw229 rfl rfl (L4_0 H0) ?_
    refine V_iload_n (pc := 27) 2 dX4_addName_27 rfl rfl ?_
    obtain ⟨b3, h⟩ := ite_o h
    refine V_iast (pc := 28) dX4_addName_28 (L4_s5 H0) (inB_vp b3) ?_
    refine V_aload_n (pc := 29) 0 dX4_addName_29 rfl rfl ?_
    refine V_dup (pc := 30) dX4_addName_30 rfl ?_
    refine V_getI (pc := 31) (c := 4) (k := 3) dX4_addName_31 (by decide) (by decide) kw229 rfl rfl (L4_0 H0) ?_
    refine V_iconst (pc := 34) (x := 1) dX4_addName_34 (by decide) ?_
    refine V_iadd (pc := 35) dX4_addName_35 ?_
    refine V_putI (pc := 36) (c := 4) (k := 3) dX4_addName_36 (by decide) (by decide) kw229 rfl rfl rfl ⟨rfl, rfl⟩ (L4_0 H0) ?_
    cases h
    exact V_ret (pc := 39) dX4_addName_39 ⟨rfl, rfl⟩ ⟨rfl, rfl, rfl⟩
theorem wX7_readNode_54 {G : Gl} {σ : Sg} {d : Dt} {r0 : Nat} {r0t : Nat} {r0h : Nat} {v1 : Int32} {v2 : Int64} {rr : Bool × Dt} (H0 : L7 σ r0 r0t r0h) (h : mX7_readNode_54 r0 r0t r0h v1 v2 d = some rr) : V G yX7_readNode cX7_readNode 4 (some .boolean) 10 0 0 (PH [.int (b2i rr.1)] σ rr.2) 54 [(0, .ref (gB G + r0)), (1, .int v1), (2, .long v2)] [] σ d := by
  rw [mX7_readNode_54] at h
  refine V_aload_n (pc := 54) 0 dX7_readNode_54 rfl rfl ?_
  refine V_getR (pc := 55) (c := 7) (k := 1) dX7_readNode_55 (by decide) (by decide) kw509 rfl rfl (L7_0 H0) (L7_r1 H0) ?_
  refine V_lload_n (pc := 58) 2 dX7_readNode_58 rfl rfl ?_
  refine V_iconst (pc := 59) (x := 0) dX7_readNode_59 (by decide) ?_
  refine V_iload_n (pc := 60) 1 dX7_readNode_60 rfl rfl ?_
  refine V_iadd (pc := 61) dX7_readNode_61 ?_
  obtain ⟨x11, h10, h⟩ := bnd h
  refine V_cV2 (pc := 62) dX7_readNode_62 kw622 calX4_addName kw623 kw624 (L4_0 (L7_o1 H0)) rfl (by decide) (Nat.le_of_ble_eq_true rfl) (ctX4_addName (L7_o1 H0) h10) ?_
  refine V_aload_n (pc := 65) 0 dX7_readNode_65 rfl rfl ?_
  obtain ⟨x13, h12, h⟩ := bnd h
  refine V_cV0 (pc := 66) dX7_readNode_66 kw575 calX7_lineEnds kw577 ks12 (L7_0 H0) rfl (by decide) (Nat.le_of_ble_eq_true rfl) (ctX7_lineEnds H0 h12) ?_
  cases h
  exact V_ret (pc := 69) dX7_readNode_69 ⟨rfl, _, rfl, b2i_nar _⟩ ⟨rfl, rfl, rfl⟩
theorem calX7_readNode : Cal yX7_readNode cX7_readNode 4 (some .boolean) 0 := ⟨kw587, kw17, by decide +kernel⟩
theorem ctX7_readNode {G : Gl} {σ : Sg} {d : Dt} {r0 : Nat} {r0t : Nat} {r0h : Nat} {rr : Bool × Dt} (H0 : L7 σ r0 r0t r0h) (h : mX7_readNode r0 r0t r0h d = some rr) : CTv G yX7_readNode cX7_readNode 4 (some .boolean) 10 [.ref (gB G + r0)] σ d [.int (b2i rr.1)] rr.2 := by
  refine CT_of pn_RX7 (Nat.le_of_ble_eq_true rfl) ?_
  rw [mX7_readNode] at h
  refine V_aload_n (pc := 0) 0 dX7_readNode_0 rfl rfl ?_
  refine V_getR (pc := 1) (c := 7) (k := 1) dX7_readNode_1 (by decide) (by decide) kw509 rfl rfl (L7_0 H0) (L7_r1 H0) ?_
  refine V_getR (pc := 4) (c := 4) (k := 6) dX7_readNode_4 (by decide) (by decide) kw235 rfl rfl (L4_0 (L7_o1 H0)) (L4_r6 (L7_o1 H0)) ?_
  refine V_getI (pc := 7) (c := 9) (k := 0) dX7_readNode_7 (by decide) (by decide) kw51 rfl rfl (L9_0 (L4_o6 (L7_o1 H0))) ?_
  refine V_istore_n (pc := 10) (lv1 := [(1, _), (0, _)]) dX7_readNode_10 rfl (by decide) rfl ?_
  refine V_aload_n (pc := 11) 1 dX7_readNode_11 rfl rfl ?_
  obtain ⟨x2, h1, h⟩ := bnd h
  refine V_cV0 (pc := 12) dX7_readNode_12 kw588 calX7_takeNewName kw590 ks15 (L7_0 H0) rfl (by decide) (Nat.le_of_ble_eq_true rfl) (ctX7_takeNewName H0 h1) ?_
  refine V_lstore_n (pc := 15) (lv1 := [(2, _), (1, _), (0, _)]) dX7_readNode_15 rfl (by decide) rfl ?_
  refine V_lload_n (pc := 16) 0 dX7_readNode_16 rfl rfl ?_
  refine V_lconst (pc := 17) (x := 0) dX7_readNode_17 (by decide) ?_
  refine V_lcmp_ne (pc := 18) (tgt := 24) dX7_readNode_18 dX7_readNode_19 (by decide) (fun c3 => ?_) (fun c3 => ?_)
  · have h := ite_n c3 h
    refine V_iload_n (pc := 24) 1 dX7_readNode_24 rfl rfl ?_
    refine V_if_ne (pc := 25) (tgt := 45) dX7_readNode_25 (by decide) (fun c4 => ?_) (fun c4 => ?_)
    · have h := ite_n c4 h
      refine V_aload_n (pc := 45) 2 dX7_readNode_45 rfl rfl ?_
      obtain ⟨x6, h5, h⟩ := bnd h
      refine V_cV0 (pc := 46) dX7_readNode_46 kw600 calX7_readBranch kw602 ks16 (L7_0 H0) rfl (by decide) (Nat.le_of_ble_eq_true rfl) (ctX7_readBranch H0 h5) ?_
      refine V_ifB_ne (pc := 49) (tgt := 54) dX7_readNode_49 (by decide) (fun c7 => ?_) (fun c7 => ?_)
      · have h := ite_p c7 h
        exact V_sub [2, 1, 0] rfl (wX7_readNode_54 H0 h)
      · have h := ite_f c7 h
        refine V_iconst (pc := 52) (x := 0) dX7_readNode_52 (by decide) ?_
        cases h
        exact V_ret (pc := 53) dX7_readNode_53 ⟨rfl, _, rfl, rfl⟩ ⟨rfl, rfl, rfl⟩
    · have h := ite_p c4 h
      refine V_aload_n (pc := 28) 2 dX7_readNode_28 rfl rfl ?_
      refine V_getR (pc := 29) (c := 7) (k := 1) dX7_readNode_29 (by decide) (by decide) kw509 rfl rfl (L7_0 H0) (L7_r1 H0) ?_
      refine V_getR (pc := 32) (c := 4) (k := 6) dX7_readNode_32 (by decide) (by decide) kw235 rfl rfl (L4_0 (L7_o1 H0)) (L4_r6 (L7_o1 H0)) ?_
      refine V_bipush (pc := 35) (x := (-2)) dX7_readNode_35 (by decide) ?_
      refine V_iconst (pc := 37) (x := 0) dX7_readNode_37 (by decide) ?_
      refine V_iconst (pc := 38) (x := 0) dX7_readNode_38 (by decide) ?_
      obtain ⟨x9, h8, h⟩ := bnd h
      refine V_cV3 (pc := 39) dX7_readNode_39 kw596 calX9_add kw597 kw598 (L9_0 (L4_o6 (L7_o1 H0))) rfl (by decide) (Nat.le_of_ble_eq_true rfl) (ctX9_add (L4_o6 (L7_o1 H0)) h8) ?_
      refine V_goto (pc := 42) (tgt := 54) dX7_readNode_42 (by decide) ?_
      exact V_sub [2, 1, 0] rfl (wX7_readNode_54 H0 h)
  · have h := ite_p c3 h
    refine V_iconst (pc := 22) (x := 0) dX7_readNode_22 (by decide) ?_
    cases h
    exact V_ret (pc := 23) dX7_readNode_23 ⟨rfl, _, rfl, rfl⟩ ⟨rfl, rfl, rfl⟩
theorem calX7_readOption : Cal yX7_readOption cX7_readOption 3 (some .boolean) 0 := ⟨kw630, kw17, by decide +kernel⟩
theorem ctX7_readOption {G : Gl} {σ : Sg} {d : Dt} {r0 : Nat} {r0t : Nat} {r0h : Nat} {rr : Bool × Dt} (H0 : L7 σ r0 r0t r0h) (h : mX7_readOption r0 r0t r0h d = some rr) : CTv G yX7_readOption cX7_readOption 3 (some .boolean) 3 [.ref (gB G + r0)] σ d [.int (b2i rr.1)] rr.2 := by
  refine CT_of pn_RX7 (Nat.le_of_ble_eq_true rfl) ?_
  rw [mX7_readOption] at h
  refine V_aload_n (pc := 0) 0 dX7_readOption_0 rfl rfl ?_
  obtain ⟨x2, h1, h⟩ := bnd h
  refine V_cV0 (pc := 1) dX7_readOption_1 kw588 calX7_takeNewName kw590 ks15 (L7_0 H0) rfl (by decide) (Nat.le_of_ble_eq_true rfl) (ctX7_takeNewName H0 h1) ?_
  refine V_lstore_n (pc := 4) (lv1 := [(1, _), (0, _)]) dX7_readOption_4 rfl (by decide) rfl ?_
  refine V_lload_n (pc := 5) 0 dX7_readOption_5 rfl rfl ?_
  refine V_lconst (pc := 6) (x := 0) dX7_readOption_6 (by decide) ?_
  refine V_lcmp_ne (pc := 7) (tgt := 13) dX7_readOption_7 dX7_readOption_8 (by decide) (fun c3 => ?_) (fun c3 => ?_)
  · have h := ite_n c3 h
    refine V_aload_n (pc := 13) 1 dX7_readOption_13 rfl rfl ?_
    refine V_getR (pc := 14) (c := 7) (k := 1) dX7_readOption_14 (by decide) (by decide) kw509 rfl rfl (L7_0 H0) (L7_r1 H0) ?_
    refine V_lload_n (pc := 17) 0 dX7_readOption_17 rfl rfl ?_
    refine V_bipush (pc := 18) (x := 100) dX7_readOption_18 (by decide) ?_
    refine V_aload_n (pc := 20) 1 dX7_readOption_20 rfl rfl ?_
    refine V_getR (pc := 21) (c := 7) (k := 1) dX7_readOption_21 (by decide) (by decide) kw509 rfl rfl (L7_0 H0) (L7_r1 H0) ?_
    refine V_getI (pc := 24) (c := 4) (k := 2) dX7_readOption_24 (by decide) (by decide) kw228 rfl rfl (L4_0 (L7_o1 H0)) ?_
    refine V_iadd (pc := 27) dX7_readOption_27 ?_
    obtain ⟨x5, h4, h⟩ := bnd h
    refine V_cV2 (pc := 28) dX7_readOption_28 kw622 calX4_addName kw623 kw624 (L4_0 (L7_o1 H0)) rfl (by decide) (Nat.le_of_ble_eq_true rfl) (ctX4_addName (L7_o1 H0) h4) ?_
    refine V_aload_n (pc := 31) 1 dX7_readOption_31 rfl rfl ?_
    refine V_getR (pc := 32) (c := 7) (k := 1) dX7_readOption_32 (by decide) (by decide) kw509 rfl rfl (L7_0 H0) (L7_r1 H0) ?_
    refine V_dup (pc := 35) dX7_readOption_35 rfl ?_
    refine V_getI (pc := 36) (c := 4) (k := 2) dX7_readOption_36 (by decide) (by decide) kw228 rfl rfl (L4_0 (L7_o1 H0)) ?_
    refine V_iconst (pc := 39) (x := 1) dX7_readOption_39 (by decide) ?_
    refine V_iadd (pc := 40) dX7_readOption_40 ?_
    refine V_putI (pc := 41) (c := 4) (k := 2) dX7_readOption_41 (by decide) (by decide) kw228 rfl rfl rfl ⟨rfl, rfl⟩ (L4_0 (L7_o1 H0)) ?_
    refine V_aload_n (pc := 44) 1 dX7_readOption_44 rfl rfl ?_
    obtain ⟨x7, h6, h⟩ := bnd h
    refine V_cV0 (pc := 45) dX7_readOption_45 kw575 calX7_lineEnds kw577 ks12 (L7_0 H0) rfl (by decide) (Nat.le_of_ble_eq_true rfl) (ctX7_lineEnds H0 h6) ?_
    cases h
    exact V_ret (pc := 48) dX7_readOption_48 ⟨rfl, _, rfl, b2i_nar _⟩ ⟨rfl, rfl, rfl⟩
  · have h := ite_p c3 h
    refine V_iconst (pc := 11) (x := 0) dX7_readOption_11 (by decide) ?_
    cases h
    exact V_ret (pc := 12) dX7_readOption_12 ⟨rfl, _, rfl, rfl⟩ ⟨rfl, rfl, rfl⟩
theorem wX7_takeWhen_34 {G : Gl} {σ : Sg} {d : Dt} {r0 : Nat} {r0t : Nat} {r0h : Nat} {v1 : Int32} {rr : Bool × Dt} (H0 : L7 σ r0 r0t r0h) (h : mX7_takeWhen_34 r0 r0t r0h v1 d = some rr) : V G yX7_takeWhen cX7_takeWhen 2 (some .boolean) 8 0 0 (PH [.int (b2i rr.1)] σ rr.2) 34 [(0, .ref (gB G + r0)), (1, .int v1)] [] σ d := by
  rw [mX7_takeWhen_34] at h
  refine V_aload_n (pc := 34) 0 dX7_takeWhen_34 rfl rfl ?_
  refine V_dup (pc := 35) dX7_takeWhen_35 rfl ?_
  refine V_getI (pc := 36) (c := 7) (k := 2) dX7_takeWhen_36 (by decide) (by decide) kw510 rfl rfl (L7_0 H0) ?_
  refine V_iconst (pc := 39) (x := 1) dX7_takeWhen_39 (by decide) ?_
  refine V_iadd (pc := 40) dX7_takeWhen_40 ?_
  refine V_putI (pc := 41) (c := 7) (k := 2) dX7_takeWhen_41 (by decide) (by decide) kw510 rfl rfl rfl ⟨rfl, rfl⟩ (L7_0 H0) ?_
  refine V_aload_n (pc := 44) 0 dX7_takeWhen_44 rfl rfl ?_
  refine V_aload_n (pc := 45) 0 dX7_takeWhen_45 rfl rfl ?_
  refine V_bipush (pc := 46) (x := 100) dX7_takeWhen_46 (by decide) ?_
  obtain ⟨x8, h7, h⟩ := bnd h
  refine V_cV1 (pc := 48) dX7_takeWhen_48 kw605 calX7_takeNamed kw607 ks17 (L7_0 H0) rfl (by decide) (Nat.le_of_ble_eq_true rfl) (ctX7_takeNamed H0 h7) ?_
  refine V_putI (pc := 51) (c := 7) (k := 3) dX7_takeWhen_51 (by decide) (by decide) kw511 rfl rfl rfl ⟨rfl, rfl⟩ (L7_0 H0) ?_
  refine V_aload_n (pc := 54) 0 dX7_takeWhen_54 rfl rfl ?_
  refine V_iload_n (pc := 55) 1 dX7_takeWhen_55 rfl rfl ?_
  refine V_if_eq (pc := 56) (tgt := 63) dX7_takeWhen_56 (by decide) (fun c9 => ?_) (fun c9 => ?_)
  · have h := ite_p c9 h
    refine V_iconst (pc := 63) (x := 0) dX7_takeWhen_63 (by decide) ?_
    refine V_putI (pc := 64) (c := 7) (k := 4) dX7_takeWhen_64 (by decide) (by decide) kw512 rfl rfl rfl ⟨rfl, rfl⟩ (L7_0 H0) ?_
    refine V_aload_n (pc := 67) 0 dX7_takeWhen_67 rfl rfl ?_
    refine V_getI (pc := 68) (c := 7) (k := 3) dX7_takeWhen_68 (by decide) (by decide) kw511 rfl rfl (L7_0 H0) ?_
    refine V_if_lt (pc := 71) (tgt := 78) dX7_takeWhen_71 (by decide) (fun c10 => ?_) (fun c10 => ?_)
    · have h := ite_p c10 h
      refine V_iconst (pc := 78) (x := 0) dX7_takeWhen_78 (by decide) ?_
      cases h
      exact V_ret (pc := 79) dX7_takeWhen_79 ⟨rfl, _, rfl, rfl⟩ ⟨rfl, rfl, rfl⟩
    · have h := ite_n c10 h
      refine V_iconst (pc := 74) (x := 1) dX7_takeWhen_74 (by decide) ?_
      refine V_goto (pc := 75) (tgt := 79) dX7_takeWhen_75 (by decide) ?_
      cases h
      exact V_ret (pc := 79) dX7_takeWhen_79 ⟨rfl, _, rfl, rfl⟩ ⟨rfl, rfl, rfl⟩
  · have h := ite_n c9 h
    refine V_iconst (pc := 59) (x := 1) dX7_takeWhen_59 (by decide) ?_
    refine V_goto (pc := 60) (tgt := 64) dX7_takeWhen_60 (by decide) ?_
    refine V_putI (pc := 64) (c := 7) (k := 4) dX7_takeWhen_64 (by decide) (by decide) kw512 rfl rfl rfl ⟨rfl, rfl⟩ (L7_0 H0) ?_
    refine V_aload_n (pc := 67) 0 dX7_takeWhen_67 rfl rfl ?_
    refine V_getI (pc := 68) (c := 7) (k := 3) dX7_takeWhen_68 (by decide) (by decide) kw511 rfl rfl (L7_0 H0) ?_
    refine V_if_lt (pc := 71) (tgt := 78) dX7_takeWhen_71 (by decide) (fun c11 => ?_) (fun c11 => ?_)
    · have h := ite_p c11 h
      refine V_iconst (pc := 78) (x := 0) dX7_takeWhen_78 (by decide) ?_
      cases h
      exact V_ret (pc := 79) dX7_takeWhen_79 ⟨rfl, _, rfl, rfl⟩ ⟨rfl, rfl, rfl⟩
    · have h := ite_n c11 h
      refine V_iconst (pc := 74) (x := 1) dX7_takeWhen_74 (by decide) ?_
      refine V_goto (pc := 75) (tgt := 79) dX7_takeWhen_75 (by decide) ?_
      cases h
      exact V_ret (pc := 79) dX7_takeWhen_79 ⟨rfl, _, rfl, rfl⟩ ⟨rfl, rfl, rfl⟩
theorem calX7_takeWhen : Cal yX7_takeWhen cX7_takeWhen 2 (some .boolean) 0 := ⟨kw643, kw17, by decide +kernel⟩
theorem ctX7_takeWhen {G : Gl} {σ : Sg} {d : Dt} {r0 : Nat} {r0t : Nat} {r0h : Nat} {rr : Bool × Dt} (H0 : L7 σ r0 r0t r0h) (h : mX7_takeWhen r0 r0t r0h d = some rr) : CTv G yX7_takeWhen cX7_takeWhen 2 (some .boolean) 8 [.ref (gB G + r0)] σ d [.int (b2i rr.1)] rr.2 := by
  refine CT_of pn_RX7 (Nat.le_of_ble_eq_true rfl) ?_
  rw [mX7_takeWhen] at h
  refine V_aload_n (pc := 0) 0 dX7_takeWhen_0 rfl rfl ?_
  refine V_bipush (pc := 1) (x := (-2)) dX7_takeWhen_1 (by decide) ?_
  refine V_putI (pc := 3) (c := 7) (k := 3) dX7_takeWhen_3 (by decide) (by decide) kw511 rfl rfl rfl ⟨rfl, rfl⟩ (L7_0 H0) ?_
  refine V_aload_n (pc := 6) 0 dX7_takeWhen_6 rfl rfl ?_
  refine V_bipush (pc := 7) (x := (-2)) dX7_takeWhen_7 (by decide) ?_
  refine V_putI (pc := 9) (c := 7) (k := 4) dX7_takeWhen_9 (by decide) (by decide) kw512 rfl rfl rfl ⟨rfl, rfl⟩ (L7_0 H0) ?_
  refine V_aload_n (pc := 12) 0 dX7_takeWhen_12 rfl rfl ?_
  refine V_ldcS (pc := 13) (i := 7) (tx := "with") dX7_takeWhen_13 (by decide) ?_
  obtain ⟨x2, h1, h⟩ := bnd h
  refine V_cV1 (pc := 15) dX7_takeWhen_15 kw540 calX7_reads kw542 ks6 (L7_0 H0) rfl (by decide) (Nat.le_of_ble_eq_true rfl) (ctX7_reads H0 (by decide) h1) ?_
  refine V_istore_n (pc := 18) (lv1 := [(1, _), (0, _)]) dX7_takeWhen_18 rfl (by decide) rfl ?_
  refine V_iload_n (pc := 19) 0 dX7_takeWhen_19 rfl rfl ?_
  refine V_ifB_ne (pc := 20) (tgt := 34) dX7_takeWhen_20 (by decide) (fun c3 => ?_) (fun c3 => ?_)
  · have h := ite_p c3 h
    exact V_sub [1, 0] rfl (wX7_takeWhen_34 H0 h)
  · have h := ite_f c3 h
    refine V_aload_n (pc := 23) 1 dX7_takeWhen_23 rfl rfl ?_
    refine V_ldcS (pc := 24) (i := 8) (tx := "without") dX7_takeWhen_24 (by decide) ?_
    obtain ⟨x5, h4, h⟩ := bnd h
    refine V_cV1 (pc := 26) dX7_takeWhen_26 kw540 calX7_reads kw542 ks6 (L7_0 H0) rfl (by decide) (Nat.le_of_ble_eq_true rfl) (ctX7_reads H0 (by decide) h4) ?_
    refine V_ifB_ne (pc := 29) (tgt := 34) dX7_takeWhen_29 (by decide) (fun c6 => ?_) (fun c6 => ?_)
    · have h := ite_p c6 h
      exact V_sub [1, 0] rfl (wX7_takeWhen_34 H0 h)
    · have h := ite_f c6 h
      refine V_iconst (pc := 32) (x := 1) dX7_takeWhen_32 (by decide) ?_
      cases h
      exact V_ret (pc := 33) dX7_takeWhen_33 ⟨rfl, _, rfl, rfl⟩ ⟨rfl, rfl, rfl⟩
theorem calX6_add : Cal yX6_add cX6_add 7 none 6 := ⟨kw649, kw4, by decide +kernel⟩
theorem ctX6_add {G : Gl} {σ : Sg} {d : Dt} {r0 : Nat} {v1 : Int32} {v2 : Int32} {v3 : Int32} {v4 : Int32} {v5 : Int32} {v6 : Int32} {rr : Dt} (H0 : L6 σ r0) (h : mX6_add r0 v1 v2 v3 v4 v5 v6 d = some rr) : CTv G yX6_add cX6_add 7 none 0 [.ref (gB G + r0), .int v1, .int v2, .int v3, .int v4, .int v5, .int v6] σ d [] rr := by
  refine CT_of pn_RX6 (Nat.le_of_ble_eq_true rfl) ?_
  rw [mX6_add] at h
  refine V_aload_n (pc := 0) 0 dX6_add_0 rfl rfl ?_
  refine V_getI (pc := 1) (c := 6) (k := 0) dX6_add_1 (by decide) (by decide) kw92 rfl rfl (L6_0 H0) ?_
  refine V_bipush (pc := 4) (x := 8) dX6_add_4 (by decide) ?_
  refine V_icmp_ge (pc := 6) (tgt := 82) dX6_add_6 (by decide) (fun c1 => ?_) (fun c1 => ?_)
  · have h := ite_p c1 h
    cases h
    exact V_ret (pc := 82) dX6_add_82 ⟨rfl, rfl⟩ ⟨rfl, rfl, rfl⟩
  · have h := ite_n c1 h
    refine V_aload_n (pc := 9) 0 dX6_add_9 rfl rfl ?_
    refine V_getR (pc := 10) (c := 6) (k := 1) dX6_add_10 (by decide) (by decide) kw97 rfl rfl (L6_0 H0) (L6_r1 H0) ?_
    refine V_aload_n (pc := 13) 0 dX6_add_13 rfl rfl ?_
    refine V_getI (pc := 14) (c := 6) (k := 0) dX6_add_14 (by decide) (by decide) kw92 rfl rfl (L6_0 H0) ?_
    refine V_iload_n (pc := 17) 1 dX6_add_17 rfl rfl ?_
    obtain ⟨b2, h⟩ := ite_o h
    refine V_iast (pc := 18) dX6_add_18 (L6_s1 H0) (inB_vp b2) ?_
    refine V_aload_n (pc := 19) 0 dX6_add_19 rfl rfl ?_
    refine V_getR (pc := 20) (c := 6) (k := 2) dX6_add_20 (by decide) (by decide) kw100 rfl rfl (L6_0 H0) (L6_r2 H0) ?_
    refine V_aload_n (pc := 23) 0 dX6_add_23 rfl rfl ?_
    refine V_getI (pc := 24) (c := 6) (k := 0) dX6_add_24 (by decide) (by decide) kw92 rfl rfl (L6_0 H0) ?_
    refine V_iload_n (pc := 27) 2 dX6_add_27 rfl rfl ?_
    obtain ⟨b3, h⟩ := ite_o h
    refine V_iast (pc := 28) dX6_add_28 (L6_s2 H0) (inB_vp b3) ?_
    refine V_aload_n (pc := 29) 0 dX6_add_29 rfl rfl ?_
    refine V_getR (pc := 30) (c := 6) (k := 3) dX6_add_30 (by decide) (by decide) kw103 rfl rfl (L6_0 H0) (L6_r3 H0) ?_
    refine V_aload_n (pc := 33) 0 dX6_add_33 rfl rfl ?_
    refine V_getI (pc := 34) (c := 6) (k := 0) dX6_add_34 (by decide) (by decide) kw92 rfl rfl (L6_0 H0) ?_
    refine V_iload_n (pc := 37) 3 dX6_add_37 rfl rfl ?_
    obtain ⟨b4, h⟩ := ite_o h
    refine V_iast (pc := 38) dX6_add_38 (L6_s3 H0) (inB_vp b4) ?_
    refine V_aload_n (pc := 39) 0 dX6_add_39 rfl rfl ?_
    refine V_getR (pc := 40) (c := 6) (k := 4) dX6_add_40 (by decide) (by decide) kw106 rfl rfl (L6_0 H0) (L6_r4 H0) ?_
    refine V_aload_n (pc := 43) 0 dX6_add_43 rfl rfl ?_
    refine V_getI (pc := 44) (c := 6) (k := 0) dX6_add_44 (by decide) (by decide) kw92 rfl rfl (L6_0 H0) ?_
    refine V_iload (pc := 47) 4 dX6_add_47 rfl ?_
    obtain ⟨b5, h⟩ := ite_o h
    refine V_iast (pc := 49) dX6_add_49 (L6_s4 H0) (inB_vp b5) ?_
    refine V_aload_n (pc := 50) 0 dX6_add_50 rfl rfl ?_
    refine V_getR (pc := 51) (c := 6) (k := 5) dX6_add_51 (by decide) (by decide) kw109 rfl rfl (L6_0 H0) (L6_r5 H0) ?_
    refine V_aload_n (pc := 54) 0 dX6_add_54 rfl rfl ?_
    refine V_getI (pc := 55) (c := 6) (k := 0) dX6_add_55 (by decide) (by decide) kw92 rfl rfl (L6_0 H0) ?_
    refine V_iload (pc := 58) 5 dX6_add_58 rfl ?_
    obtain ⟨b6, h⟩ := ite_o h
    refine V_iast (pc := 60) dX6_add_60 (L6_s5 H0) (inB_vp b6) ?_
    refine V_aload_n (pc := 61) 0 dX6_add_61 rfl rfl ?_
    refine V_getR (pc := 62) (c := 6) (k := 6) dX6_add_62 (by decide) (by decide) kw112 rfl rfl (L6_0 H0) (L6_r6 H0) ?_
    refine V_aload_n (pc := 65) 0 dX6_add_65 rfl rfl ?_
    refine V_getI (pc := 66) (c := 6) (k := 0) dX6_add_66 (by decide) (by decide) kw92 rfl rfl (L6_0 H0) ?_
    refine V_iload (pc := 69) 6 dX6_add_69 rfl ?_
    obtain ⟨b7, h⟩ := ite_o h
    refine V_iast (pc := 71) dX6_add_71 (L6_s6 H0) (inB_vp b7) ?_
    refine V_aload_n (pc := 72) 0 dX6_add_72 rfl rfl ?_
    refine V_dup (pc := 73) dX6_add_73 rfl ?_
    refine V_getI (pc := 74) (c := 6) (k := 0) dX6_add_74 (by decide) (by decide) kw92 rfl rfl (L6_0 H0) ?_
    refine V_iconst (pc := 77) (x := 1) dX6_add_77 (by decide) ?_
    refine V_iadd (pc := 78) dX6_add_78 ?_
    refine V_putI (pc := 79) (c := 6) (k := 0) dX6_add_79 (by decide) (by decide) kw92 rfl rfl rfl ⟨rfl, rfl⟩ (L6_0 H0) ?_
    cases h
    exact V_ret (pc := 82) dX6_add_82 ⟨rfl, rfl⟩ ⟨rfl, rfl, rfl⟩
theorem calX7_readPlug : Cal yX7_readPlug cX7_readPlug 7 (some .boolean) 0 := ⟨kw635, kw17, by decide +kernel⟩
theorem ctX7_readPlug {G : Gl} {σ : Sg} {d : Dt} {r0 : Nat} {r0t : Nat} {r0h : Nat} {rr : Bool × Dt} (H0 : L7 σ r0 r0t r0h) (h : mX7_readPlug r0 r0t r0h d = some rr) : CTv G yX7_readPlug cX7_readPlug 7 (some .boolean) 9 [.ref (gB G + r0)] σ d [.int (b2i rr.1)] rr.2 := by
  refine CT_of pn_RX7 (Nat.le_of_ble_eq_true rfl) ?_
  rw [mX7_readPlug] at h
  refine V_aload_n (pc := 0) 0 dX7_readPlug_0 rfl rfl ?_
  obtain ⟨x2, h1, h⟩ := bnd h
  refine V_cV0 (pc := 1) dX7_readPlug_1 kw588 calX7_takeNewName kw590 ks15 (L7_0 H0) rfl (by decide) (Nat.le_of_ble_eq_true rfl) (ctX7_takeNewName H0 h1) ?_
  refine V_lstore_n (pc := 4) (lv1 := [(1, _), (0, _)]) dX7_readPlug_4 rfl (by decide) rfl ?_
  refine V_lload_n (pc := 5) 0 dX7_readPlug_5 rfl rfl ?_
  refine V_lconst (pc := 6) (x := 0) dX7_readPlug_6 (by decide) ?_
  refine V_lcmp_eq (pc := 7) (tgt := 20) dX7_readPlug_7 dX7_readPlug_8 (by decide) (fun c3 => ?_) (fun c3 => ?_)
  · have h := ite_p c3 h
    refine V_iconst (pc := 20) (x := 0) dX7_readPlug_20 (by decide) ?_
    cases h
    exact V_ret (pc := 21) dX7_readPlug_21 ⟨rfl, _, rfl, rfl⟩ ⟨rfl, rfl, rfl⟩
  · have h := ite_n c3 h
    refine V_aload_n (pc := 11) 1 dX7_readPlug_11 rfl rfl ?_
    refine V_ldcS (pc := 12) (i := 17) (tx := "on") dX7_readPlug_12 (by decide) ?_
    obtain ⟨x5, h4, h⟩ := bnd h
    refine V_cV1 (pc := 14) dX7_readPlug_14 kw562 calX7_take kw564 ks9 (L7_0 H0) rfl (by decide) (Nat.le_of_ble_eq_true rfl) (ctX7_take H0 (by decide) h4) ?_
    refine V_ifB_ne (pc := 17) (tgt := 22) dX7_readPlug_17 (by decide) (fun c6 => ?_) (fun c6 => ?_)
    · have h := ite_p c6 h
      refine V_aload_n (pc := 22) 1 dX7_readPlug_22 rfl rfl ?_
      refine V_iconst (pc := 23) (x := 0) dX7_readPlug_23 (by decide) ?_
      obtain ⟨x8, h7, h⟩ := bnd h
      refine V_cV1 (pc := 24) dX7_readPlug_24 kw605 calX7_takeNamed kw607 ks17 (L7_0 H0) rfl (by decide) (Nat.le_of_ble_eq_true rfl) (ctX7_takeNamed H0 h7) ?_
      refine V_istore_n (pc := 27) (lv1 := [(3, _), (1, _), (0, _)]) dX7_readPlug_27 rfl (by decide) rfl ?_
      refine V_iload_n (pc := 28) 0 dX7_readPlug_28 rfl rfl ?_
      refine V_if_lt (pc := 29) (tgt := 41) dX7_readPlug_29 (by decide) (fun c9 => ?_) (fun c9 => ?_)
      · have h := ite_p c9 h
        refine V_iconst (pc := 41) (x := 0) dX7_readPlug_41 (by decide) ?_
        cases h
        exact V_ret (pc := 42) dX7_readPlug_42 ⟨rfl, _, rfl, rfl⟩ ⟨rfl, rfl, rfl⟩
      · have h := ite_n c9 h
        refine V_aload_n (pc := 32) 2 dX7_readPlug_32 rfl rfl ?_
        refine V_ldcS (pc := 33) (i := 18) (tx := "holes") dX7_readPlug_33 (by decide) ?_
        obtain ⟨x11, h10, h⟩ := bnd h
        refine V_cV1 (pc := 35) dX7_readPlug_35 kw562 calX7_take kw564 ks9 (L7_0 H0) rfl (by decide) (Nat.le_of_ble_eq_true rfl) (ctX7_take H0 (by decide) h10) ?_
        refine V_ifB_ne (pc := 38) (tgt := 43) dX7_readPlug_38 (by decide) (fun c12 => ?_) (fun c12 => ?_)
        · have h := ite_p c12 h
          refine V_aload_n (pc := 43) 2 dX7_readPlug_43 rfl rfl ?_
          refine V_iconst (pc := 44) (x := 1) dX7_readPlug_44 (by decide) ?_
          refine V_bipush (pc := 45) (x := 12) dX7_readPlug_45 (by decide) ?_
          obtain ⟨x14, h13, h⟩ := bnd h
          refine V_cV2 (pc := 47) dX7_readPlug_47 kw566 calX7_takeWhole kw568 ks10 (L7_0 H0) rfl (by decide) (Nat.le_of_ble_eq_true rfl) (ctX7_takeWhole H0 h13) ?_
          refine V_istore (pc := 50) (lv1 := [(4, _), (3, _), (1, _), (0, _)]) dX7_readPlug_50 (by decide) rfl ?_
          refine V_iload (pc := 52) 0 dX7_readPlug_52 rfl ?_
          refine V_if_lt (pc := 54) (tgt := 66) dX7_readPlug_54 (by decide) (fun c15 => ?_) (fun c15 => ?_)
          · have h := ite_p c15 h
            refine V_iconst (pc := 66) (x := 0) dX7_readPlug_66 (by decide) ?_
            cases h
            exact V_ret (pc := 67) dX7_readPlug_67 ⟨rfl, _, rfl, rfl⟩ ⟨rfl, rfl, rfl⟩
          · have h := ite_n c15 h
            refine V_aload_n (pc := 57) 3 dX7_readPlug_57 rfl rfl ?_
            refine V_ldcS (pc := 58) (i := 19) (tx := "gauge") dX7_readPlug_58 (by decide) ?_
            obtain ⟨x17, h16, h⟩ := bnd h
            refine V_cV1 (pc := 60) dX7_readPlug_60 kw562 calX7_take kw564 ks9 (L7_0 H0) rfl (by decide) (Nat.le_of_ble_eq_true rfl) (ctX7_take H0 (by decide) h16) ?_
            refine V_ifB_ne (pc := 63) (tgt := 68) dX7_readPlug_63 (by decide) (fun c18 => ?_) (fun c18 => ?_)
            · have h := ite_p c18 h
              refine V_aload_n (pc := 68) 3 dX7_readPlug_68 rfl rfl ?_
              refine V_iconst (pc := 69) (x := 1) dX7_readPlug_69 (by decide) ?_
              refine V_bipush (pc := 70) (x := 9) dX7_readPlug_70 (by decide) ?_
              obtain ⟨x20, h19, h⟩ := bnd h
              refine V_cV2 (pc := 72) dX7_readPlug_72 kw566 calX7_takeWhole kw568 ks10 (L7_0 H0) rfl (by decide) (Nat.le_of_ble_eq_true rfl) (ctX7_takeWhole H0 h19) ?_
              refine V_istore (pc := 75) (lv1 := [(5, _), (4, _), (3, _), (1, _), (0, _)]) dX7_readPlug_75 (by decide) rfl ?_
              refine V_iload (pc := 77) 0 dX7_readPlug_77 rfl ?_
              refine V_if_lt (pc := 79) (tgt := 91) dX7_readPlug_79 (by decide) (fun c21 => ?_) (fun c21 => ?_)
              · have h := ite_p c21 h
                refine V_iconst (pc := 91) (x := 0) dX7_readPlug_91 (by decide) ?_
                cases h
                exact V_ret (pc := 92) dX7_readPlug_92 ⟨rfl, _, rfl, rfl⟩ ⟨rfl, rfl, rfl⟩
              · have h := ite_n c21 h
                refine V_aload_n (pc := 82) 4 dX7_readPlug_82 rfl rfl ?_
                refine V_ldcS (pc := 83) (i := 20) (tx := "to") dX7_readPlug_83 (by decide) ?_
                obtain ⟨x23, h22, h⟩ := bnd h
                refine V_cV1 (pc := 85) dX7_readPlug_85 kw562 calX7_take kw564 ks9 (L7_0 H0) rfl (by decide) (Nat.le_of_ble_eq_true rfl) (ctX7_take H0 (by decide) h22) ?_
                refine V_ifB_ne (pc := 88) (tgt := 93) dX7_readPlug_88 (by decide) (fun c24 => ?_) (fun c24 => ?_)
                · have h := ite_p c24 h
                  refine V_aload_n (pc := 93) 4 dX7_readPlug_93 rfl rfl ?_
                  refine V_iload (pc := 94) 0 dX7_readPlug_94 rfl ?_
                  refine V_bipush (pc := 96) (x := 9) dX7_readPlug_96 (by decide) ?_
                  obtain ⟨x26, h25, h⟩ := bnd h
                  refine V_cV2 (pc := 98) dX7_readPlug_98 kw566 calX7_takeWhole kw568 ks10 (L7_0 H0) rfl (by decide) (Nat.le_of_ble_eq_true rfl) (ctX7_takeWhole H0 h25) ?_
                  refine V_istore (pc := 101) (lv1 := [(6, _), (5, _), (4, _), (3, _), (1, _), (0, _)]) dX7_readPlug_101 (by decide) rfl ?_
                  refine V_iload (pc := 103) 0 dX7_readPlug_103 rfl ?_
                  refine V_if_lt (pc := 105) (tgt := 115) dX7_readPlug_105 (by decide) (fun c27 => ?_) (fun c27 => ?_)
                  · have h := ite_p c27 h
                    refine V_iconst (pc := 115) (x := 0) dX7_readPlug_115 (by decide) ?_
                    cases h
                    exact V_ret (pc := 116) dX7_readPlug_116 ⟨rfl, _, rfl, rfl⟩ ⟨rfl, rfl, rfl⟩
                  · have h := ite_n c27 h
                    refine V_aload_n (pc := 108) 5 dX7_readPlug_108 rfl rfl ?_
                    obtain ⟨x29, h28, h⟩ := bnd h
                    refine V_cV0 (pc := 109) dX7_readPlug_109 kw640 calX7_takeWhen kw642 ks22 (L7_0 H0) rfl (by decide) (Nat.le_of_ble_eq_true rfl) (ctX7_takeWhen H0 h28) ?_
                    refine V_ifB_ne (pc := 112) (tgt := 117) dX7_readPlug_112 (by decide) (fun c30 => ?_) (fun c30 => ?_)
                    · have h := ite_p c30 h
                      refine V_aload_n (pc := 117) 5 dX7_readPlug_117 rfl rfl ?_
                      refine V_getR (pc := 118) (c := 7) (k := 1) dX7_readPlug_118 (by decide) (by decide) kw509 rfl rfl (L7_0 H0) (L7_r1 H0) ?_
                      refine V_lload_n (pc := 121) 4 dX7_readPlug_121 rfl rfl ?_
                      refine V_sipush (pc := 122) (x := 200) dX7_readPlug_122 (by decide) ?_
                      refine V_aload_n (pc := 125) 5 dX7_readPlug_125 rfl rfl ?_
                      refine V_getR (pc := 126) (c := 7) (k := 1) dX7_readPlug_126 (by decide) (by decide) kw509 rfl rfl (L7_0 H0) (L7_r1 H0) ?_
                      refine V_getR (pc := 129) (c := 4) (k := 7) dX7_readPlug_129 (by decide) (by decide) kw240 rfl rfl (L4_0 (L7_o1 H0)) (L4_r7 (L7_o1 H0)) ?_
                      refine V_getI (pc := 132) (c := 6) (k := 0) dX7_readPlug_132 (by decide) (by decide) kw96 rfl rfl (L6_0 (L4_o7 (L7_o1 H0))) ?_
                      refine V_iadd (pc := 135) dX7_readPlug_135 ?_
                      obtain ⟨x32, h31, h⟩ := bnd h
                      refine V_cV2 (pc := 136) dX7_readPlug_136 kw622 calX4_addName kw623 kw624 (L4_0 (L7_o1 H0)) rfl (by decide) (Nat.le_of_ble_eq_true rfl) (ctX4_addName (L7_o1 H0) h31) ?_
                      refine V_aload_n (pc := 139) 5 dX7_readPlug_139 rfl rfl ?_
                      refine V_getR (pc := 140) (c := 7) (k := 1) dX7_readPlug_140 (by decide) (by decide) kw509 rfl rfl (L7_0 H0) (L7_r1 H0) ?_
                      refine V_getR (pc := 143) (c := 4) (k := 7) dX7_readPlug_143 (by decide) (by decide) kw240 rfl rfl (L4_0 (L7_o1 H0)) (L4_r7 (L7_o1 H0)) ?_
                      refine V_iload_n (pc := 146) 3 dX7_readPlug_146 rfl rfl ?_
                      refine V_iload (pc := 147) 2 dX7_readPlug_147 rfl ?_
                      refine V_iload (pc := 149) 1 dX7_readPlug_149 rfl ?_
                      refine V_iload (pc := 151) 0 dX7_readPlug_151 rfl ?_
                      refine V_aload_n (pc := 153) 5 dX7_readPlug_153 rfl rfl ?_
                      refine V_getI (pc := 154) (c := 7) (k := 3) dX7_readPlug_154 (by decide) (by decide) kw511 rfl rfl (L7_0 H0) ?_
                      refine V_aload_n (pc := 157) 5 dX7_readPlug_157 rfl rfl ?_
                      refine V_getI (pc := 158) (c := 7) (k := 4) dX7_readPlug_158 (by decide) (by decide) kw512 rfl rfl (L7_0 H0) ?_
                      obtain ⟨x34, h33, h⟩ := bnd h
                      refine V_cV6 (pc := 161) dX7_readPlug_161 kw646 calX6_add kw647 kw648 (L6_0 (L4_o7 (L7_o1 H0))) rfl (by decide) (Nat.le_of_ble_eq_true rfl) (ctX6_add (L4_o7 (L7_o1 H0)) h33) ?_
                      refine V_aload_n (pc := 164) 5 dX7_readPlug_164 rfl rfl ?_
                      obtain ⟨x36, h35, h⟩ := bnd h
                      refine V_cV0 (pc := 165) dX7_readPlug_165 kw575 calX7_lineEnds kw577 ks12 (L7_0 H0) rfl (by decide) (Nat.le_of_ble_eq_true rfl) (ctX7_lineEnds H0 h35) ?_
                      cases h
                      exact V_ret (pc := 168) dX7_readPlug_168 ⟨rfl, _, rfl, b2i_nar _⟩ ⟨rfl, rfl, rfl⟩
                    · have h := ite_f c30 h
                      refine V_iconst (pc := 115) (x := 0) dX7_readPlug_115 (by decide) ?_
                      cases h
                      exact V_ret (pc := 116) dX7_readPlug_116 ⟨rfl, _, rfl, rfl⟩ ⟨rfl, rfl, rfl⟩
                · have h := ite_f c24 h
                  refine V_iconst (pc := 91) (x := 0) dX7_readPlug_91 (by decide) ?_
                  cases h
                  exact V_ret (pc := 92) dX7_readPlug_92 ⟨rfl, _, rfl, rfl⟩ ⟨rfl, rfl, rfl⟩
            · have h := ite_f c18 h
              refine V_iconst (pc := 66) (x := 0) dX7_readPlug_66 (by decide) ?_
              cases h
              exact V_ret (pc := 67) dX7_readPlug_67 ⟨rfl, _, rfl, rfl⟩ ⟨rfl, rfl, rfl⟩
        · have h := ite_f c12 h
          refine V_iconst (pc := 41) (x := 0) dX7_readPlug_41 (by decide) ?_
          cases h
          exact V_ret (pc := 42) dX7_readPlug_42 ⟨rfl, _, rfl, rfl⟩ ⟨rfl, rfl, rfl⟩
    · have h := ite_f c6 h
      refine V_iconst (pc := 20) (x := 0) dX7_readPlug_20 (by decide) ?_
      cases h
      exact V_ret (pc := 21) dX7_readPlug_21 ⟨rfl, _, rfl, rfl⟩ ⟨rfl, rfl, rfl⟩
theorem calX7_takeKind : Cal yX7_takeKind cX7_takeKind 2 (some .int) 0 := ⟨kw658, kw17, by decide +kernel⟩
theorem ctX7_takeKind {G : Gl} {σ : Sg} {d : Dt} {r0 : Nat} {r0t : Nat} {r0h : Nat} {rr : Int32 × Dt} (H0 : L7 σ r0 r0t r0h) (h : mX7_takeKind r0 r0t r0h d = some rr) : CTv G yX7_takeKind cX7_takeKind 2 (some .int) 8 [.ref (gB G + r0)] σ d [.int rr.1] rr.2 := by
  refine CT_of pn_RX7 (Nat.le_of_ble_eq_true rfl) ?_
  rw [mX7_takeKind] at h
  refine V_aload_n (pc := 0) 0 dX7_takeKind_0 rfl rfl ?_
  refine V_ldcS (pc := 1) (i := 21) (tx := "power") dX7_takeKind_1 (by decide) ?_
  obtain ⟨x2, h1, h⟩ := bnd h
  refine V_cV1 (pc := 3) dX7_takeKind_3 kw540 calX7_reads kw542 ks6 (L7_0 H0) rfl (by decide) (Nat.le_of_ble_eq_true rfl) (ctX7_reads H0 (by decide) h1) ?_
  refine V_ifB_eq (pc := 6) (tgt := 13) dX7_takeKind_6 (by decide) (fun c3 => ?_) (fun c3 => ?_)
  · have h := ite_f c3 h
    refine V_aload_n (pc := 13) 0 dX7_takeKind_13 rfl rfl ?_
    refine V_ldcS (pc := 14) (i := 22) (tx := "signal") dX7_takeKind_14 (by decide) ?_
    obtain ⟨x5, h4, h⟩ := bnd h
    refine V_cV1 (pc := 16) dX7_takeKind_16 kw540 calX7_reads kw542 ks6 (L7_0 H0) rfl (by decide) (Nat.le_of_ble_eq_true rfl) (ctX7_reads H0 (by decide) h4) ?_
    refine V_ifB_eq (pc := 19) (tgt := 26) dX7_takeKind_19 (by decide) (fun c6 => ?_) (fun c6 => ?_)
    · have h := ite_f c6 h
      refine V_aload_n (pc := 26) 0 dX7_takeKind_26 rfl rfl ?_
      refine V_ldcS (pc := 27) (i := 23) (tx := "ground") dX7_takeKind_27 (by decide) ?_
      obtain ⟨x8, h7, h⟩ := bnd h
      refine V_cV1 (pc := 29) dX7_takeKind_29 kw540 calX7_reads kw542 ks6 (L7_0 H0) rfl (by decide) (Nat.le_of_ble_eq_true rfl) (ctX7_reads H0 (by decide) h7) ?_
      refine V_ifB_eq (pc := 32) (tgt := 39) dX7_takeKind_32 (by decide) (fun c9 => ?_) (fun c9 => ?_)
      · have h := ite_f c9 h
        refine V_iconst (pc := 39) (x := (-1)) dX7_takeKind_39 (by decide) ?_
        refine V_istore_n (pc := 40) (lv1 := [(1, _), (0, _)]) dX7_takeKind_40 rfl (by decide) rfl ?_
        refine V_aload_n (pc := 41) 1 dX7_takeKind_41 rfl rfl ?_
        refine V_iload_n (pc := 42) 0 dX7_takeKind_42 rfl rfl ?_
        refine V_cV1 (pc := 43) dX7_takeKind_43 kw617 calX7_takeChoice kw619 ks19 (L7_0 H0) rfl (by decide) (Nat.le_of_ble_eq_true rfl) (ctX7_takeChoice H0) ?_
        cases h
        exact V_ret (pc := 46) dX7_takeKind_46 ⟨rfl, _, rfl⟩ ⟨rfl, rfl, rfl⟩
      · have h := ite_p c9 h
        refine V_iconst (pc := 35) (x := 2) dX7_takeKind_35 (by decide) ?_
        refine V_goto (pc := 36) (tgt := 40) dX7_takeKind_36 (by decide) ?_
        refine V_istore_n (pc := 40) (lv1 := [(1, _), (0, _)]) dX7_takeKind_40 rfl (by decide) rfl ?_
        refine V_aload_n (pc := 41) 1 dX7_takeKind_41 rfl rfl ?_
        refine V_iload_n (pc := 42) 0 dX7_takeKind_42 rfl rfl ?_
        refine V_cV1 (pc := 43) dX7_takeKind_43 kw617 calX7_takeChoice kw619 ks19 (L7_0 H0) rfl (by decide) (Nat.le_of_ble_eq_true rfl) (ctX7_takeChoice H0) ?_
        cases h
        exact V_ret (pc := 46) dX7_takeKind_46 ⟨rfl, _, rfl⟩ ⟨rfl, rfl, rfl⟩
    · have h := ite_p c6 h
      refine V_iconst (pc := 22) (x := 1) dX7_takeKind_22 (by decide) ?_
      refine V_goto (pc := 23) (tgt := 40) dX7_takeKind_23 (by decide) ?_
      refine V_istore_n (pc := 40) (lv1 := [(1, _), (0, _)]) dX7_takeKind_40 rfl (by decide) rfl ?_
      refine V_aload_n (pc := 41) 1 dX7_takeKind_41 rfl rfl ?_
      refine V_iload_n (pc := 42) 0 dX7_takeKind_42 rfl rfl ?_
      refine V_cV1 (pc := 43) dX7_takeKind_43 kw617 calX7_takeChoice kw619 ks19 (L7_0 H0) rfl (by decide) (Nat.le_of_ble_eq_true rfl) (ctX7_takeChoice H0) ?_
      cases h
      exact V_ret (pc := 46) dX7_takeKind_46 ⟨rfl, _, rfl⟩ ⟨rfl, rfl, rfl⟩
  · have h := ite_p c3 h
    refine V_iconst (pc := 9) (x := 0) dX7_takeKind_9 (by decide) ?_
    refine V_goto (pc := 10) (tgt := 40) dX7_takeKind_10 (by decide) ?_
    refine V_istore_n (pc := 40) (lv1 := [(1, _), (0, _)]) dX7_takeKind_40 rfl (by decide) rfl ?_
    refine V_aload_n (pc := 41) 1 dX7_takeKind_41 rfl rfl ?_
    refine V_iload_n (pc := 42) 0 dX7_takeKind_42 rfl rfl ?_
    refine V_cV1 (pc := 43) dX7_takeKind_43 kw617 calX7_takeChoice kw619 ks19 (L7_0 H0) rfl (by decide) (Nat.le_of_ble_eq_true rfl) (ctX7_takeChoice H0) ?_
    cases h
    exact V_ret (pc := 46) dX7_takeKind_46 ⟨rfl, _, rfl⟩ ⟨rfl, rfl, rfl⟩
theorem calX5_add : Cal yX5_add cX5_add 5 none 4 := ⟨kw666, kw5, by decide +kernel⟩
theorem ctX5_add {G : Gl} {σ : Sg} {d : Dt} {r0 : Nat} {v1 : Int32} {v2 : Int32} {v3 : Int32} {v4 : Int32} {rr : Dt} (H0 : L5 σ r0) (h : mX5_add r0 v1 v2 v3 v4 d = some rr) : CTv G yX5_add cX5_add 5 none 0 [.ref (gB G + r0), .int v1, .int v2, .int v3, .int v4] σ d [] rr := by
  refine CT_of pn_RX5 (Nat.le_of_ble_eq_true rfl) ?_
  rw [mX5_add] at h
  refine V_aload_n (pc := 0) 0 dX5_add_0 rfl rfl ?_
  refine V_getI (pc := 1) (c := 5) (k := 0) dX5_add_1 (by decide) (by decide) kw137 rfl rfl (L5_0 H0) ?_
  refine V_bipush (pc := 4) (x := 10) dX5_add_4 (by decide) ?_
  refine V_icmp_ge (pc := 6) (tgt := 81) dX5_add_6 (by decide) (fun c1 => ?_) (fun c1 => ?_)
  · have h := ite_p c1 h
    cases h
    exact V_ret (pc := 81) dX5_add_81 ⟨rfl, rfl⟩ ⟨rfl, rfl, rfl⟩
  · have h := ite_n c1 h
    refine V_aload_n (pc := 9) 0 dX5_add_9 rfl rfl ?_
    refine V_getR (pc := 10) (c := 5) (k := 1) dX5_add_10 (by decide) (by decide) kw144 rfl rfl (L5_0 H0) (L5_r1 H0) ?_
    refine V_aload_n (pc := 13) 0 dX5_add_13 rfl rfl ?_
    refine V_getI (pc := 14) (c := 5) (k := 0) dX5_add_14 (by decide) (by decide) kw137 rfl rfl (L5_0 H0) ?_
    refine V_iload_n (pc := 17) 1 dX5_add_17 rfl rfl ?_
    obtain ⟨b2, h⟩ := ite_o h
    refine V_iast (pc := 18) dX5_add_18 (L5_s1 H0) (inB_vp b2) ?_
    refine V_aload_n (pc := 19) 0 dX5_add_19 rfl rfl ?_
    refine V_getR (pc := 20) (c := 5) (k := 2) dX5_add_20 (by decide) (by decide) kw147 rfl rfl (L5_0 H0) (L5_r2 H0) ?_
    refine V_aload_n (pc := 23) 0 dX5_add_23 rfl rfl ?_
    refine V_getI (pc := 24) (c := 5) (k := 0) dX5_add_24 (by decide) (by decide) kw137 rfl rfl (L5_0 H0) ?_
    refine V_iload_n (pc := 27) 2 dX5_add_27 rfl rfl ?_
    obtain ⟨b3, h⟩ := ite_o h
    refine V_iast (pc := 28) dX5_add_28 (L5_s2 H0) (inB_vp b3) ?_
    refine V_aload_n (pc := 29) 0 dX5_add_29 rfl rfl ?_
    refine V_getR (pc := 30) (c := 5) (k := 3) dX5_add_30 (by decide) (by decide) kw151 rfl rfl (L5_0 H0) (L5_r3 H0) ?_
    refine V_aload_n (pc := 33) 0 dX5_add_33 rfl rfl ?_
    refine V_getI (pc := 34) (c := 5) (k := 0) dX5_add_34 (by decide) (by decide) kw137 rfl rfl (L5_0 H0) ?_
    refine V_iconst (pc := 37) (x := 0) dX5_add_37 (by decide) ?_
    obtain ⟨b4, h⟩ := ite_o h
    refine V_iast (pc := 38) dX5_add_38 (L5_s3 H0) (inB_vp b4) ?_
    refine V_aload_n (pc := 39) 0 dX5_add_39 rfl rfl ?_
    refine V_getR (pc := 40) (c := 5) (k := 4) dX5_add_40 (by decide) (by decide) kw155 rfl rfl (L5_0 H0) (L5_r4 H0) ?_
    refine V_aload_n (pc := 43) 0 dX5_add_43 rfl rfl ?_
    refine V_getI (pc := 44) (c := 5) (k := 0) dX5_add_44 (by decide) (by decide) kw137 rfl rfl (L5_0 H0) ?_
    refine V_iload_n (pc := 47) 3 dX5_add_47 rfl rfl ?_
    obtain ⟨b5, h⟩ := ite_o h
    refine V_iast (pc := 48) dX5_add_48 (L5_s4 H0) (inB_vp b5) ?_
    refine V_aload_n (pc := 49) 0 dX5_add_49 rfl rfl ?_
    refine V_getR (pc := 50) (c := 5) (k := 5) dX5_add_50 (by decide) (by decide) kw158 rfl rfl (L5_0 H0) (L5_r5 H0) ?_
    refine V_aload_n (pc := 53) 0 dX5_add_53 rfl rfl ?_
    refine V_getI (pc := 54) (c := 5) (k := 0) dX5_add_54 (by decide) (by decide) kw137 rfl rfl (L5_0 H0) ?_
    refine V_iload (pc := 57) 4 dX5_add_57 rfl ?_
    obtain ⟨b6, h⟩ := ite_o h
    refine V_iast (pc := 59) dX5_add_59 (L5_s5 H0) (inB_vp b6) ?_
    refine V_aload_n (pc := 60) 0 dX5_add_60 rfl rfl ?_
    refine V_getR (pc := 61) (c := 5) (k := 6) dX5_add_61 (by decide) (by decide) kw161 rfl rfl (L5_0 H0) (L5_r6 H0) ?_
    refine V_aload_n (pc := 64) 0 dX5_add_64 rfl rfl ?_
    refine V_getI (pc := 65) (c := 5) (k := 0) dX5_add_65 (by decide) (by decide) kw137 rfl rfl (L5_0 H0) ?_
    refine V_bipush (pc := 68) (x := (-2)) dX5_add_68 (by decide) ?_
    obtain ⟨b7, h⟩ := ite_o h
    refine V_iast (pc := 70) dX5_add_70 (L5_s6 H0) (inB_vp b7) ?_
    refine V_aload_n (pc := 71) 0 dX5_add_71 rfl rfl ?_
    refine V_dup (pc := 72) dX5_add_72 rfl ?_
    refine V_getI (pc := 73) (c := 5) (k := 0) dX5_add_73 (by decide) (by decide) kw137 rfl rfl (L5_0 H0) ?_
    refine V_iconst (pc := 76) (x := 1) dX5_add_76 (by decide) ?_
    refine V_iadd (pc := 77) dX5_add_77 ?_
    refine V_putI (pc := 78) (c := 5) (k := 0) dX5_add_78 (by decide) (by decide) kw137 rfl rfl rfl ⟨rfl, rfl⟩ (L5_0 H0) ?_
    cases h
    exact V_ret (pc := 81) dX5_add_81 ⟨rfl, rfl⟩ ⟨rfl, rfl, rfl⟩
theorem calX5_addPin : Cal yX5_addPin cX5_addPin 6 none 4 := ⟨kw681, kw5, by decide +kernel⟩
theorem ctX5_addPin {G : Gl} {σ : Sg} {d : Dt} {r0 : Nat} {v1 : Int32} {v2 : Int32} {v3 : Int32} {v4 : Int32} {rr : Dt} (H0 : L5 σ r0) (h : mX5_addPin r0 v1 v2 v3 v4 d = some rr) : CTv G yX5_addPin cX5_addPin 6 none 0 [.ref (gB G + r0), .int v1, .int v2, .int v3, .int v4] σ d [] rr := by
  refine CT_of pn_RX5 (Nat.le_of_ble_eq_true rfl) ?_
  rw [mX5_addPin] at h
  refine V_aload_n (pc := 0) 0 dX5_addPin_0 rfl rfl ?_
  refine V_getR (pc := 1) (c := 5) (k := 3) dX5_addPin_1 (by decide) (by decide) kw151 rfl rfl (L5_0 H0) (L5_r3 H0) ?_
  refine V_iload_n (pc := 4) 1 dX5_addPin_4 rfl rfl ?_
  obtain ⟨b1, h⟩ := ite_o h
  refine V_iald (pc := 5) dX5_addPin_5 (L5_s3 H0) (inB_vp b1) ?_
  refine V_istore (pc := 6) (lv1 := [(5, _), (0, _), (1, _), (2, _), (3, _), (4, _)]) dX5_addPin_6 (by decide) rfl ?_
  refine V_iload (pc := 8) 0 dX5_addPin_8 rfl ?_
  refine V_iconst (pc := 10) (x := 5) dX5_addPin_10 (by decide) ?_
  refine V_icmp_ge (pc := 11) (tgt := 55) dX5_addPin_11 (by decide) (fun c2 => ?_) (fun c2 => ?_)
  · have h := ite_p c2 h
    cases h
    exact V_ret (pc := 55) dX5_addPin_55 ⟨rfl, rfl⟩ ⟨rfl, rfl, rfl⟩
  · have h := ite_n c2 h
    refine V_aload_n (pc := 14) 1 dX5_addPin_14 rfl rfl ?_
    refine V_getR (pc := 15) (c := 5) (k := 7) dX5_addPin_15 (by decide) (by decide) kw164 rfl rfl (L5_0 H0) (L5_r7 H0) ?_
    refine V_iload_n (pc := 18) 2 dX5_addPin_18 rfl rfl ?_
    obtain ⟨b3, h⟩ := ite_o h
    refine V_aald (pc := 19) dX5_addPin_19 (⟨L5_s7 H0, L5_g7 H0⟩ : GR σ _ _ _).1 (inB_vp b3) ((⟨L5_s7 H0, L5_g7 H0⟩ : GR σ _ _ _).2 _ (inB_lt b3)).1 ?_
    refine V_iload (pc := 20) 0 dX5_addPin_20 rfl ?_
    refine V_iload_n (pc := 22) 3 dX5_addPin_22 rfl rfl ?_
    obtain ⟨b4, h⟩ := ite_o h
    refine V_iast (pc := 23) dX5_addPin_23 ((⟨L5_s7 H0, L5_g7 H0⟩ : GR σ _ _ _).2 _ (inB_lt b3)).2 (inB_vp b4) ?_
    refine V_aload_n (pc := 24) 1 dX5_addPin_24 rfl rfl ?_
    refine V_getR (pc := 25) (c := 5) (k := 8) dX5_addPin_25 (by decide) (by decide) kw168 rfl rfl (L5_0 H0) (L5_r8 H0) ?_
    refine V_iload_n (pc := 28) 2 dX5_addPin_28 rfl rfl ?_
    obtain ⟨b5, h⟩ := ite_o h
    refine V_aald (pc := 29) dX5_addPin_29 (⟨L5_s8 H0, L5_g8 H0⟩ : GR σ _ _ _).1 (inB_vp b5) ((⟨L5_s8 H0, L5_g8 H0⟩ : GR σ _ _ _).2 _ (inB_lt b5)).1 ?_
    refine V_iload (pc := 30) 0 dX5_addPin_30 rfl ?_
    refine V_iload_n (pc := 32) 4 dX5_addPin_32 rfl rfl ?_
    obtain ⟨b6, h⟩ := ite_o h
    refine V_iast (pc := 33) dX5_addPin_33 ((⟨L5_s8 H0, L5_g8 H0⟩ : GR σ _ _ _).2 _ (inB_lt b5)).2 (inB_vp b6) ?_
    refine V_aload_n (pc := 34) 1 dX5_addPin_34 rfl rfl ?_
    refine V_getR (pc := 35) (c := 5) (k := 9) dX5_addPin_35 (by decide) (by decide) kw171 rfl rfl (L5_0 H0) (L5_r9 H0) ?_
    refine V_iload_n (pc := 38) 2 dX5_addPin_38 rfl rfl ?_
    obtain ⟨b7, h⟩ := ite_o h
    refine V_aald (pc := 39) dX5_addPin_39 (⟨L5_s9 H0, L5_g9 H0⟩ : GR σ _ _ _).1 (inB_vp b7) ((⟨L5_s9 H0, L5_g9 H0⟩ : GR σ _ _ _).2 _ (inB_lt b7)).1 ?_
    refine V_iload (pc := 40) 0 dX5_addPin_40 rfl ?_
    refine V_iload (pc := 42) 5 dX5_addPin_42 rfl ?_
    obtain ⟨b8, h⟩ := ite_o h
    refine V_iast (pc := 44) dX5_addPin_44 ((⟨L5_s9 H0, L5_g9 H0⟩ : GR σ _ _ _).2 _ (inB_lt b7)).2 (inB_vp b8) ?_
    refine V_aload_n (pc := 45) 1 dX5_addPin_45 rfl rfl ?_
    refine V_getR (pc := 46) (c := 5) (k := 3) dX5_addPin_46 (by decide) (by decide) kw151 rfl rfl (L5_0 H0) (L5_r3 H0) ?_
    refine V_iload_n (pc := 49) 2 dX5_addPin_49 rfl rfl ?_
    refine V_iload (pc := 50) 0 dX5_addPin_50 rfl ?_
    refine V_iconst (pc := 52) (x := 1) dX5_addPin_52 (by decide) ?_
    refine V_iadd (pc := 53) dX5_addPin_53 ?_
    obtain ⟨b9, h⟩ := ite_o h
    refine V_iast (pc := 54) dX5_addPin_54 (L5_s3 H0) (inB_vp b9) ?_
    cases h
    exact V_ret (pc := 55) dX5_addPin_55 ⟨rfl, rfl⟩ ⟨rfl, rfl, rfl⟩
