theorem wX7_readPins_114 {G : Gl} {σ : Sg} {d : Dt} {g2 : Int32 → Dt → Option (Bool × Dt)} {r0 : Nat} {r0t : Nat} {r0h : Nat} {v1 : Int32} {v2 : Int32} {v3 : Int32} {rr : Bool × Dt} (H0 : L7 σ r0 r0t r0h) (hg2 : ∀ (v2 : Int32) (d : Dt), g2 v2 d = some rr → V G yX7_readPins cX7_readPins 5 (some .boolean) 3 0 0 (PH [.int (b2i rr.1)] σ rr.2) 2 [(0, .ref (gB G + r0)), (1, .int v1), (2, .int v2)] [] σ d) (h : mX7_readPins_114 g2 r0 r0t r0h v1 v2 v3 d = some rr) : V G yX7_readPins cX7_readPins 5 (some .boolean) 3 0 0 (PH [.int (b2i rr.1)] σ rr.2) 114 [(0, .ref (gB G + r0)), (1, .int v1), (2, .int v2), (3, .int v3)] [] σ d := by
  rw [mX7_readPins_114] at h
  refine V_aload_n (pc := 114) 0 dX7_readPins_114 rfl rfl ?_
  refine V_iconst (pc := 115) (x := 0) dX7_readPins_115 (by decide) ?_
  refine V_aload_n (pc := 116) 0 dX7_readPins_116 rfl rfl ?_
  refine V_getR (pc := 117) (c := 7) (k := 1) dX7_readPins_117 (by decide) (by decide) kw509 rfl rfl (L7_0 H0) (L7_r1 H0) ?_
  refine V_getR (pc := 120) (c := 4) (k := 7) dX7_readPins_120 (by decide) (by decide) kw240 rfl rfl (L4_0 (L7_o1 H0)) (L4_r7 (L7_o1 H0)) ?_
  refine V_getR (pc := 123) (c := 6) (k := 2) dX7_readPins_123 (by decide) (by decide) kw102 rfl rfl (L6_0 (L4_o7 (L7_o1 H0))) (L6_r2 (L4_o7 (L7_o1 H0))) ?_
  refine V_iload_n (pc := 126) 3 dX7_readPins_126 rfl rfl ?_
  obtain ⟨b27, h⟩ := ite_o h
  refine V_iald (pc := 127) dX7_readPins_127 (L6_s2 (L4_o7 (L7_o1 H0))) (inB_vp b27) ?_
  refine V_iconst (pc := 128) (x := 1) dX7_readPins_128 (by decide) ?_
  refine V_isub (pc := 129) dX7_readPins_129 ?_
  obtain ⟨x29, h28, h⟩ := bnd h
  refine V_cV2 (pc := 130) dX7_readPins_130 kw566 calX7_takeWhole kw568 ks10 (L7_0 H0) rfl (by decide) (Nat.le_of_ble_eq_true rfl) (ctX7_takeWhole H0 h28) ?_
  refine V_istore (pc := 133) (lv1 := [(4, _), (0, _), (1, _), (2, _), (3, _)]) dX7_readPins_133 (by decide) rfl ?_
  refine V_iload (pc := 135) 0 dX7_readPins_135 rfl ?_
  refine V_if_ge (pc := 137) (tgt := 142) dX7_readPins_137 (by decide) (fun c30 => ?_) (fun c30 => ?_)
  · have h := ite_p c30 h
    refine V_aload_n (pc := 142) 1 dX7_readPins_142 rfl rfl ?_
    refine V_getR (pc := 143) (c := 7) (k := 1) dX7_readPins_143 (by decide) (by decide) kw509 rfl rfl (L7_0 H0) (L7_r1 H0) ?_
    refine V_getR (pc := 146) (c := 4) (k := 8) dX7_readPins_146 (by decide) (by decide) kw243 rfl rfl (L4_0 (L7_o1 H0)) (L4_r8 (L7_o1 H0)) ?_
    refine V_iload_n (pc := 149) 2 dX7_readPins_149 rfl rfl ?_
    refine V_iload_n (pc := 150) 4 dX7_readPins_150 rfl rfl ?_
    refine V_iload (pc := 151) 0 dX7_readPins_151 rfl ?_
    refine V_aload_n (pc := 153) 1 dX7_readPins_153 rfl rfl ?_
    refine V_getR (pc := 154) (c := 7) (k := 1) dX7_readPins_154 (by decide) (by decide) kw509 rfl rfl (L7_0 H0) (L7_r1 H0) ?_
    refine V_getR (pc := 157) (c := 4) (k := 7) dX7_readPins_157 (by decide) (by decide) kw240 rfl rfl (L4_0 (L7_o1 H0)) (L4_r7 (L7_o1 H0)) ?_
    refine V_getR (pc := 160) (c := 6) (k := 1) dX7_readPins_160 (by decide) (by decide) kw99 rfl rfl (L6_0 (L4_o7 (L7_o1 H0))) (L6_r1 (L4_o7 (L7_o1 H0))) ?_
    refine V_iload_n (pc := 163) 4 dX7_readPins_163 rfl rfl ?_
    obtain ⟨b31, h⟩ := ite_o h
    refine V_iald (pc := 164) dX7_readPins_164 (L6_s1 (L4_o7 (L7_o1 H0))) (inB_vp b31) ?_
    obtain ⟨x33, h32, h⟩ := bnd h
    refine V_cV4 (pc := 165) dX7_readPins_165 kw678 calX5_addPin kw679 kw680 (L5_0 (L4_o8 (L7_o1 H0))) rfl (by decide) (Nat.le_of_ble_eq_true rfl) (ctX5_addPin (L4_o8 (L7_o1 H0)) h32) ?_
    refine V_iinc (pc := 168) (lv1 := [(2, _), (4, _), (0, _), (1, _), (3, _)]) (z := _ + (1 : Int32)) 3 dX7_readPins_168 rfl rfl (by decide) rfl ?_
    refine V_goto (pc := 171) (tgt := 2) dX7_readPins_171 (by decide) ?_
    exact V_sub [2, 3, 0] rfl (hg2 (v2 + (1 : Int32)) x33 h)
  · have h := ite_n c30 h
    refine V_iconst (pc := 140) (x := 0) dX7_readPins_140 (by decide) ?_
    cases h
    exact V_ret (pc := 141) dX7_readPins_141 ⟨rfl, _, rfl, rfl⟩ ⟨rfl, rfl, rfl⟩
theorem wX7_readPins_54 {G : Gl} {σ : Sg} {d : Dt} {g2 : Int32 → Dt → Option (Bool × Dt)} {r0 : Nat} {r0t : Nat} {r0h : Nat} {v1 : Int32} {v2 : Int32} {vs0 : Int32} {vs1 : Int32} {rs2 : Nat} {rs2t : Nat} {rs2h : Nat} {rr : Bool × Dt} (H0 : L7 σ r0 r0t r0h) (Hs2 : L7 σ rs2 rs2t rs2h) (hg2 : ∀ (v2 : Int32) (d : Dt), g2 v2 d = some rr → V G yX7_readPins cX7_readPins 5 (some .boolean) 3 0 0 (PH [.int (b2i rr.1)] σ rr.2) 2 [(0, .ref (gB G + r0)), (1, .int v1), (2, .int v2)] [] σ d) (h : mX7_readPins_54 g2 r0 r0t r0h v1 v2 vs0 vs1 rs2 rs2t rs2h d = some rr) : V G yX7_readPins cX7_readPins 5 (some .boolean) 3 0 0 (PH [.int (b2i rr.1)] σ rr.2) 54 [(0, .ref (gB G + r0)), (1, .int v1), (2, .int v2)] [.int vs0, .int vs1, .ref (gB G + rs2)] σ d := by
  rw [mX7_readPins_54] at h
  refine V_iadd (pc := 54) dX7_readPins_54 ?_
  refine V_putI (pc := 55) (c := 7) (k := 2) dX7_readPins_55 (by decide) (by decide) kw510 rfl rfl rfl ⟨rfl, rfl⟩ (L7_0 Hs2) ?_
  refine V_aload_n (pc := 58) 0 dX7_readPins_58 rfl rfl ?_
  refine V_sipush (pc := 59) (x := 200) dX7_readPins_59 (by decide) ?_
  obtain ⟨x15, h14, h⟩ := bnd h
  refine V_cV1 (pc := 62) dX7_readPins_62 kw605 calX7_takeNamed kw607 ks17 (L7_0 H0) rfl (by decide) (Nat.le_of_ble_eq_true rfl) (ctX7_takeNamed H0 h14) ?_
  refine V_istore_n (pc := 65) (lv1 := [(3, _), (0, _), (1, _), (2, _)]) dX7_readPins_65 rfl (by decide) rfl ?_
  refine V_iload_n (pc := 66) 0 dX7_readPins_66 rfl rfl ?_
  refine V_if_ge (pc := 67) (tgt := 72) dX7_readPins_67 (by decide) (fun c16 => ?_) (fun c16 => ?_)
  · have h := ite_p c16 h
    refine V_aload_n (pc := 72) 1 dX7_readPins_72 rfl rfl ?_
    refine V_iconst (pc := 73) (x := 3) dX7_readPins_73 (by decide) ?_
    obtain ⟨x18, h17, h⟩ := bnd h
    refine V_cV1 (pc := 74) dX7_readPins_74 kw570 calX7_sees kw572 ks11 (L7_0 H0) rfl (by decide) (Nat.le_of_ble_eq_true rfl) (ctX7_sees H0 h17) ?_
    refine V_ifB_eq (pc := 77) (tgt := 114) dX7_readPins_77 (by decide) (fun c19 => ?_) (fun c19 => ?_)
    · have h := ite_f c19 h
      exact V_sub [1, 2, 3, 0] rfl (wX7_readPins_114 H0 hg2 h)
    · have h := ite_p c19 h
      refine V_aload_n (pc := 80) 1 dX7_readPins_80 rfl rfl ?_
      refine V_getR (pc := 81) (c := 7) (k := 1) dX7_readPins_81 (by decide) (by decide) kw509 rfl rfl (L7_0 H0) (L7_r1 H0) ?_
      refine V_getR (pc := 84) (c := 4) (k := 8) dX7_readPins_84 (by decide) (by decide) kw243 rfl rfl (L4_0 (L7_o1 H0)) (L4_r8 (L7_o1 H0)) ?_
      refine V_iload_n (pc := 87) 2 dX7_readPins_87 rfl rfl ?_
      refine V_iconst (pc := 88) (x := (-1)) dX7_readPins_88 (by decide) ?_
      refine V_iload_n (pc := 89) 0 dX7_readPins_89 rfl rfl ?_
      refine V_aload_n (pc := 90) 1 dX7_readPins_90 rfl rfl ?_
      refine V_getR (pc := 91) (c := 7) (k := 0) dX7_readPins_91 (by decide) (by decide) kw508 rfl rfl (L7_0 H0) (L7_r0 H0) ?_
      refine V_aload_n (pc := 94) 1 dX7_readPins_94 rfl rfl ?_
      refine V_getI (pc := 95) (c := 7) (k := 2) dX7_readPins_95 (by decide) (by decide) kw510 rfl rfl (L7_0 H0) ?_
      obtain ⟨x21, h20, h⟩ := bnd h
      refine V_cV1 (pc := 98) dX7_readPins_98 kw548 calX8_valueOf kw549 kw550 (L8_0 (L7_o0 H0)) rfl (by decide) (Nat.le_of_ble_eq_true rfl) (ctX8_valueOf (L7_o0 H0) h20) ?_
      refine V_l2i (pc := 101) dX7_readPins_101 ?_
      obtain ⟨x23, h22, h⟩ := bnd h
      refine V_cV4 (pc := 102) dX7_readPins_102 kw671 calX5_hasPinAt kw672 kw673 (L5_0 (L4_o8 (L7_o1 H0))) rfl (by decide) (Nat.le_of_ble_eq_true rfl) (ctX5_hasPinAt (L4_o8 (L7_o1 H0)) h22) ?_
      refine V_ifB_eq (pc := 105) (tgt := 114) dX7_readPins_105 (by decide) (fun c24 => ?_) (fun c24 => ?_)
      · have h := ite_f c24 h
        exact V_sub [1, 2, 3, 0] rfl (wX7_readPins_114 H0 hg2 h)
      · have h := ite_p c24 h
        refine V_aload_n (pc := 108) 1 dX7_readPins_108 rfl rfl ?_
        refine V_iconst (pc := 109) (x := 3) dX7_readPins_109 (by decide) ?_
        refine V_cV1 (pc := 110) dX7_readPins_110 kw553 calX7_fail kw555 ks7 (L7_0 H0) rfl (by decide) (Nat.le_of_ble_eq_true rfl) (ctX7_fail H0) ?_
        cases h
        exact V_ret (pc := 113) dX7_readPins_113 ⟨rfl, _, rfl, b2i_nar _⟩ ⟨rfl, rfl, rfl⟩
  · have h := ite_n c16 h
    refine V_iconst (pc := 70) (x := 0) dX7_readPins_70 (by decide) ?_
    cases h
    exact V_ret (pc := 71) dX7_readPins_71 ⟨rfl, _, rfl, rfl⟩ ⟨rfl, rfl, rfl⟩
theorem wX7_readPins_22 {G : Gl} {σ : Sg} {d : Dt} {g2 : Int32 → Dt → Option (Bool × Dt)} {r0 : Nat} {r0t : Nat} {r0h : Nat} {v1 : Int32} {v2 : Int32} {rr : Bool × Dt} (H0 : L7 σ r0 r0t r0h) (hg2 : ∀ (v2 : Int32) (d : Dt), g2 v2 d = some rr → V G yX7_readPins cX7_readPins 5 (some .boolean) 3 0 0 (PH [.int (b2i rr.1)] σ rr.2) 2 [(0, .ref (gB G + r0)), (1, .int v1), (2, .int v2)] [] σ d) (h : mX7_readPins_22 g2 r0 r0t r0h v1 v2 d = some rr) : V G yX7_readPins cX7_readPins 5 (some .boolean) 3 0 0 (PH [.int (b2i rr.1)] σ rr.2) 22 [(0, .ref (gB G + r0)), (1, .int v1), (2, .int v2)] [] σ d := by
  rw [mX7_readPins_22] at h
  refine V_iload_n (pc := 22) 2 dX7_readPins_22 rfl rfl ?_
  refine V_if_le (pc := 23) (tgt := 40) dX7_readPins_23 (by decide) (fun c6 => ?_) (fun c6 => ?_)
  · have h := ite_p c6 h
    refine V_aload_n (pc := 40) 0 dX7_readPins_40 rfl rfl ?_
    refine V_dup (pc := 41) dX7_readPins_41 rfl ?_
    refine V_getI (pc := 42) (c := 7) (k := 2) dX7_readPins_42 (by decide) (by decide) kw510 rfl rfl (L7_0 H0) ?_
    refine V_iload_n (pc := 45) 2 dX7_readPins_45 rfl rfl ?_
    refine V_if_le (pc := 46) (tgt := 53) dX7_readPins_46 (by decide) (fun c7 => ?_) (fun c7 => ?_)
    · have h := ite_p c7 h
      refine V_iconst (pc := 53) (x := 0) dX7_readPins_53 (by decide) ?_
      exact V_sub [0, 1, 2] rfl (wX7_readPins_54 H0 H0 hg2 h)
    · have h := ite_n c7 h
      refine V_iconst (pc := 49) (x := 1) dX7_readPins_49 (by decide) ?_
      refine V_goto (pc := 50) (tgt := 54) dX7_readPins_50 (by decide) ?_
      exact V_sub [0, 1, 2] rfl (wX7_readPins_54 H0 H0 hg2 h)
  · have h := ite_n c6 h
    refine V_aload_n (pc := 26) 0 dX7_readPins_26 rfl rfl ?_
    refine V_iconst (pc := 27) (x := 4) dX7_readPins_27 (by decide) ?_
    obtain ⟨x9, h8, h⟩ := bnd h
    refine V_cV1 (pc := 28) dX7_readPins_28 kw570 calX7_sees kw572 ks11 (L7_0 H0) rfl (by decide) (Nat.le_of_ble_eq_true rfl) (ctX7_sees H0 h8) ?_
    refine V_ifB_ne (pc := 31) (tgt := 40) dX7_readPins_31 (by decide) (fun c10 => ?_) (fun c10 => ?_)
    · have h := ite_p c10 h
      refine V_aload_n (pc := 40) 0 dX7_readPins_40 rfl rfl ?_
      refine V_dup (pc := 41) dX7_readPins_41 rfl ?_
      refine V_getI (pc := 42) (c := 7) (k := 2) dX7_readPins_42 (by decide) (by decide) kw510 rfl rfl (L7_0 H0) ?_
      refine V_iload_n (pc := 45) 2 dX7_readPins_45 rfl rfl ?_
      refine V_if_le (pc := 46) (tgt := 53) dX7_readPins_46 (by decide) (fun c11 => ?_) (fun c11 => ?_)
      · have h := ite_p c11 h
        refine V_iconst (pc := 53) (x := 0) dX7_readPins_53 (by decide) ?_
        exact V_sub [0, 1, 2] rfl (wX7_readPins_54 H0 H0 hg2 h)
      · have h := ite_n c11 h
        refine V_iconst (pc := 49) (x := 1) dX7_readPins_49 (by decide) ?_
        refine V_goto (pc := 50) (tgt := 54) dX7_readPins_50 (by decide) ?_
        exact V_sub [0, 1, 2] rfl (wX7_readPins_54 H0 H0 hg2 h)
    · have h := ite_f c10 h
      refine V_aload_n (pc := 34) 0 dX7_readPins_34 rfl rfl ?_
      refine V_iconst (pc := 35) (x := 1) dX7_readPins_35 (by decide) ?_
      refine V_cV1 (pc := 36) dX7_readPins_36 kw553 calX7_fail kw555 ks7 (L7_0 H0) rfl (by decide) (Nat.le_of_ble_eq_true rfl) (ctX7_fail H0) ?_
      cases h
      exact V_ret (pc := 39) dX7_readPins_39 ⟨rfl, _, rfl, b2i_nar _⟩ ⟨rfl, rfl, rfl⟩
theorem wX7_readPins_2 {G : Gl} {σ : Sg} {r0 : Nat} {r0t : Nat} {r0h : Nat} {v1 : Int32} {rr : Bool × Dt} (H0 : L7 σ r0 r0t r0h) : ∀ (n : Nat) (v2 : Int32) (d : Dt), mX7_readPins_2 r0 r0t r0h v1 n v2 d = some rr → V G yX7_readPins cX7_readPins 5 (some .boolean) 3 0 0 (PH [.int (b2i rr.1)] σ rr.2) 2 [(0, .ref (gB G + r0)), (1, .int v1), (2, .int v2)] [] σ d := by
  intro n
  induction n with
  | zero =>
    intro v2 d
    intros
    rename_i h
    exact absurd h (by rw [mX7_readPins_2]; exact fun q => nomatch q)
  | succ n ih =>
    intro v2 d h
    rw [mX7_readPins_2] at h
    refine V_iload_n (pc := 2) 2 dX7_readPins_2 rfl rfl ?_
    refine V_iconst (pc := 3) (x := 5) dX7_readPins_3 (by decide) ?_
    refine V_icmp_ge (pc := 4) (tgt := 174) dX7_readPins_4 (by decide) (fun c1 => ?_) (fun c1 => ?_)
    · have h := ite_p c1 h
      refine V_iconst (pc := 174) (x := 1) dX7_readPins_174 (by decide) ?_
      cases h
      exact V_ret (pc := 175) dX7_readPins_175 ⟨rfl, _, rfl, rfl⟩ ⟨rfl, rfl, rfl⟩
    · have h := ite_n c1 h
      refine V_iload_n (pc := 7) 2 dX7_readPins_7 rfl rfl ?_
      refine V_iconst (pc := 8) (x := 1) dX7_readPins_8 (by decide) ?_
      refine V_icmp_le (pc := 9) (tgt := 22) dX7_readPins_9 (by decide) (fun c2 => ?_) (fun c2 => ?_)
      · have h := ite_p c2 h
        exact V_sub [0, 1, 2] rfl (wX7_readPins_22 H0 ih h)
      · have h := ite_n c2 h
        refine V_aload_n (pc := 12) 0 dX7_readPins_12 rfl rfl ?_
        refine V_iconst (pc := 13) (x := 4) dX7_readPins_13 (by decide) ?_
        obtain ⟨x4, h3, h⟩ := bnd h
        refine V_cV1 (pc := 14) dX7_readPins_14 kw570 calX7_sees kw572 ks11 (L7_0 H0) rfl (by decide) (Nat.le_of_ble_eq_true rfl) (ctX7_sees H0 h3) ?_
        refine V_ifB_ne (pc := 17) (tgt := 22) dX7_readPins_17 (by decide) (fun c5 => ?_) (fun c5 => ?_)
        · have h := ite_p c5 h
          exact V_sub [0, 1, 2] rfl (wX7_readPins_22 H0 ih h)
        · have h := ite_f c5 h
          refine V_iconst (pc := 20) (x := 1) dX7_readPins_20 (by decide) ?_
          cases h
          exact V_ret (pc := 21) dX7_readPins_21 ⟨rfl, _, rfl, rfl⟩ ⟨rfl, rfl, rfl⟩
theorem calX7_readPins : Cal yX7_readPins cX7_readPins 5 (some .boolean) 1 := ⟨kw670, kw17, by decide +kernel⟩
theorem ctX7_readPins {G : Gl} {σ : Sg} {d : Dt} {r0 : Nat} {r0t : Nat} {r0h : Nat} {v1 : Int32} {rr : Bool × Dt} (H0 : L7 σ r0 r0t r0h) (h : mX7_readPins r0 r0t r0h v1 d = some rr) : CTv G yX7_readPins cX7_readPins 5 (some .boolean) 3 [.ref (gB G + r0), .int v1] σ d [.int (b2i rr.1)] rr.2 := by
  refine CT_of pn_RX7 (Nat.le_of_ble_eq_true rfl) ?_
  rw [mX7_readPins] at h
  refine V_iconst (pc := 0) (x := 0) dX7_readPins_0 (by decide) ?_
  refine V_istore_n (pc := 1) (lv1 := [(2, _), (0, _), (1, _)]) dX7_readPins_1 rfl (by decide) rfl ?_
  exact V_sub [1, 2, 0] rfl (wX7_readPins_2 H0 FUEL (0 : Int32) d h)
theorem calX7_readNet : Cal yX7_readNet cX7_readNet 6 (some .boolean) 0 := ⟨kw654, kw17, by decide +kernel⟩
theorem ctX7_readNet {G : Gl} {σ : Sg} {d : Dt} {r0 : Nat} {r0t : Nat} {r0h : Nat} {rr : Bool × Dt} (H0 : L7 σ r0 r0t r0h) (h : mX7_readNet r0 r0t r0h d = some rr) : CTv G yX7_readNet cX7_readNet 6 (some .boolean) 9 [.ref (gB G + r0)] σ d [.int (b2i rr.1)] rr.2 := by
  refine CT_of pn_RX7 (Nat.le_of_ble_eq_true rfl) ?_
  rw [mX7_readNet] at h
  refine V_aload_n (pc := 0) 0 dX7_readNet_0 rfl rfl ?_
  refine V_getR (pc := 1) (c := 7) (k := 1) dX7_readNet_1 (by decide) (by decide) kw509 rfl rfl (L7_0 H0) (L7_r1 H0) ?_
  refine V_getR (pc := 4) (c := 4) (k := 8) dX7_readNet_4 (by decide) (by decide) kw243 rfl rfl (L4_0 (L7_o1 H0)) (L4_r8 (L7_o1 H0)) ?_
  refine V_getI (pc := 7) (c := 5) (k := 0) dX7_readNet_7 (by decide) (by decide) kw139 rfl rfl (L5_0 (L4_o8 (L7_o1 H0))) ?_
  refine V_istore_n (pc := 10) (lv1 := [(1, _), (0, _)]) dX7_readNet_10 rfl (by decide) rfl ?_
  refine V_aload_n (pc := 11) 1 dX7_readNet_11 rfl rfl ?_
  obtain ⟨x2, h1, h⟩ := bnd h
  refine V_cV0 (pc := 12) dX7_readNet_12 kw588 calX7_takeNewName kw590 ks15 (L7_0 H0) rfl (by decide) (Nat.le_of_ble_eq_true rfl) (ctX7_takeNewName H0 h1) ?_
  refine V_lstore_n (pc := 15) (lv1 := [(2, _), (1, _), (0, _)]) dX7_readNet_15 rfl (by decide) rfl ?_
  refine V_lload_n (pc := 16) 0 dX7_readNet_16 rfl rfl ?_
  refine V_lconst (pc := 17) (x := 0) dX7_readNet_17 (by decide) ?_
  refine V_lcmp_ne (pc := 18) (tgt := 24) dX7_readNet_18 dX7_readNet_19 (by decide) (fun c3 => ?_) (fun c3 => ?_)
  · have h := ite_n c3 h
    refine V_aload_n (pc := 24) 2 dX7_readNet_24 rfl rfl ?_
    obtain ⟨x5, h4, h⟩ := bnd h
    refine V_cV0 (pc := 25) dX7_readNet_25 kw655 calX7_takeKind kw657 ks24 (L7_0 H0) rfl (by decide) (Nat.le_of_ble_eq_true rfl) (ctX7_takeKind H0 h4) ?_
    refine V_istore (pc := 28) (lv1 := [(4, _), (2, _), (1, _), (0, _)]) dX7_readNet_28 (by decide) rfl ?_
    refine V_iload (pc := 30) 0 dX7_readNet_30 rfl ?_
    refine V_if_lt (pc := 32) (tgt := 44) dX7_readNet_32 (by decide) (fun c6 => ?_) (fun c6 => ?_)
    · have h := ite_p c6 h
      refine V_iconst (pc := 44) (x := 0) dX7_readNet_44 (by decide) ?_
      cases h
      exact V_ret (pc := 45) dX7_readNet_45 ⟨rfl, _, rfl, rfl⟩ ⟨rfl, rfl, rfl⟩
    · have h := ite_n c6 h
      refine V_aload_n (pc := 35) 3 dX7_readNet_35 rfl rfl ?_
      refine V_ldcS (pc := 36) (i := 19) (tx := "gauge") dX7_readNet_36 (by decide) ?_
      obtain ⟨x8, h7, h⟩ := bnd h
      refine V_cV1 (pc := 38) dX7_readNet_38 kw562 calX7_take kw564 ks9 (L7_0 H0) rfl (by decide) (Nat.le_of_ble_eq_true rfl) (ctX7_take H0 (by decide) h7) ?_
      refine V_ifB_ne (pc := 41) (tgt := 46) dX7_readNet_41 (by decide) (fun c9 => ?_) (fun c9 => ?_)
      · have h := ite_p c9 h
        refine V_aload_n (pc := 46) 3 dX7_readNet_46 rfl rfl ?_
        refine V_iconst (pc := 47) (x := 1) dX7_readNet_47 (by decide) ?_
        refine V_bipush (pc := 48) (x := 9) dX7_readNet_48 (by decide) ?_
        obtain ⟨x11, h10, h⟩ := bnd h
        refine V_cV2 (pc := 50) dX7_readNet_50 kw566 calX7_takeWhole kw568 ks10 (L7_0 H0) rfl (by decide) (Nat.le_of_ble_eq_true rfl) (ctX7_takeWhole H0 h10) ?_
        refine V_istore (pc := 53) (lv1 := [(5, _), (4, _), (2, _), (1, _), (0, _)]) dX7_readNet_53 (by decide) rfl ?_
        refine V_iload (pc := 55) 0 dX7_readNet_55 rfl ?_
        refine V_if_lt (pc := 57) (tgt := 76) dX7_readNet_57 (by decide) (fun c12 => ?_) (fun c12 => ?_)
        · have h := ite_p c12 h
          refine V_iconst (pc := 76) (x := 0) dX7_readNet_76 (by decide) ?_
          cases h
          exact V_ret (pc := 77) dX7_readNet_77 ⟨rfl, _, rfl, rfl⟩ ⟨rfl, rfl, rfl⟩
        · have h := ite_n c12 h
          refine V_aload_n (pc := 60) 4 dX7_readNet_60 rfl rfl ?_
          obtain ⟨x14, h13, h⟩ := bnd h
          refine V_cV0 (pc := 61) dX7_readNet_61 kw640 calX7_takeWhen kw642 ks22 (L7_0 H0) rfl (by decide) (Nat.le_of_ble_eq_true rfl) (ctX7_takeWhen H0 h13) ?_
          refine V_ifB_eq (pc := 64) (tgt := 76) dX7_readNet_64 (by decide) (fun c15 => ?_) (fun c15 => ?_)
          · have h := ite_f c15 h
            refine V_iconst (pc := 76) (x := 0) dX7_readNet_76 (by decide) ?_
            cases h
            exact V_ret (pc := 77) dX7_readNet_77 ⟨rfl, _, rfl, rfl⟩ ⟨rfl, rfl, rfl⟩
          · have h := ite_p c15 h
            refine V_aload_n (pc := 67) 4 dX7_readNet_67 rfl rfl ?_
            refine V_ldcS (pc := 68) (i := 9) (tx := "of") dX7_readNet_68 (by decide) ?_
            obtain ⟨x17, h16, h⟩ := bnd h
            refine V_cV1 (pc := 70) dX7_readNet_70 kw562 calX7_take kw564 ks9 (L7_0 H0) rfl (by decide) (Nat.le_of_ble_eq_true rfl) (ctX7_take H0 (by decide) h16) ?_
            refine V_ifB_ne (pc := 73) (tgt := 78) dX7_readNet_73 (by decide) (fun c18 => ?_) (fun c18 => ?_)
            · have h := ite_p c18 h
              refine V_aload_n (pc := 78) 4 dX7_readNet_78 rfl rfl ?_
              refine V_getR (pc := 79) (c := 7) (k := 1) dX7_readNet_79 (by decide) (by decide) kw509 rfl rfl (L7_0 H0) (L7_r1 H0) ?_
              refine V_lload_n (pc := 82) 2 dX7_readNet_82 rfl rfl ?_
              refine V_sipush (pc := 83) (x := 300) dX7_readNet_83 (by decide) ?_
              refine V_iload_n (pc := 86) 3 dX7_readNet_86 rfl rfl ?_
              refine V_iadd (pc := 87) dX7_readNet_87 ?_
              obtain ⟨x20, h19, h⟩ := bnd h
              refine V_cV2 (pc := 88) dX7_readNet_88 kw622 calX4_addName kw623 kw624 (L4_0 (L7_o1 H0)) rfl (by decide) (Nat.le_of_ble_eq_true rfl) (ctX4_addName (L7_o1 H0) h19) ?_
              refine V_aload_n (pc := 91) 4 dX7_readNet_91 rfl rfl ?_
              refine V_getR (pc := 92) (c := 7) (k := 1) dX7_readNet_92 (by decide) (by decide) kw509 rfl rfl (L7_0 H0) (L7_r1 H0) ?_
              refine V_getR (pc := 95) (c := 4) (k := 8) dX7_readNet_95 (by decide) (by decide) kw243 rfl rfl (L4_0 (L7_o1 H0)) (L4_r8 (L7_o1 H0)) ?_
              refine V_iload (pc := 98) 1 dX7_readNet_98 rfl ?_
              refine V_iload (pc := 100) 0 dX7_readNet_100 rfl ?_
              refine V_aload_n (pc := 102) 4 dX7_readNet_102 rfl rfl ?_
              refine V_getI (pc := 103) (c := 7) (k := 3) dX7_readNet_103 (by decide) (by decide) kw511 rfl rfl (L7_0 H0) ?_
              refine V_aload_n (pc := 106) 4 dX7_readNet_106 rfl rfl ?_
              refine V_getI (pc := 107) (c := 7) (k := 4) dX7_readNet_107 (by decide) (by decide) kw512 rfl rfl (L7_0 H0) ?_
              obtain ⟨x22, h21, h⟩ := bnd h
              refine V_cV4 (pc := 110) dX7_readNet_110 kw663 calX5_add kw664 kw665 (L5_0 (L4_o8 (L7_o1 H0))) rfl (by decide) (Nat.le_of_ble_eq_true rfl) (ctX5_add (L4_o8 (L7_o1 H0)) h21) ?_
              refine V_aload_n (pc := 113) 4 dX7_readNet_113 rfl rfl ?_
              refine V_iload_n (pc := 114) 3 dX7_readNet_114 rfl rfl ?_
              obtain ⟨x24, h23, h⟩ := bnd h
              refine V_cV1 (pc := 115) dX7_readNet_115 kw667 calX7_readPins kw669 ks25 (L7_0 H0) rfl (by decide) (Nat.le_of_ble_eq_true rfl) (ctX7_readPins H0 h23) ?_
              refine V_ifB_eq (pc := 118) (tgt := 132) dX7_readNet_118 (by decide) (fun c25 => ?_) (fun c25 => ?_)
              · have h := ite_f c25 h
                refine V_iconst (pc := 132) (x := 0) dX7_readNet_132 (by decide) ?_
                cases h
                exact V_ret (pc := 133) dX7_readNet_133 ⟨rfl, _, rfl, rfl⟩ ⟨rfl, rfl, rfl⟩
              · have h := ite_p c25 h
                refine V_aload_n (pc := 121) 4 dX7_readNet_121 rfl rfl ?_
                obtain ⟨x27, h26, h⟩ := bnd h
                refine V_cV0 (pc := 122) dX7_readNet_122 kw575 calX7_lineEnds kw577 ks12 (L7_0 H0) rfl (by decide) (Nat.le_of_ble_eq_true rfl) (ctX7_lineEnds H0 h26) ?_
                refine V_ifB_eq (pc := 125) (tgt := 132) dX7_readNet_125 (by decide) (fun c28 => ?_) (fun c28 => ?_)
                · have h := ite_f c28 h
                  refine V_iconst (pc := 132) (x := 0) dX7_readNet_132 (by decide) ?_
                  cases h
                  exact V_ret (pc := 133) dX7_readNet_133 ⟨rfl, _, rfl, rfl⟩ ⟨rfl, rfl, rfl⟩
                · have h := ite_p c28 h
                  refine V_iconst (pc := 128) (x := 1) dX7_readNet_128 (by decide) ?_
                  refine V_goto (pc := 129) (tgt := 133) dX7_readNet_129 (by decide) ?_
                  cases h
                  exact V_ret (pc := 133) dX7_readNet_133 ⟨rfl, _, rfl, rfl⟩ ⟨rfl, rfl, rfl⟩
            · have h := ite_f c18 h
              refine V_iconst (pc := 76) (x := 0) dX7_readNet_76 (by decide) ?_
              cases h
              exact V_ret (pc := 77) dX7_readNet_77 ⟨rfl, _, rfl, rfl⟩ ⟨rfl, rfl, rfl⟩
      · have h := ite_f c9 h
        refine V_iconst (pc := 44) (x := 0) dX7_readNet_44 (by decide) ?_
        cases h
        exact V_ret (pc := 45) dX7_readNet_45 ⟨rfl, _, rfl, rfl⟩ ⟨rfl, rfl, rfl⟩
  · have h := ite_p c3 h
    refine V_iconst (pc := 22) (x := 0) dX7_readNet_22 (by decide) ?_
    cases h
    exact V_ret (pc := 23) dX7_readNet_23 ⟨rfl, _, rfl, rfl⟩ ⟨rfl, rfl, rfl⟩
theorem wX1_hasVariant_2 {G : Gl} {σ : Sg} {d : Dt} {r0 : Nat} {v1 : Int32} {rr : Bool} (H0 : L1 σ r0) : ∀ (n : Nat) (v2 : Int32), mX1_hasVariant_2 d r0 v1 n v2 = some rr → V G yX1_hasVariant cX1_hasVariant 3 (some .boolean) 0 0 0 (PH [.int (b2i rr)] σ d) 2 [(0, .ref (gB G + r0)), (1, .int v1), (2, .int v2)] [] σ d := by
  intro n
  induction n with
  | zero =>
    intro v2
    intros
    rename_i h
    exact absurd h (by rw [mX1_hasVariant_2]; exact fun q => nomatch q)
  | succ n ih =>
    intro v2 h
    rw [mX1_hasVariant_2] at h
    refine V_iload_n (pc := 2) 2 dX1_hasVariant_2 rfl rfl ?_
    refine V_aload_n (pc := 3) 0 dX1_hasVariant_3 rfl rfl ?_
    refine V_getI (pc := 4) (c := 1) (k := 0) dX1_hasVariant_4 (by decide) (by decide) kw200 rfl rfl (L1_0 H0) ?_
    refine V_icmp_ge (pc := 7) (tgt := 28) dX1_hasVariant_7 (by decide) (fun c1 => ?_) (fun c1 => ?_)
    · have h := ite_p c1 h
      refine V_iconst (pc := 28) (x := 0) dX1_hasVariant_28 (by decide) ?_
      cases h
      exact V_ret (pc := 29) dX1_hasVariant_29 ⟨rfl, _, rfl, rfl⟩ ⟨rfl, rfl, rfl⟩
    · have h := ite_n c1 h
      refine V_aload_n (pc := 10) 0 dX1_hasVariant_10 rfl rfl ?_
      refine V_getR (pc := 11) (c := 1) (k := 1) dX1_hasVariant_11 (by decide) (by decide) kw205 rfl rfl (L1_0 H0) (L1_r1 H0) ?_
      refine V_iload_n (pc := 14) 2 dX1_hasVariant_14 rfl rfl ?_
      obtain ⟨b2, h⟩ := ite_o h
      refine V_iald (pc := 15) dX1_hasVariant_15 (L1_s1 H0) (inB_vp b2) ?_
      refine V_iload_n (pc := 16) 1 dX1_hasVariant_16 rfl rfl ?_
      refine V_icmp_ne (pc := 17) (tgt := 22) dX1_hasVariant_17 (by decide) (fun c3 => ?_) (fun c3 => ?_)
      · have h := ite_n c3 h
        refine V_iinc (pc := 22) (lv1 := [(2, _), (0, _), (1, _)]) (z := _ + (1 : Int32)) 2 dX1_hasVariant_22 rfl rfl (by decide) rfl ?_
        refine V_goto (pc := 25) (tgt := 2) dX1_hasVariant_25 (by decide) ?_
        exact V_sub [1, 2, 0] rfl (ih (v2 + (1 : Int32)) h)
      · have h := ite_p c3 h
        refine V_iconst (pc := 20) (x := 1) dX1_hasVariant_20 (by decide) ?_
        cases h
        exact V_ret (pc := 21) dX1_hasVariant_21 ⟨rfl, _, rfl, rfl⟩ ⟨rfl, rfl, rfl⟩
theorem calX1_hasVariant : Cal yX1_hasVariant cX1_hasVariant 3 (some .boolean) 1 := ⟨kw691, kw6, by decide +kernel⟩
theorem ctX1_hasVariant {G : Gl} {σ : Sg} {d : Dt} {r0 : Nat} {v1 : Int32} {rr : Bool} (H0 : L1 σ r0) (h : mX1_hasVariant r0 v1 d = some rr) : CTv G yX1_hasVariant cX1_hasVariant 3 (some .boolean) 0 [.ref (gB G + r0), .int v1] σ d [.int (b2i rr)] d := by
  refine CT_of pn_RX1 (Nat.le_of_ble_eq_true rfl) ?_
  rw [mX1_hasVariant] at h
  refine V_iconst (pc := 0) (x := 0) dX1_hasVariant_0 (by decide) ?_
  refine V_istore_n (pc := 1) (lv1 := [(2, _), (0, _), (1, _)]) dX1_hasVariant_1 rfl (by decide) rfl ?_
  exact V_sub [1, 2, 0] rfl (wX1_hasVariant_2 H0 FUEL (0 : Int32) h)
theorem calX1_add : Cal yX1_add cX1_add 3 none 2 := ⟨kw695, kw6, by decide +kernel⟩
theorem ctX1_add {G : Gl} {σ : Sg} {d : Dt} {r0 : Nat} {v1 : Int32} {v2 : Int32} {rr : Dt} (H0 : L1 σ r0) (h : mX1_add r0 v1 v2 d = some rr) : CTv G yX1_add cX1_add 3 none 0 [.ref (gB G + r0), .int v1, .int v2] σ d [] rr := by
  refine CT_of pn_RX1 (Nat.le_of_ble_eq_true rfl) ?_
  rw [mX1_add] at h
  refine V_aload_n (pc := 0) 0 dX1_add_0 rfl rfl ?_
  refine V_getI (pc := 1) (c := 1) (k := 0) dX1_add_1 (by decide) (by decide) kw200 rfl rfl (L1_0 H0) ?_
  refine V_iconst (pc := 4) (x := 5) dX1_add_4 (by decide) ?_
  refine V_icmp_ge (pc := 5) (tgt := 38) dX1_add_5 (by decide) (fun c1 => ?_) (fun c1 => ?_)
  · have h := ite_p c1 h
    cases h
    exact V_ret (pc := 38) dX1_add_38 ⟨rfl, rfl⟩ ⟨rfl, rfl, rfl⟩
  · have h := ite_n c1 h
    refine V_aload_n (pc := 8) 0 dX1_add_8 rfl rfl ?_
    refine V_getR (pc := 9) (c := 1) (k := 1) dX1_add_9 (by decide) (by decide) kw205 rfl rfl (L1_0 H0) (L1_r1 H0) ?_
    refine V_aload_n (pc := 12) 0 dX1_add_12 rfl rfl ?_
    refine V_getI (pc := 13) (c := 1) (k := 0) dX1_add_13 (by decide) (by decide) kw200 rfl rfl (L1_0 H0) ?_
    refine V_iload_n (pc := 16) 1 dX1_add_16 rfl rfl ?_
    obtain ⟨b2, h⟩ := ite_o h
    refine V_iast (pc := 17) dX1_add_17 (L1_s1 H0) (inB_vp b2) ?_
    refine V_aload_n (pc := 18) 0 dX1_add_18 rfl rfl ?_
    refine V_getR (pc := 19) (c := 1) (k := 2) dX1_add_19 (by decide) (by decide) kw208 rfl rfl (L1_0 H0) (L1_r2 H0) ?_
    refine V_aload_n (pc := 22) 0 dX1_add_22 rfl rfl ?_
    refine V_getI (pc := 23) (c := 1) (k := 0) dX1_add_23 (by decide) (by decide) kw200 rfl rfl (L1_0 H0) ?_
    refine V_iload_n (pc := 26) 2 dX1_add_26 rfl rfl ?_
    obtain ⟨b3, h⟩ := ite_o h
    refine V_iast (pc := 27) dX1_add_27 (L1_s2 H0) (inB_vp b3) ?_
    refine V_aload_n (pc := 28) 0 dX1_add_28 rfl rfl ?_
    refine V_dup (pc := 29) dX1_add_29 rfl ?_
    refine V_getI (pc := 30) (c := 1) (k := 0) dX1_add_30 (by decide) (by decide) kw200 rfl rfl (L1_0 H0) ?_
    refine V_iconst (pc := 33) (x := 1) dX1_add_33 (by decide) ?_
    refine V_iadd (pc := 34) dX1_add_34 ?_
    refine V_putI (pc := 35) (c := 1) (k := 0) dX1_add_35 (by decide) (by decide) kw200 rfl rfl rfl ⟨rfl, rfl⟩ (L1_0 H0) ?_
    cases h
    exact V_ret (pc := 38) dX1_add_38 ⟨rfl, rfl⟩ ⟨rfl, rfl, rfl⟩
theorem wX7_readBuild_84 {G : Gl} {σ : Sg} {d : Dt} {r0 : Nat} {r0t : Nat} {r0h : Nat} {v1 : Int32} {v2 : Int32} {rr : Bool × Dt} (H0 : L7 σ r0 r0t r0h) (h : mX7_readBuild_84 r0 r0t r0h v1 v2 d = some rr) : V G yX7_readBuild cX7_readBuild 5 (some .boolean) 3 0 0 (PH [.int (b2i rr.1)] σ rr.2) 84 [(0, .ref (gB G + r0)), (1, .int v1), (2, .int v2)] [] σ d := by
  rw [mX7_readBuild_84] at h
  refine V_aload_n (pc := 84) 0 dX7_readBuild_84 rfl rfl ?_
  obtain ⟨x17, h16, h⟩ := bnd h
  refine V_cV0 (pc := 85) dX7_readBuild_85 kw575 calX7_lineEnds kw577 ks12 (L7_0 H0) rfl (by decide) (Nat.le_of_ble_eq_true rfl) (ctX7_lineEnds H0 h16) ?_
  refine V_ifB_ne (pc := 88) (tgt := 93) dX7_readBuild_88 (by decide) (fun c18 => ?_) (fun c18 => ?_)
  · have h := ite_p c18 h
    refine V_aload_n (pc := 93) 0 dX7_readBuild_93 rfl rfl ?_
    refine V_getR (pc := 94) (c := 7) (k := 1) dX7_readBuild_94 (by decide) (by decide) kw509 rfl rfl (L7_0 H0) (L7_r1 H0) ?_
    refine V_getR (pc := 97) (c := 4) (k := 9) dX7_readBuild_97 (by decide) (by decide) kw250 rfl rfl (L4_0 (L7_o1 H0)) (L4_r9 (L7_o1 H0)) ?_
    refine V_iload_n (pc := 100) 2 dX7_readBuild_100 rfl rfl ?_
    obtain ⟨x20, h19, h⟩ := bnd h
    refine V_cV1 (pc := 101) dX7_readBuild_101 kw688 calX1_hasVariant kw689 kw690 (L1_0 (L4_o9 (L7_o1 H0))) rfl (by decide) (Nat.le_of_ble_eq_true rfl) (ctX1_hasVariant (L4_o9 (L7_o1 H0)) h19) ?_
    refine V_ifB_eq (pc := 104) (tgt := 114) dX7_readBuild_104 (by decide) (fun c21 => ?_) (fun c21 => ?_)
    · have h := ite_f c21 h
      refine V_aload_n (pc := 114) 0 dX7_readBuild_114 rfl rfl ?_
      refine V_getR (pc := 115) (c := 7) (k := 1) dX7_readBuild_115 (by decide) (by decide) kw509 rfl rfl (L7_0 H0) (L7_r1 H0) ?_
      refine V_getR (pc := 118) (c := 4) (k := 9) dX7_readBuild_118 (by decide) (by decide) kw250 rfl rfl (L4_0 (L7_o1 H0)) (L4_r9 (L7_o1 H0)) ?_
      refine V_iload_n (pc := 121) 2 dX7_readBuild_121 rfl rfl ?_
      refine V_iload_n (pc := 122) 1 dX7_readBuild_122 rfl rfl ?_
      obtain ⟨x23, h22, h⟩ := bnd h
      refine V_cV2 (pc := 123) dX7_readBuild_123 kw692 calX1_add kw693 kw694 (L1_0 (L4_o9 (L7_o1 H0))) rfl (by decide) (Nat.le_of_ble_eq_true rfl) (ctX1_add (L4_o9 (L7_o1 H0)) h22) ?_
      refine V_iconst (pc := 126) (x := 1) dX7_readBuild_126 (by decide) ?_
      cases h
      exact V_ret (pc := 127) dX7_readBuild_127 ⟨rfl, _, rfl, rfl⟩ ⟨rfl, rfl, rfl⟩
    · have h := ite_p c21 h
      refine V_aload_n (pc := 107) 0 dX7_readBuild_107 rfl rfl ?_
      refine V_bipush (pc := 108) (x := 7) dX7_readBuild_108 (by decide) ?_
      refine V_cV1 (pc := 110) dX7_readBuild_110 kw553 calX7_fail kw555 ks7 (L7_0 H0) rfl (by decide) (Nat.le_of_ble_eq_true rfl) (ctX7_fail H0) ?_
      cases h
      exact V_ret (pc := 113) dX7_readBuild_113 ⟨rfl, _, rfl, b2i_nar _⟩ ⟨rfl, rfl, rfl⟩
  · have h := ite_f c18 h
    refine V_iconst (pc := 91) (x := 0) dX7_readBuild_91 (by decide) ?_
    cases h
    exact V_ret (pc := 92) dX7_readBuild_92 ⟨rfl, _, rfl, rfl⟩ ⟨rfl, rfl, rfl⟩
theorem wX7_readBuild_18 {G : Gl} {σ : Sg} {r0 : Nat} {r0t : Nat} {r0h : Nat} {v1 : Int32} {rr : Bool × Dt} (H0 : L7 σ r0 r0t r0h) : ∀ (n : Nat) (v2 : Int32) (v3 : Int32) (d : Dt), mX7_readBuild_18 r0 r0t r0h v1 n v2 v3 d = some rr → V G yX7_readBuild cX7_readBuild 5 (some .boolean) 3 0 0 (PH [.int (b2i rr.1)] σ rr.2) 18 [(0, .ref (gB G + r0)), (1, .int v1), (2, .int v2), (3, .int v3)] [] σ d := by
  intro n
  induction n with
  | zero =>
    intro v2 v3 d
    intros
    rename_i h
    exact absurd h (by rw [mX7_readBuild_18]; exact fun q => nomatch q)
  | succ n ih =>
    intro v2 v3 d h
    rw [mX7_readBuild_18] at h
    refine V_iload_n (pc := 18) 3 dX7_readBuild_18 rfl rfl ?_
    refine V_iconst (pc := 19) (x := 4) dX7_readBuild_19 (by decide) ?_
    refine V_icmp_gt (pc := 20) (tgt := 84) dX7_readBuild_20 (by decide) (fun c4 => ?_) (fun c4 => ?_)
    · have h := ite_p c4 h
      exact V_sub [0, 1, 2] rfl (wX7_readBuild_84 H0 h)
    · have h := ite_n c4 h
      refine V_aload_n (pc := 23) 0 dX7_readBuild_23 rfl rfl ?_
      refine V_iconst (pc := 24) (x := 1) dX7_readBuild_24 (by decide) ?_
      obtain ⟨x6, h5, h⟩ := bnd h
      refine V_cV1 (pc := 25) dX7_readBuild_25 kw570 calX7_sees kw572 ks11 (L7_0 H0) rfl (by decide) (Nat.le_of_ble_eq_true rfl) (ctX7_sees H0 h5) ?_
      refine V_ifB_eq (pc := 28) (tgt := 84) dX7_readBuild_28 (by decide) (fun c7 => ?_) (fun c7 => ?_)
      · have h := ite_f c7 h
        exact V_sub [0, 1, 2] rfl (wX7_readBuild_84 H0 h)
      · have h := ite_p c7 h
        refine V_aload_n (pc := 31) 0 dX7_readBuild_31 rfl rfl ?_
        refine V_bipush (pc := 32) (x := 100) dX7_readBuild_32 (by decide) ?_
        obtain ⟨x9, h8, h⟩ := bnd h
        refine V_cV1 (pc := 34) dX7_readBuild_34 kw605 calX7_takeNamed kw607 ks17 (L7_0 H0) rfl (by decide) (Nat.le_of_ble_eq_true rfl) (ctX7_takeNamed H0 h8) ?_
        refine V_istore (pc := 37) (lv1 := [(4, _), (0, _), (1, _), (2, _), (3, _)]) dX7_readBuild_37 (by decide) rfl ?_
        refine V_iload (pc := 39) 0 dX7_readBuild_39 rfl ?_
        refine V_if_ge (pc := 41) (tgt := 46) dX7_readBuild_41 (by decide) (fun c10 => ?_) (fun c10 => ?_)
        · have h := ite_p c10 h
          refine V_iload_n (pc := 46) 3 dX7_readBuild_46 rfl rfl ?_
          refine V_iload (pc := 47) 0 dX7_readBuild_47 rfl ?_
          refine V_cS2 (pc := 49) dX7_readBuild_49 kw687 calX10_has kw676 (by decide) (Nat.le_of_ble_eq_true rfl) (ctX10_has) ?_
          refine V_ifB_eq (pc := 52) (tgt := 71) dX7_readBuild_52 (by decide) (fun c13 => ?_) (fun c13 => ?_)
          · have h := ite_f c13 h
            refine V_iload_n (pc := 71) 3 dX7_readBuild_71 rfl rfl ?_
            refine V_iconst (pc := 72) (x := 1) dX7_readBuild_72 (by decide) ?_
            refine V_iload (pc := 73) 0 dX7_readBuild_73 rfl ?_
            refine V_ishl (pc := 75) dX7_readBuild_75 ?_
            refine V_ior (pc := 76) dX7_readBuild_76 ?_
            refine V_istore_n (pc := 77) (lv1 := [(2, _), (4, _), (0, _), (1, _), (3, _)]) dX7_readBuild_77 rfl (by decide) rfl ?_
            refine V_iinc (pc := 78) (lv1 := [(3, _), (2, _), (4, _), (0, _), (1, _)]) (z := _ + (1 : Int32)) 4 dX7_readBuild_78 rfl rfl (by decide) rfl ?_
            refine V_goto (pc := 81) (tgt := 18) dX7_readBuild_81 (by decide) ?_
            exact V_sub [3, 4, 1, 0] rfl (ih (v2 ||| ((1 : Int32) <<< (x9.1 &&& 31))) (v3 + (1 : Int32)) x9.2 h)
          · have h := ite_p c13 h
            refine V_aload_n (pc := 55) 1 dX7_readBuild_55 rfl rfl ?_
            refine V_dup (pc := 56) dX7_readBuild_56 rfl ?_
            refine V_getI (pc := 57) (c := 7) (k := 2) dX7_readBuild_57 (by decide) (by decide) kw510 rfl rfl (L7_0 H0) ?_
            refine V_iconst (pc := 60) (x := 1) dX7_readBuild_60 (by decide) ?_
            refine V_isub (pc := 61) dX7_readBuild_61 ?_
            refine V_putI (pc := 62) (c := 7) (k := 2) dX7_readBuild_62 (by decide) (by decide) kw510 rfl rfl rfl ⟨rfl, rfl⟩ (L7_0 H0) ?_
            refine V_aload_n (pc := 65) 1 dX7_readBuild_65 rfl rfl ?_
            refine V_iconst (pc := 66) (x := 3) dX7_readBuild_66 (by decide) ?_
            refine V_cV1 (pc := 67) dX7_readBuild_67 kw553 calX7_fail kw555 ks7 (L7_0 H0) rfl (by decide) (Nat.le_of_ble_eq_true rfl) (ctX7_fail H0) ?_
            cases h
            exact V_ret (pc := 70) dX7_readBuild_70 ⟨rfl, _, rfl, b2i_nar _⟩ ⟨rfl, rfl, rfl⟩
        · have h := ite_n c10 h
          refine V_iconst (pc := 44) (x := 0) dX7_readBuild_44 (by decide) ?_
          cases h
          exact V_ret (pc := 45) dX7_readBuild_45 ⟨rfl, _, rfl, rfl⟩ ⟨rfl, rfl, rfl⟩
theorem calX7_readBuild : Cal yX7_readBuild cX7_readBuild 5 (some .boolean) 0 := ⟨kw686, kw17, by decide +kernel⟩
theorem ctX7_readBuild {G : Gl} {σ : Sg} {d : Dt} {r0 : Nat} {r0t : Nat} {r0h : Nat} {rr : Bool × Dt} (H0 : L7 σ r0 r0t r0h) (h : mX7_readBuild r0 r0t r0h d = some rr) : CTv G yX7_readBuild cX7_readBuild 5 (some .boolean) 3 [.ref (gB G + r0)] σ d [.int (b2i rr.1)] rr.2 := by
  refine CT_of pn_RX7 (Nat.le_of_ble_eq_true rfl) ?_
  rw [mX7_readBuild] at h
  refine V_aload_n (pc := 0) 0 dX7_readBuild_0 rfl rfl ?_
  refine V_iconst (pc := 1) (x := 1) dX7_readBuild_1 (by decide) ?_
  refine V_bipush (pc := 2) (x := 99) dX7_readBuild_2 (by decide) ?_
  obtain ⟨x2, h1, h⟩ := bnd h
  refine V_cV2 (pc := 4) dX7_readBuild_4 kw566 calX7_takeWhole kw568 ks10 (L7_0 H0) rfl (by decide) (Nat.le_of_ble_eq_true rfl) (ctX7_takeWhole H0 h1) ?_
  refine V_istore_n (pc := 7) (lv1 := [(1, _), (0, _)]) dX7_readBuild_7 rfl (by decide) rfl ?_
  refine V_iload_n (pc := 8) 0 dX7_readBuild_8 rfl rfl ?_
  refine V_if_ge (pc := 9) (tgt := 14) dX7_readBuild_9 (by decide) (fun c3 => ?_) (fun c3 => ?_)
  · have h := ite_p c3 h
    refine V_iconst (pc := 14) (x := 0) dX7_readBuild_14 (by decide) ?_
    refine V_istore_n (pc := 15) (lv1 := [(2, _), (1, _), (0, _)]) dX7_readBuild_15 rfl (by decide) rfl ?_
    refine V_iconst (pc := 16) (x := 0) dX7_readBuild_16 (by decide) ?_
    refine V_istore_n (pc := 17) (lv1 := [(3, _), (2, _), (1, _), (0, _)]) dX7_readBuild_17 rfl (by decide) rfl ?_
    exact V_sub [3, 2, 1, 0] rfl (wX7_readBuild_18 H0 FUEL (0 : Int32) (0 : Int32) x2.2 h)
  · have h := ite_n c3 h
    refine V_iconst (pc := 12) (x := 0) dX7_readBuild_12 (by decide) ?_
    cases h
    exact V_ret (pc := 13) dX7_readBuild_13 ⟨rfl, _, rfl, rfl⟩ ⟨rfl, rfl, rfl⟩
theorem calX7_readLine : Cal yX7_readLine cX7_readLine 1 (some .boolean) 0 := ⟨kw538, kw17, by decide +kernel⟩
theorem ctX7_readLine {G : Gl} {σ : Sg} {d : Dt} {r0 : Nat} {r0t : Nat} {r0h : Nat} {rr : Bool × Dt} (H0 : L7 σ r0 r0t r0h) (h : mX7_readLine r0 r0t r0h d = some rr) : CTv G yX7_readLine cX7_readLine 1 (some .boolean) 11 [.ref (gB G + r0)] σ d [.int (b2i rr.1)] rr.2 := by
  refine CT_of pn_RX7 (Nat.le_of_ble_eq_true rfl) ?_
  rw [mX7_readLine] at h
  refine V_aload_n (pc := 0) 0 dX7_readLine_0 rfl rfl ?_
  refine V_ldcS (pc := 1) (i := 0) (tx := "board") dX7_readLine_1 (by decide) ?_
  obtain ⟨x2, h1, h⟩ := bnd h
  refine V_cV1 (pc := 3) dX7_readLine_3 kw540 calX7_reads kw542 ks6 (L7_0 H0) rfl (by decide) (Nat.le_of_ble_eq_true rfl) (ctX7_reads H0 (by decide) h1) ?_
  refine V_ifB_eq (pc := 6) (tgt := 29) dX7_readLine_6 (by decide) (fun c3 => ?_) (fun c3 => ?_)
  · have h := ite_f c3 h
    refine V_aload_n (pc := 29) 0 dX7_readLine_29 rfl rfl ?_
    refine V_ldcS (pc := 30) (i := 1) (tx := "node") dX7_readLine_30 (by decide) ?_
    obtain ⟨x5, h4, h⟩ := bnd h
    refine V_cV1 (pc := 32) dX7_readLine_32 kw540 calX7_reads kw542 ks6 (L7_0 H0) rfl (by decide) (Nat.le_of_ble_eq_true rfl) (ctX7_reads H0 (by decide) h4) ?_
    refine V_ifB_eq (pc := 35) (tgt := 70) dX7_readLine_35 (by decide) (fun c6 => ?_) (fun c6 => ?_)
    · have h := ite_f c6 h
      refine V_aload_n (pc := 70) 0 dX7_readLine_70 rfl rfl ?_
      refine V_ldcS (pc := 71) (i := 2) (tx := "option") dX7_readLine_71 (by decide) ?_
      obtain ⟨x8, h7, h⟩ := bnd h
      refine V_cV1 (pc := 73) dX7_readLine_73 kw540 calX7_reads kw542 ks6 (L7_0 H0) rfl (by decide) (Nat.le_of_ble_eq_true rfl) (ctX7_reads H0 (by decide) h7) ?_
      refine V_ifB_eq (pc := 76) (tgt := 107) dX7_readLine_76 (by decide) (fun c9 => ?_) (fun c9 => ?_)
      · have h := ite_f c9 h
        refine V_aload_n (pc := 107) 0 dX7_readLine_107 rfl rfl ?_
        refine V_ldcS (pc := 108) (i := 3) (tx := "plug") dX7_readLine_108 (by decide) ?_
        obtain ⟨x11, h10, h⟩ := bnd h
        refine V_cV1 (pc := 110) dX7_readLine_110 kw540 calX7_reads kw542 ks6 (L7_0 H0) rfl (by decide) (Nat.le_of_ble_eq_true rfl) (ctX7_reads H0 (by decide) h10) ?_
        refine V_ifB_eq (pc := 113) (tgt := 148) dX7_readLine_113 (by decide) (fun c12 => ?_) (fun c12 => ?_)
        · have h := ite_f c12 h
          refine V_aload_n (pc := 148) 0 dX7_readLine_148 rfl rfl ?_
          refine V_ldcS (pc := 149) (i := 4) (tx := "net") dX7_readLine_149 (by decide) ?_
          obtain ⟨x14, h13, h⟩ := bnd h
          refine V_cV1 (pc := 151) dX7_readLine_151 kw540 calX7_reads kw542 ks6 (L7_0 H0) rfl (by decide) (Nat.le_of_ble_eq_true rfl) (ctX7_reads H0 (by decide) h13) ?_
          refine V_ifB_eq (pc := 154) (tgt := 189) dX7_readLine_154 (by decide) (fun c15 => ?_) (fun c15 => ?_)
          · have h := ite_f c15 h
            refine V_aload_n (pc := 189) 0 dX7_readLine_189 rfl rfl ?_
            refine V_ldcS (pc := 190) (i := 5) (tx := "build") dX7_readLine_190 (by decide) ?_
            obtain ⟨x17, h16, h⟩ := bnd h
            refine V_cV1 (pc := 192) dX7_readLine_192 kw540 calX7_reads kw542 ks6 (L7_0 H0) rfl (by decide) (Nat.le_of_ble_eq_true rfl) (ctX7_reads H0 (by decide) h16) ?_
            refine V_ifB_eq (pc := 195) (tgt := 229) dX7_readLine_195 (by decide) (fun c18 => ?_) (fun c18 => ?_)
            · have h := ite_f c18 h
              refine V_aload_n (pc := 229) 0 dX7_readLine_229 rfl rfl ?_
              refine V_iconst (pc := 230) (x := 1) dX7_readLine_230 (by decide) ?_
              refine V_cV1 (pc := 231) dX7_readLine_231 kw553 calX7_fail kw555 ks7 (L7_0 H0) rfl (by decide) (Nat.le_of_ble_eq_true rfl) (ctX7_fail H0) ?_
              cases h
              exact V_ret (pc := 234) dX7_readLine_234 ⟨rfl, _, rfl, b2i_nar _⟩ ⟨rfl, rfl, rfl⟩
            · have h := ite_p c18 h
              refine V_aload_n (pc := 198) 0 dX7_readLine_198 rfl rfl ?_
              refine V_aload_n (pc := 199) 0 dX7_readLine_199 rfl rfl ?_
              refine V_getR (pc := 200) (c := 7) (k := 1) dX7_readLine_200 (by decide) (by decide) kw509 rfl rfl (L7_0 H0) (L7_r1 H0) ?_
              refine V_getR (pc := 203) (c := 4) (k := 9) dX7_readLine_203 (by decide) (by decide) kw250 rfl rfl (L4_0 (L7_o1 H0)) (L4_r9 (L7_o1 H0)) ?_
              refine V_getI (pc := 206) (c := 1) (k := 0) dX7_readLine_206 (by decide) (by decide) kw204 rfl rfl (L1_0 (L4_o9 (L7_o1 H0))) ?_
              refine V_iconst (pc := 209) (x := 5) dX7_readLine_209 (by decide) ?_
              refine V_cV2 (pc := 210) dX7_readLine_210 kw580 calX7_opens kw582 ks13 (L7_0 H0) rfl (by decide) (Nat.le_of_ble_eq_true rfl) (ctX7_opens H0) ?_
              refine V_ifB_eq (pc := 213) (tgt := 227) dX7_readLine_213 (by decide) (fun c23 => ?_) (fun c23 => ?_)
              · have h := ite_f c23 h
                refine V_iconst (pc := 227) (x := 0) dX7_readLine_227 (by decide) ?_
                cases h
                exact V_ret (pc := 228) dX7_readLine_228 ⟨rfl, _, rfl, rfl⟩ ⟨rfl, rfl, rfl⟩
              · have h := ite_p c23 h
                refine V_aload_n (pc := 216) 0 dX7_readLine_216 rfl rfl ?_
                obtain ⟨x25, h24, h⟩ := bnd h
                refine V_cV0 (pc := 217) dX7_readLine_217 kw683 calX7_readBuild kw685 ks26 (L7_0 H0) rfl (by decide) (Nat.le_of_ble_eq_true rfl) (ctX7_readBuild H0 h24) ?_
                refine V_ifB_eq (pc := 220) (tgt := 227) dX7_readLine_220 (by decide) (fun c26 => ?_) (fun c26 => ?_)
                · have h := ite_f c26 h
                  refine V_iconst (pc := 227) (x := 0) dX7_readLine_227 (by decide) ?_
                  cases h
                  exact V_ret (pc := 228) dX7_readLine_228 ⟨rfl, _, rfl, rfl⟩ ⟨rfl, rfl, rfl⟩
                · have h := ite_p c26 h
                  refine V_iconst (pc := 223) (x := 1) dX7_readLine_223 (by decide) ?_
                  refine V_goto (pc := 224) (tgt := 228) dX7_readLine_224 (by decide) ?_
                  cases h
                  exact V_ret (pc := 228) dX7_readLine_228 ⟨rfl, _, rfl, rfl⟩ ⟨rfl, rfl, rfl⟩
          · have h := ite_p c15 h
            refine V_aload_n (pc := 157) 0 dX7_readLine_157 rfl rfl ?_
            refine V_aload_n (pc := 158) 0 dX7_readLine_158 rfl rfl ?_
            refine V_getR (pc := 159) (c := 7) (k := 1) dX7_readLine_159 (by decide) (by decide) kw509 rfl rfl (L7_0 H0) (L7_r1 H0) ?_
            refine V_getR (pc := 162) (c := 4) (k := 8) dX7_readLine_162 (by decide) (by decide) kw243 rfl rfl (L4_0 (L7_o1 H0)) (L4_r8 (L7_o1 H0)) ?_
            refine V_getI (pc := 165) (c := 5) (k := 0) dX7_readLine_165 (by decide) (by decide) kw139 rfl rfl (L5_0 (L4_o8 (L7_o1 H0))) ?_
            refine V_bipush (pc := 168) (x := 10) dX7_readLine_168 (by decide) ?_
            refine V_cV2 (pc := 170) dX7_readLine_170 kw580 calX7_opens kw582 ks13 (L7_0 H0) rfl (by decide) (Nat.le_of_ble_eq_true rfl) (ctX7_opens H0) ?_
            refine V_ifB_eq (pc := 173) (tgt := 187) dX7_readLine_173 (by decide) (fun c29 => ?_) (fun c29 => ?_)
            · have h := ite_f c29 h
              refine V_iconst (pc := 187) (x := 0) dX7_readLine_187 (by decide) ?_
              cases h
              exact V_ret (pc := 188) dX7_readLine_188 ⟨rfl, _, rfl, rfl⟩ ⟨rfl, rfl, rfl⟩
            · have h := ite_p c29 h
              refine V_aload_n (pc := 176) 0 dX7_readLine_176 rfl rfl ?_
              obtain ⟨x31, h30, h⟩ := bnd h
              refine V_cV0 (pc := 177) dX7_readLine_177 kw651 calX7_readNet kw653 ks23 (L7_0 H0) rfl (by decide) (Nat.le_of_ble_eq_true rfl) (ctX7_readNet H0 h30) ?_
              refine V_ifB_eq (pc := 180) (tgt := 187) dX7_readLine_180 (by decide) (fun c32 => ?_) (fun c32 => ?_)
              · have h := ite_f c32 h
                refine V_iconst (pc := 187) (x := 0) dX7_readLine_187 (by decide) ?_
                cases h
                exact V_ret (pc := 188) dX7_readLine_188 ⟨rfl, _, rfl, rfl⟩ ⟨rfl, rfl, rfl⟩
              · have h := ite_p c32 h
                refine V_iconst (pc := 183) (x := 1) dX7_readLine_183 (by decide) ?_
                refine V_goto (pc := 184) (tgt := 188) dX7_readLine_184 (by decide) ?_
                cases h
                exact V_ret (pc := 188) dX7_readLine_188 ⟨rfl, _, rfl, rfl⟩ ⟨rfl, rfl, rfl⟩
        · have h := ite_p c12 h
          refine V_aload_n (pc := 116) 0 dX7_readLine_116 rfl rfl ?_
          refine V_aload_n (pc := 117) 0 dX7_readLine_117 rfl rfl ?_
          refine V_getR (pc := 118) (c := 7) (k := 1) dX7_readLine_118 (by decide) (by decide) kw509 rfl rfl (L7_0 H0) (L7_r1 H0) ?_
          refine V_getR (pc := 121) (c := 4) (k := 7) dX7_readLine_121 (by decide) (by decide) kw240 rfl rfl (L4_0 (L7_o1 H0)) (L4_r7 (L7_o1 H0)) ?_
          refine V_getI (pc := 124) (c := 6) (k := 0) dX7_readLine_124 (by decide) (by decide) kw96 rfl rfl (L6_0 (L4_o7 (L7_o1 H0))) ?_
          refine V_bipush (pc := 127) (x := 8) dX7_readLine_127 (by decide) ?_
          refine V_cV2 (pc := 129) dX7_readLine_129 kw580 calX7_opens kw582 ks13 (L7_0 H0) rfl (by decide) (Nat.le_of_ble_eq_true rfl) (ctX7_opens H0) ?_
          refine V_ifB_eq (pc := 132) (tgt := 146) dX7_readLine_132 (by decide) (fun c35 => ?_) (fun c35 => ?_)
          · have h := ite_f c35 h
            refine V_iconst (pc := 146) (x := 0) dX7_readLine_146 (by decide) ?_
            cases h
            exact V_ret (pc := 147) dX7_readLine_147 ⟨rfl, _, rfl, rfl⟩ ⟨rfl, rfl, rfl⟩
          · have h := ite_p c35 h
            refine V_aload_n (pc := 135) 0 dX7_readLine_135 rfl rfl ?_
            obtain ⟨x37, h36, h⟩ := bnd h
            refine V_cV0 (pc := 136) dX7_readLine_136 kw632 calX7_readPlug kw634 ks21 (L7_0 H0) rfl (by decide) (Nat.le_of_ble_eq_true rfl) (ctX7_readPlug H0 h36) ?_
            refine V_ifB_eq (pc := 139) (tgt := 146) dX7_readLine_139 (by decide) (fun c38 => ?_) (fun c38 => ?_)
            · have h := ite_f c38 h
              refine V_iconst (pc := 146) (x := 0) dX7_readLine_146 (by decide) ?_
              cases h
              exact V_ret (pc := 147) dX7_readLine_147 ⟨rfl, _, rfl, rfl⟩ ⟨rfl, rfl, rfl⟩
            · have h := ite_p c38 h
              refine V_iconst (pc := 142) (x := 1) dX7_readLine_142 (by decide) ?_
              refine V_goto (pc := 143) (tgt := 147) dX7_readLine_143 (by decide) ?_
              cases h
              exact V_ret (pc := 147) dX7_readLine_147 ⟨rfl, _, rfl, rfl⟩ ⟨rfl, rfl, rfl⟩
      · have h := ite_p c9 h
        refine V_aload_n (pc := 79) 0 dX7_readLine_79 rfl rfl ?_
        refine V_aload_n (pc := 80) 0 dX7_readLine_80 rfl rfl ?_
        refine V_getR (pc := 81) (c := 7) (k := 1) dX7_readLine_81 (by decide) (by decide) kw509 rfl rfl (L7_0 H0) (L7_r1 H0) ?_
        refine V_getI (pc := 84) (c := 4) (k := 2) dX7_readLine_84 (by decide) (by decide) kw228 rfl rfl (L4_0 (L7_o1 H0)) ?_
        refine V_iconst (pc := 87) (x := 4) dX7_readLine_87 (by decide) ?_
        refine V_cV2 (pc := 88) dX7_readLine_88 kw580 calX7_opens kw582 ks13 (L7_0 H0) rfl (by decide) (Nat.le_of_ble_eq_true rfl) (ctX7_opens H0) ?_
        refine V_ifB_eq (pc := 91) (tgt := 105) dX7_readLine_91 (by decide) (fun c41 => ?_) (fun c41 => ?_)
        · have h := ite_f c41 h
          refine V_iconst (pc := 105) (x := 0) dX7_readLine_105 (by decide) ?_
          cases h
          exact V_ret (pc := 106) dX7_readLine_106 ⟨rfl, _, rfl, rfl⟩ ⟨rfl, rfl, rfl⟩
        · have h := ite_p c41 h
          refine V_aload_n (pc := 94) 0 dX7_readLine_94 rfl rfl ?_
          obtain ⟨x43, h42, h⟩ := bnd h
          refine V_cV0 (pc := 95) dX7_readLine_95 kw627 calX7_readOption kw629 ks20 (L7_0 H0) rfl (by decide) (Nat.le_of_ble_eq_true rfl) (ctX7_readOption H0 h42) ?_
          refine V_ifB_eq (pc := 98) (tgt := 105) dX7_readLine_98 (by decide) (fun c44 => ?_) (fun c44 => ?_)
          · have h := ite_f c44 h
            refine V_iconst (pc := 105) (x := 0) dX7_readLine_105 (by decide) ?_
            cases h
            exact V_ret (pc := 106) dX7_readLine_106 ⟨rfl, _, rfl, rfl⟩ ⟨rfl, rfl, rfl⟩
          · have h := ite_p c44 h
            refine V_iconst (pc := 101) (x := 1) dX7_readLine_101 (by decide) ?_
            refine V_goto (pc := 102) (tgt := 106) dX7_readLine_102 (by decide) ?_
            cases h
            exact V_ret (pc := 106) dX7_readLine_106 ⟨rfl, _, rfl, rfl⟩ ⟨rfl, rfl, rfl⟩
    · have h := ite_p c6 h
      refine V_aload_n (pc := 38) 0 dX7_readLine_38 rfl rfl ?_
      refine V_aload_n (pc := 39) 0 dX7_readLine_39 rfl rfl ?_
      refine V_getR (pc := 40) (c := 7) (k := 1) dX7_readLine_40 (by decide) (by decide) kw509 rfl rfl (L7_0 H0) (L7_r1 H0) ?_
      refine V_getR (pc := 43) (c := 4) (k := 6) dX7_readLine_43 (by decide) (by decide) kw235 rfl rfl (L4_0 (L7_o1 H0)) (L4_r6 (L7_o1 H0)) ?_
      refine V_getI (pc := 46) (c := 9) (k := 0) dX7_readLine_46 (by decide) (by decide) kw51 rfl rfl (L9_0 (L4_o6 (L7_o1 H0))) ?_
      refine V_bipush (pc := 49) (x := 14) dX7_readLine_49 (by decide) ?_
      refine V_cV2 (pc := 51) dX7_readLine_51 kw580 calX7_opens kw582 ks13 (L7_0 H0) rfl (by decide) (Nat.le_of_ble_eq_true rfl) (ctX7_opens H0) ?_
      refine V_ifB_eq (pc := 54) (tgt := 68) dX7_readLine_54 (by decide) (fun c47 => ?_) (fun c47 => ?_)
      · have h := ite_f c47 h
        refine V_iconst (pc := 68) (x := 0) dX7_readLine_68 (by decide) ?_
        cases h
        exact V_ret (pc := 69) dX7_readLine_69 ⟨rfl, _, rfl, rfl⟩ ⟨rfl, rfl, rfl⟩
      · have h := ite_p c47 h
        refine V_aload_n (pc := 57) 0 dX7_readLine_57 rfl rfl ?_
        obtain ⟨x49, h48, h⟩ := bnd h
        refine V_cV0 (pc := 58) dX7_readLine_58 kw584 calX7_readNode kw586 ks14 (L7_0 H0) rfl (by decide) (Nat.le_of_ble_eq_true rfl) (ctX7_readNode H0 h48) ?_
        refine V_ifB_eq (pc := 61) (tgt := 68) dX7_readLine_61 (by decide) (fun c50 => ?_) (fun c50 => ?_)
        · have h := ite_f c50 h
          refine V_iconst (pc := 68) (x := 0) dX7_readLine_68 (by decide) ?_
          cases h
          exact V_ret (pc := 69) dX7_readLine_69 ⟨rfl, _, rfl, rfl⟩ ⟨rfl, rfl, rfl⟩
        · have h := ite_p c50 h
          refine V_iconst (pc := 64) (x := 1) dX7_readLine_64 (by decide) ?_
          refine V_goto (pc := 65) (tgt := 69) dX7_readLine_65 (by decide) ?_
          cases h
          exact V_ret (pc := 69) dX7_readLine_69 ⟨rfl, _, rfl, rfl⟩ ⟨rfl, rfl, rfl⟩
  · have h := ite_p c3 h
    refine V_aload_n (pc := 9) 0 dX7_readLine_9 rfl rfl ?_
    refine V_getI (pc := 10) (c := 7) (k := 5) dX7_readLine_10 (by decide) (by decide) kw513 rfl rfl (L7_0 H0) ?_
    refine V_if_eq (pc := 13) (tgt := 24) dX7_readLine_13 (by decide) (fun c51 => ?_) (fun c51 => ?_)
    · have h := ite_p c51 h
      refine V_aload_n (pc := 24) 0 dX7_readLine_24 rfl rfl ?_
      obtain ⟨x53, h52, h⟩ := bnd h
      refine V_cV0 (pc := 25) dX7_readLine_25 kw557 calX7_readBoard kw559 ks8 (L7_0 H0) rfl (by decide) (Nat.le_of_ble_eq_true rfl) (ctX7_readBoard H0 h52) ?_
      cases h
      exact V_ret (pc := 28) dX7_readLine_28 ⟨rfl, _, rfl, b2i_nar _⟩ ⟨rfl, rfl, rfl⟩
    · have h := ite_n c51 h
      refine V_aload_n (pc := 16) 0 dX7_readLine_16 rfl rfl ?_
      refine V_iconst (pc := 17) (x := 3) dX7_readLine_17 (by decide) ?_
      refine V_cV1 (pc := 18) dX7_readLine_18 kw553 calX7_fail kw555 ks7 (L7_0 H0) rfl (by decide) (Nat.le_of_ble_eq_true rfl) (ctX7_fail H0) ?_
      refine V_goto (pc := 21) (tgt := 28) dX7_readLine_21 (by decide) ?_
      cases h
      exact V_ret (pc := 28) dX7_readLine_28 ⟨rfl, _, rfl, b2i_nar _⟩ ⟨rfl, rfl, rfl⟩
theorem wX7_readAll_2 {G : Gl} {σ : Sg} {r0 : Nat} {r0t : Nat} {r0h : Nat} {rr : Bool × Dt} (H0 : L7 σ r0 r0t r0h) : ∀ (n : Nat) (v1 : Int32) (d : Dt), mX7_readAll_2 r0 r0t r0h n v1 d = some rr → V G yX7_readAll cX7_readAll 2 (some .boolean) 12 0 0 (PH [.int (b2i rr.1)] σ rr.2) 2 [(0, .ref (gB G + r0)), (1, .int v1)] [] σ d := by
  intro n
  induction n with
  | zero =>
    intro v1 d
    intros
    rename_i h
    exact absurd h (by rw [mX7_readAll_2]; exact fun q => nomatch q)
  | succ n ih =>
    intro v1 d h
    rw [mX7_readAll_2] at h
    refine V_iload_n (pc := 2) 1 dX7_readAll_2 rfl rfl ?_
    refine V_sipush (pc := 3) (x := 1000) dX7_readAll_3 (by decide) ?_
    refine V_icmp_gt (pc := 6) (tgt := 71) dX7_readAll_6 (by decide) (fun c1 => ?_) (fun c1 => ?_)
    · have h := ite_p c1 h
      refine V_aload_n (pc := 71) 0 dX7_readAll_71 rfl rfl ?_
      refine V_iconst (pc := 72) (x := 1) dX7_readAll_72 (by decide) ?_
      refine V_cV1 (pc := 73) dX7_readAll_73 kw553 calX7_fail kw555 ks7 (L7_0 H0) rfl (by decide) (Nat.le_of_ble_eq_true rfl) (ctX7_fail H0) ?_
      cases h
      exact V_ret (pc := 76) dX7_readAll_76 ⟨rfl, _, rfl, b2i_nar _⟩ ⟨rfl, rfl, rfl⟩
    · have h := ite_n c1 h
      refine V_aload_n (pc := 9) 0 dX7_readAll_9 rfl rfl ?_
      obtain ⟨x5, h4, h⟩ := bnd h
      refine V_cV0 (pc := 10) dX7_readAll_10 kw535 calX7_readLine kw537 ks5 (L7_0 H0) rfl (by decide) (Nat.le_of_ble_eq_true rfl) (ctX7_readLine H0 h4) ?_
      refine V_ifB_ne (pc := 13) (tgt := 18) dX7_readAll_13 (by decide) (fun c6 => ?_) (fun c6 => ?_)
      · have h := ite_p c6 h
        refine V_aload_n (pc := 18) 0 dX7_readAll_18 rfl rfl ?_
        refine V_bipush (pc := 19) (x := 6) dX7_readAll_19 (by decide) ?_
        obtain ⟨x8, h7, h⟩ := bnd h
        refine V_cV1 (pc := 21) dX7_readAll_21 kw570 calX7_sees kw572 ks11 (L7_0 H0) rfl (by decide) (Nat.le_of_ble_eq_true rfl) (ctX7_sees H0 h7) ?_
        refine V_ifB_eq (pc := 24) (tgt := 55) dX7_readAll_24 (by decide) (fun c9 => ?_) (fun c9 => ?_)
        · have h := ite_f c9 h
          refine V_aload_n (pc := 55) 0 dX7_readAll_55 rfl rfl ?_
          refine V_dup (pc := 56) dX7_readAll_56 rfl ?_
          refine V_getI (pc := 57) (c := 7) (k := 2) dX7_readAll_57 (by decide) (by decide) kw510 rfl rfl (L7_0 H0) ?_
          refine V_iconst (pc := 60) (x := 1) dX7_readAll_60 (by decide) ?_
          refine V_iadd (pc := 61) dX7_readAll_61 ?_
          refine V_putI (pc := 62) (c := 7) (k := 2) dX7_readAll_62 (by decide) (by decide) kw510 rfl rfl rfl ⟨rfl, rfl⟩ (L7_0 H0) ?_
          refine V_iinc (pc := 65) (lv1 := [(1, _), (0, _)]) (z := _ + (1 : Int32)) 1 dX7_readAll_65 rfl rfl (by decide) rfl ?_
          refine V_goto (pc := 68) (tgt := 2) dX7_readAll_68 (by decide) ?_
          exact V_sub [1, 0] rfl (ih (v1 + (1 : Int32)) (uI x5.2 r0 2 ((x5.2.1 r0 2) + (1 : Int32))) h)
        · have h := ite_p c9 h
          refine V_aload_n (pc := 27) 0 dX7_readAll_27 rfl rfl ?_
          refine V_getR (pc := 28) (c := 7) (k := 1) dX7_readAll_28 (by decide) (by decide) kw509 rfl rfl (L7_0 H0) (L7_r1 H0) ?_
          refine V_getR (pc := 31) (c := 4) (k := 8) dX7_readAll_31 (by decide) (by decide) kw243 rfl rfl (L4_0 (L7_o1 H0)) (L4_r8 (L7_o1 H0)) ?_
          refine V_getI (pc := 34) (c := 5) (k := 0) dX7_readAll_34 (by decide) (by decide) kw139 rfl rfl (L5_0 (L4_o8 (L7_o1 H0))) ?_
          refine V_if_gt (pc := 37) (tgt := 49) dX7_readAll_37 (by decide) (fun c10 => ?_) (fun c10 => ?_)
          · have h := ite_p c10 h
            refine V_iconst (pc := 49) (x := 1) dX7_readAll_49 (by decide) ?_
            refine V_goto (pc := 50) (tgt := 54) dX7_readAll_50 (by decide) ?_
            cases h
            exact V_ret (pc := 54) dX7_readAll_54 ⟨rfl, _, rfl, rfl⟩ ⟨rfl, rfl, rfl⟩
          · have h := ite_n c10 h
            refine V_aload_n (pc := 40) 0 dX7_readAll_40 rfl rfl ?_
            refine V_bipush (pc := 41) (x := 6) dX7_readAll_41 (by decide) ?_
            refine V_cV1 (pc := 43) dX7_readAll_43 kw553 calX7_fail kw555 ks7 (L7_0 H0) rfl (by decide) (Nat.le_of_ble_eq_true rfl) (ctX7_fail H0) ?_
            refine V_ifB_eq (pc := 46) (tgt := 53) dX7_readAll_46 (by decide) (fun c13 => ?_) (fun c13 => ?_)
            · have h := ite_f c13 h
              refine V_iconst (pc := 53) (x := 0) dX7_readAll_53 (by decide) ?_
              cases h
              exact V_ret (pc := 54) dX7_readAll_54 ⟨rfl, _, rfl, rfl⟩ ⟨rfl, rfl, rfl⟩
            · have h := ite_p c13 h
              refine V_iconst (pc := 49) (x := 1) dX7_readAll_49 (by decide) ?_
              refine V_goto (pc := 50) (tgt := 54) dX7_readAll_50 (by decide) ?_
              cases h
              exact V_ret (pc := 54) dX7_readAll_54 ⟨rfl, _, rfl, rfl⟩ ⟨rfl, rfl, rfl⟩
      · have h := ite_f c6 h
        refine V_iconst (pc := 16) (x := 0) dX7_readAll_16 (by decide) ?_
        cases h
        exact V_ret (pc := 17) dX7_readAll_17 ⟨rfl, _, rfl, rfl⟩ ⟨rfl, rfl, rfl⟩
theorem calX7_readAll : Cal yX7_readAll cX7_readAll 2 (some .boolean) 0 := ⟨kw534, kw17, by decide +kernel⟩
theorem ctX7_readAll {G : Gl} {σ : Sg} {d : Dt} {r0 : Nat} {r0t : Nat} {r0h : Nat} {rr : Bool × Dt} (H0 : L7 σ r0 r0t r0h) (h : mX7_readAll r0 r0t r0h d = some rr) : CTv G yX7_readAll cX7_readAll 2 (some .boolean) 12 [.ref (gB G + r0)] σ d [.int (b2i rr.1)] rr.2 := by
  refine CT_of pn_RX7 (Nat.le_of_ble_eq_true rfl) ?_
  rw [mX7_readAll] at h
  refine V_iconst (pc := 0) (x := 0) dX7_readAll_0 (by decide) ?_
  refine V_istore_n (pc := 1) (lv1 := [(1, _), (0, _)]) dX7_readAll_1 rfl (by decide) rfl ?_
  exact V_sub [1, 0] rfl (wX7_readAll_2 H0 FUEL (0 : Int32) d h)
theorem calX8_placeOf : Cal yX8_placeOf cX8_placeOf 2 (some .int) 1 := ⟨kw703, kw7, by decide +kernel⟩
theorem ctX8_placeOf {G : Gl} {σ : Sg} {d : Dt} {r0 : Nat} {v1 : Int32} {rr : Int32} (H0 : L8 σ r0) (h : mX8_placeOf r0 v1 d = some rr) : CTv G yX8_placeOf cX8_placeOf 2 (some .int) 0 [.ref (gB G + r0), .int v1] σ d [.int rr] d := by
  refine CT_of pn_RX8 (Nat.le_of_ble_eq_true rfl) ?_
  rw [mX8_placeOf] at h
  refine V_iload_n (pc := 0) 1 dX8_placeOf_0 rfl rfl ?_
  refine V_if_lt (pc := 1) (tgt := 21) dX8_placeOf_1 (by decide) (fun c1 => ?_) (fun c1 => ?_)
  · have h := ite_p c1 h
    refine V_aload_n (pc := 21) 0 dX8_placeOf_21 rfl rfl ?_
    refine V_getI (pc := 22) (c := 8) (k := 1) dX8_placeOf_22 (by decide) (by decide) kw279 rfl rfl (L8_0 H0) ?_
    cases h
    exact V_ret (pc := 25) dX8_placeOf_25 ⟨rfl, _, rfl⟩ ⟨rfl, rfl, rfl⟩
  · have h := ite_n c1 h
    refine V_iload_n (pc := 4) 1 dX8_placeOf_4 rfl rfl ?_
    refine V_aload_n (pc := 5) 0 dX8_placeOf_5 rfl rfl ?_
    refine V_getI (pc := 6) (c := 8) (k := 0) dX8_placeOf_6 (by decide) (by decide) kw278 rfl rfl (L8_0 H0) ?_
    refine V_icmp_ge (pc := 9) (tgt := 21) dX8_placeOf_9 (by decide) (fun c2 => ?_) (fun c2 => ?_)
    · have h := ite_p c2 h
      refine V_aload_n (pc := 21) 0 dX8_placeOf_21 rfl rfl ?_
      refine V_getI (pc := 22) (c := 8) (k := 1) dX8_placeOf_22 (by decide) (by decide) kw279 rfl rfl (L8_0 H0) ?_
      cases h
      exact V_ret (pc := 25) dX8_placeOf_25 ⟨rfl, _, rfl⟩ ⟨rfl, rfl, rfl⟩
    · have h := ite_n c2 h
      refine V_aload_n (pc := 12) 0 dX8_placeOf_12 rfl rfl ?_
      refine V_getR (pc := 13) (c := 8) (k := 3) dX8_placeOf_13 (by decide) (by decide) kw281 rfl rfl (L8_0 H0) (L8_r3 H0) ?_
      refine V_iload_n (pc := 16) 1 dX8_placeOf_16 rfl rfl ?_
      obtain ⟨b3, h⟩ := ite_o h
      refine V_iald (pc := 17) dX8_placeOf_17 (L8_s3 H0) (inB_vp b3) ?_
      refine V_goto (pc := 18) (tgt := 25) dX8_placeOf_18 (by decide) ?_
      cases h
      exact V_ret (pc := 25) dX8_placeOf_25 ⟨rfl, _, rfl⟩ ⟨rfl, rfl, rfl⟩
theorem calX7_placeOfFault : Cal yX7_placeOfFault cX7_placeOfFault 1 (some .int) 0 := ⟨kw699, kw17, by decide +kernel⟩
theorem ctX7_placeOfFault {G : Gl} {σ : Sg} {d : Dt} {r0 : Nat} {r0t : Nat} {r0h : Nat} {rr : Int32} (H0 : L7 σ r0 r0t r0h) (h : mX7_placeOfFault r0 r0t r0h d = some rr) : CTv G yX7_placeOfFault cX7_placeOfFault 1 (some .int) 1 [.ref (gB G + r0)] σ d [.int rr] d := by
  refine CT_of pn_RX7 (Nat.le_of_ble_eq_true rfl) ?_
  rw [mX7_placeOfFault] at h
  refine V_aload_n (pc := 0) 0 dX7_placeOfFault_0 rfl rfl ?_
  refine V_getR (pc := 1) (c := 7) (k := 0) dX7_placeOfFault_1 (by decide) (by decide) kw508 rfl rfl (L7_0 H0) (L7_r0 H0) ?_
  refine V_aload_n (pc := 4) 0 dX7_placeOfFault_4 rfl rfl ?_
  refine V_getI (pc := 5) (c := 7) (k := 2) dX7_placeOfFault_5 (by decide) (by decide) kw510 rfl rfl (L7_0 H0) ?_
  obtain ⟨x2, h1, h⟩ := bnd h
  refine V_cV1 (pc := 8) dX7_placeOfFault_8 kw700 calX8_placeOf kw701 kw702 (L8_0 (L7_o0 H0)) rfl (by decide) (Nat.le_of_ble_eq_true rfl) (ctX8_placeOf (L7_o0 H0) h1) ?_
  cases h
  exact V_ret (pc := 11) dX7_placeOfFault_11 ⟨rfl, _, rfl⟩ ⟨rfl, rfl, rfl⟩
theorem wX9_measureFrom_62 {G : Gl} {σ : Sg} {r0 : Nat} {v1 : Int32} {v2 : Int32} {rr : Dt} (H0 : L9 σ r0) : ∀ (n : Nat) (v3 : Int32) (d : Dt), mX9_measureFrom_62 r0 v1 v2 n v3 d = some rr → V G yX9_measureFrom cX9_measureFrom 4 none 0 0 0 (PH [] σ rr) 62 [(0, .ref (gB G + r0)), (1, .int v1), (2, .int v2), (3, .int v3)] [] σ d := by
  intro n
  induction n with
  | zero =>
    intro v3 d
    intros
    rename_i h
    exact absurd h (by rw [mX9_measureFrom_62]; exact fun q => nomatch q)
  | succ n ih =>
    intro v3 d h
    rw [mX9_measureFrom_62] at h
    refine V_iload_n (pc := 62) 3 dX9_measureFrom_62 rfl rfl ?_
    refine V_iload_n (pc := 63) 1 dX9_measureFrom_63 rfl rfl ?_
    refine V_icmp_ge (pc := 64) (tgt := 112) dX9_measureFrom_64 (by decide) (fun c11 => ?_) (fun c11 => ?_)
    · have h := ite_p c11 h
      cases h
      exact V_ret (pc := 112) dX9_measureFrom_112 ⟨rfl, rfl⟩ ⟨rfl, rfl, rfl⟩
    · have h := ite_n c11 h
      refine V_aload_n (pc := 67) 0 dX9_measureFrom_67 rfl rfl ?_
      refine V_getR (pc := 68) (c := 9) (k := 7) dX9_measureFrom_68 (by decide) (by decide) kw63 rfl rfl (L9_0 H0) (L9_r7 H0) ?_
      refine V_iload_n (pc := 71) 1 dX9_measureFrom_71 rfl rfl ?_
      obtain ⟨b12, h⟩ := ite_o h
      refine V_aald (pc := 72) dX9_measureFrom_72 (⟨L9_s7 H0, L9_g7 H0⟩ : GR σ _ _ _).1 (inB_vp b12) ((⟨L9_s7 H0, L9_g7 H0⟩ : GR σ _ _ _).2 _ (inB_lt b12)).1 ?_
      refine V_iload_n (pc := 73) 3 dX9_measureFrom_73 rfl rfl ?_
      refine V_aload_n (pc := 74) 0 dX9_measureFrom_74 rfl rfl ?_
      refine V_getR (pc := 75) (c := 9) (k := 7) dX9_measureFrom_75 (by decide) (by decide) kw63 rfl rfl (L9_0 H0) (L9_r7 H0) ?_
      refine V_iload_n (pc := 78) 2 dX9_measureFrom_78 rfl rfl ?_
      obtain ⟨b13, h⟩ := ite_o h
      refine V_aald (pc := 79) dX9_measureFrom_79 (⟨L9_s7 H0, L9_g7 H0⟩ : GR σ _ _ _).1 (inB_vp b13) ((⟨L9_s7 H0, L9_g7 H0⟩ : GR σ _ _ _).2 _ (inB_lt b13)).1 ?_
      refine V_iload_n (pc := 80) 3 dX9_measureFrom_80 rfl rfl ?_
      obtain ⟨b14, h⟩ := ite_o h
      refine V_iald (pc := 81) dX9_measureFrom_81 ((⟨L9_s7 H0, L9_g7 H0⟩ : GR σ _ _ _).2 _ (inB_lt b13)).2 (inB_vp b14) ?_
      refine V_aload_n (pc := 82) 0 dX9_measureFrom_82 rfl rfl ?_
      refine V_getR (pc := 83) (c := 9) (k := 2) dX9_measureFrom_83 (by decide) (by decide) kw54 rfl rfl (L9_0 H0) (L9_r2 H0) ?_
      refine V_iload_n (pc := 86) 1 dX9_measureFrom_86 rfl rfl ?_
      obtain ⟨b15, h⟩ := ite_o h
      refine V_iald (pc := 87) dX9_measureFrom_87 (L9_s2 H0) (inB_vp b15) ?_
      refine V_iadd (pc := 88) dX9_measureFrom_88 ?_
      obtain ⟨b16, h⟩ := ite_o h
      refine V_iast (pc := 89) dX9_measureFrom_89 ((⟨L9_s7 H0, L9_g7 H0⟩ : GR σ _ _ _).2 _ (inB_lt b12)).2 (inB_vp b16) ?_
      refine V_aload_n (pc := 90) 0 dX9_measureFrom_90 rfl rfl ?_
      refine V_getR (pc := 91) (c := 9) (k := 7) dX9_measureFrom_91 (by decide) (by decide) kw63 rfl rfl (L9_0 H0) (L9_r7 H0) ?_
      refine V_iload_n (pc := 94) 3 dX9_measureFrom_94 rfl rfl ?_
      obtain ⟨b17, h⟩ := ite_o h
      refine V_aald (pc := 95) dX9_measureFrom_95 (⟨L9_s7 H0, L9_g7 H0⟩ : GR σ _ _ _).1 (inB_vp b17) ((⟨L9_s7 H0, L9_g7 H0⟩ : GR σ _ _ _).2 _ (inB_lt b17)).1 ?_
      refine V_iload_n (pc := 96) 1 dX9_measureFrom_96 rfl rfl ?_
      refine V_aload_n (pc := 97) 0 dX9_measureFrom_97 rfl rfl ?_
      refine V_getR (pc := 98) (c := 9) (k := 7) dX9_measureFrom_98 (by decide) (by decide) kw63 rfl rfl (L9_0 H0) (L9_r7 H0) ?_
      refine V_iload_n (pc := 101) 1 dX9_measureFrom_101 rfl rfl ?_
      obtain ⟨b18, h⟩ := ite_o h
      refine V_aald (pc := 102) dX9_measureFrom_102 (⟨L9_s7 H0, L9_g7 H0⟩ : GR σ _ _ _).1 (inB_vp b18) ((⟨L9_s7 H0, L9_g7 H0⟩ : GR σ _ _ _).2 _ (inB_lt b18)).1 ?_
      refine V_iload_n (pc := 103) 3 dX9_measureFrom_103 rfl rfl ?_
      obtain ⟨b19, h⟩ := ite_o h
      refine V_iald (pc := 104) dX9_measureFrom_104 ((⟨L9_s7 H0, L9_g7 H0⟩ : GR σ _ _ _).2 _ (inB_lt b18)).2 (inB_vp b19) ?_
      obtain ⟨b20, h⟩ := ite_o h
      refine V_iast (pc := 105) dX9_measureFrom_105 ((⟨L9_s7 H0, L9_g7 H0⟩ : GR σ _ _ _).2 _ (inB_lt b17)).2 (inB_vp b20) ?_
      refine V_iinc (pc := 106) (lv1 := [(3, _), (0, _), (1, _), (2, _)]) (z := _ + (1 : Int32)) 3 dX9_measureFrom_106 rfl rfl (by decide) rfl ?_
      refine V_goto (pc := 109) (tgt := 62) dX9_measureFrom_109 (by decide) ?_
      exact V_sub [1, 2, 3, 0] rfl (ih (v3 + (1 : Int32)) (uI (uI d ((r0 + 8) + v1.toNatClampNeg) v3.toNatClampNeg ((d.1 ((r0 + 8) + v2.toNatClampNeg) v3.toNatClampNeg) + (d.1 (r0 + 2) v1.toNatClampNeg))) ((r0 + 8) + v3.toNatClampNeg) v1.toNatClampNeg ((uI d ((r0 + 8) + v1.toNatClampNeg) v3.toNatClampNeg ((d.1 ((r0 + 8) + v2.toNatClampNeg) v3.toNatClampNeg) + (d.1 (r0 + 2) v1.toNatClampNeg))).1 ((r0 + 8) + v1.toNatClampNeg) v3.toNatClampNeg)) h)
theorem calX9_measureFrom : Cal yX9_measureFrom cX9_measureFrom 4 none 2 := ⟨kw715, kw3, by decide +kernel⟩
theorem ctX9_measureFrom {G : Gl} {σ : Sg} {d : Dt} {r0 : Nat} {v1 : Int32} {v2 : Int32} {rr : Dt} (H0 : L9 σ r0) (h : mX9_measureFrom r0 v1 v2 d = some rr) : CTv G yX9_measureFrom cX9_measureFrom 4 none 0 [.ref (gB G + r0), .int v1, .int v2] σ d [] rr := by
  refine CT_of pn_RX9 (Nat.le_of_ble_eq_true rfl) ?_
  rw [mX9_measureFrom] at h
  refine V_aload_n (pc := 0) 0 dX9_measureFrom_0 rfl rfl ?_
  refine V_getR (pc := 1) (c := 9) (k := 4) dX9_measureFrom_1 (by decide) (by decide) kw58 rfl rfl (L9_0 H0) (L9_r4 H0) ?_
  refine V_iload_n (pc := 4) 1 dX9_measureFrom_4 rfl rfl ?_
  refine V_aload_n (pc := 5) 0 dX9_measureFrom_5 rfl rfl ?_
  refine V_getR (pc := 6) (c := 9) (k := 4) dX9_measureFrom_6 (by decide) (by decide) kw58 rfl rfl (L9_0 H0) (L9_r4 H0) ?_
  refine V_iload_n (pc := 9) 2 dX9_measureFrom_9 rfl rfl ?_
  obtain ⟨b1, h⟩ := ite_o h
  refine V_iald (pc := 10) dX9_measureFrom_10 (L9_s4 H0) (inB_vp b1) ?_
  refine V_getsA (pc := 11) (C := "SplicedLoom") (n := "SIDE_X") (host := "SplicedLoom") (i := 0) (l := [0, 1, 0, -1]) dX9_measureFrom_11 (by decide) (by decide) ?_
  refine V_aload_n (pc := 14) 0 dX9_measureFrom_14 rfl rfl ?_
  refine V_getR (pc := 15) (c := 9) (k := 3) dX9_measureFrom_15 (by decide) (by decide) kw56 rfl rfl (L9_0 H0) (L9_r3 H0) ?_
  refine V_iload_n (pc := 18) 1 dX9_measureFrom_18 rfl rfl ?_
  obtain ⟨b2, h⟩ := ite_o h
  refine V_iald (pc := 19) dX9_measureFrom_19 (L9_s3 H0) (inB_vp b2) ?_
  obtain ⟨b3, h⟩ := ite_o h
  refine V_ialdC (pc := 20) (C := "SplicedLoom") (n := "SIDE_X") (i := 0) (l := [0, 1, 0, -1]) dX9_measureFrom_20 (by decide) (inB_vp b3) ?_
  refine V_aload_n (pc := 21) 0 dX9_measureFrom_21 rfl rfl ?_
  refine V_getR (pc := 22) (c := 9) (k := 2) dX9_measureFrom_22 (by decide) (by decide) kw54 rfl rfl (L9_0 H0) (L9_r2 H0) ?_
  refine V_iload_n (pc := 25) 1 dX9_measureFrom_25 rfl rfl ?_
  obtain ⟨b4, h⟩ := ite_o h
  refine V_iald (pc := 26) dX9_measureFrom_26 (L9_s2 H0) (inB_vp b4) ?_
  refine V_imul (pc := 27) dX9_measureFrom_27 ?_
  refine V_iadd (pc := 28) dX9_measureFrom_28 ?_
  obtain ⟨b5, h⟩ := ite_o h
  refine V_iast (pc := 29) dX9_measureFrom_29 (L9_s4 H0) (inB_vp b5) ?_
  refine V_aload_n (pc := 30) 0 dX9_measureFrom_30 rfl rfl ?_
  refine V_getR (pc := 31) (c := 9) (k := 5) dX9_measureFrom_31 (by decide) (by decide) kw60 rfl rfl (L9_0 H0) (L9_r5 H0) ?_
  refine V_iload_n (pc := 34) 1 dX9_measureFrom_34 rfl rfl ?_
  refine V_aload_n (pc := 35) 0 dX9_measureFrom_35 rfl rfl ?_
  refine V_getR (pc := 36) (c := 9) (k := 5) dX9_measureFrom_36 (by decide) (by decide) kw60 rfl rfl (L9_0 H0) (L9_r5 H0) ?_
  refine V_iload_n (pc := 39) 2 dX9_measureFrom_39 rfl rfl ?_
  obtain ⟨b6, h⟩ := ite_o h
  refine V_iald (pc := 40) dX9_measureFrom_40 (L9_s5 H0) (inB_vp b6) ?_
  refine V_getsA (pc := 41) (C := "SplicedLoom") (n := "SIDE_Y") (host := "SplicedLoom") (i := 1) (l := [1, 0, -1, 0]) dX9_measureFrom_41 (by decide) (by decide) ?_
  refine V_aload_n (pc := 44) 0 dX9_measureFrom_44 rfl rfl ?_
  refine V_getR (pc := 45) (c := 9) (k := 3) dX9_measureFrom_45 (by decide) (by decide) kw56 rfl rfl (L9_0 H0) (L9_r3 H0) ?_
  refine V_iload_n (pc := 48) 1 dX9_measureFrom_48 rfl rfl ?_
  obtain ⟨b7, h⟩ := ite_o h
  refine V_iald (pc := 49) dX9_measureFrom_49 (L9_s3 H0) (inB_vp b7) ?_
  obtain ⟨b8, h⟩ := ite_o h
  refine V_ialdC (pc := 50) (C := "SplicedLoom") (n := "SIDE_Y") (i := 1) (l := [1, 0, -1, 0]) dX9_measureFrom_50 (by decide) (inB_vp b8) ?_
  refine V_aload_n (pc := 51) 0 dX9_measureFrom_51 rfl rfl ?_
  refine V_getR (pc := 52) (c := 9) (k := 2) dX9_measureFrom_52 (by decide) (by decide) kw54 rfl rfl (L9_0 H0) (L9_r2 H0) ?_
  refine V_iload_n (pc := 55) 1 dX9_measureFrom_55 rfl rfl ?_
  obtain ⟨b9, h⟩ := ite_o h
  refine V_iald (pc := 56) dX9_measureFrom_56 (L9_s2 H0) (inB_vp b9) ?_
  refine V_imul (pc := 57) dX9_measureFrom_57 ?_
  refine V_iadd (pc := 58) dX9_measureFrom_58 ?_
  obtain ⟨b10, h⟩ := ite_o h
  refine V_iast (pc := 59) dX9_measureFrom_59 (L9_s5 H0) (inB_vp b10) ?_
  refine V_iconst (pc := 60) (x := 0) dX9_measureFrom_60 (by decide) ?_
  refine V_istore_n (pc := 61) (lv1 := [(3, _), (0, _), (1, _), (2, _)]) dX9_measureFrom_61 rfl (by decide) rfl ?_
  exact V_sub [1, 2, 3, 0] rfl (wX9_measureFrom_62 H0 FUEL (0 : Int32) (uI (uI d (r0 + 4) v1.toNatClampNeg ((d.1 (r0 + 4) v2.toNatClampNeg) + ((([0, 1, 0, -1] : List Int32).getD (d.1 (r0 + 3) v1.toNatClampNeg).toNatClampNeg 0) * (d.1 (r0 + 2) v1.toNatClampNeg)))) (r0 + 5) v1.toNatClampNeg (((uI d (r0 + 4) v1.toNatClampNeg ((d.1 (r0 + 4) v2.toNatClampNeg) + ((([0, 1, 0, -1] : List Int32).getD (d.1 (r0 + 3) v1.toNatClampNeg).toNatClampNeg 0) * (d.1 (r0 + 2) v1.toNatClampNeg)))).1 (r0 + 5) v2.toNatClampNeg) + ((([1, 0, -1, 0] : List Int32).getD ((uI d (r0 + 4) v1.toNatClampNeg ((d.1 (r0 + 4) v2.toNatClampNeg) + ((([0, 1, 0, -1] : List Int32).getD (d.1 (r0 + 3) v1.toNatClampNeg).toNatClampNeg 0) * (d.1 (r0 + 2) v1.toNatClampNeg)))).1 (r0 + 3) v1.toNatClampNeg).toNatClampNeg 0) * ((uI d (r0 + 4) v1.toNatClampNeg ((d.1 (r0 + 4) v2.toNatClampNeg) + ((([0, 1, 0, -1] : List Int32).getD (d.1 (r0 + 3) v1.toNatClampNeg).toNatClampNeg 0) * (d.1 (r0 + 2) v1.toNatClampNeg)))).1 (r0 + 2) v1.toNatClampNeg)))) h)
theorem wX9_measure_73 {G : Gl} {σ : Sg} {r0 : Nat} {rr : Dt} (H0 : L9 σ r0) : ∀ (n : Nat) (v1 : Int32) (d : Dt), mX9_measure_73 r0 n v1 d = some rr → V G yX9_measure cX9_measure 2 none 1 0 0 (PH [] σ rr) 73 [(0, .ref (gB G + r0)), (1, .int v1)] [] σ d := by
  intro n
  induction n with
  | zero =>
    intro v1 d
    intros
    rename_i h
    exact absurd h (by rw [mX9_measure_73]; exact fun q => nomatch q)
  | succ n ih =>
    intro v1 d h
    rw [mX9_measure_73] at h
    refine V_iload_n (pc := 73) 1 dX9_measure_73 rfl rfl ?_
    refine V_if_le (pc := 74) (tgt := 103) dX9_measure_74 (by decide) (fun c11 => ?_) (fun c11 => ?_)
    · have h := ite_p c11 h
      cases h
      exact V_ret (pc := 103) dX9_measure_103 ⟨rfl, rfl⟩ ⟨rfl, rfl, rfl⟩
    · have h := ite_n c11 h
      refine V_aload_n (pc := 77) 0 dX9_measure_77 rfl rfl ?_
      refine V_getR (pc := 78) (c := 9) (k := 6) dX9_measure_78 (by decide) (by decide) kw62 rfl rfl (L9_0 H0) (L9_r6 H0) ?_
      refine V_aload_n (pc := 81) 0 dX9_measure_81 rfl rfl ?_
      refine V_getR (pc := 82) (c := 9) (k := 1) dX9_measure_82 (by decide) (by decide) kw52 rfl rfl (L9_0 H0) (L9_r1 H0) ?_
      refine V_iload_n (pc := 85) 1 dX9_measure_85 rfl rfl ?_
      obtain ⟨b12, h⟩ := ite_o h
      refine V_iald (pc := 86) dX9_measure_86 (L9_s1 H0) (inB_vp b12) ?_
      refine V_dup2 (pc := 87) dX9_measure_87 rfl rfl ?_
      obtain ⟨b13, h⟩ := ite_o h
      refine V_iald (pc := 88) dX9_measure_88 (L9_s6 H0) (inB_vp b13) ?_
      refine V_aload_n (pc := 89) 0 dX9_measure_89 rfl rfl ?_
      refine V_getR (pc := 90) (c := 9) (k := 6) dX9_measure_90 (by decide) (by decide) kw62 rfl rfl (L9_0 H0) (L9_r6 H0) ?_
      refine V_iload_n (pc := 93) 1 dX9_measure_93 rfl rfl ?_
      obtain ⟨b14, h⟩ := ite_o h
      refine V_iald (pc := 94) dX9_measure_94 (L9_s6 H0) (inB_vp b14) ?_
      refine V_ior (pc := 95) dX9_measure_95 ?_
      obtain ⟨b15, h⟩ := ite_o h
      refine V_iast (pc := 96) dX9_measure_96 (L9_s6 H0) (inB_vp b15) ?_
      refine V_iinc (pc := 97) (lv1 := [(1, _), (0, _)]) (z := _ + (-1 : Int32)) 1 dX9_measure_97 rfl rfl (by decide) rfl ?_
      refine V_goto (pc := 100) (tgt := 73) dX9_measure_100 (by decide) ?_
      exact V_sub [1, 0] rfl (ih (v1 + (-1 : Int32)) (uI d (r0 + 6) (d.1 (r0 + 1) v1.toNatClampNeg).toNatClampNeg ((d.1 (r0 + 6) (d.1 (r0 + 1) v1.toNatClampNeg).toNatClampNeg) ||| (d.1 (r0 + 6) v1.toNatClampNeg))) h)
theorem wX9_measure_2 {G : Gl} {σ : Sg} {r0 : Nat} {rr : Dt} (H0 : L9 σ r0) : ∀ (n : Nat) (v1 : Int32) (d : Dt), mX9_measure_2 r0 n v1 d = some rr → V G yX9_measure cX9_measure 2 none 1 0 0 (PH [] σ rr) 2 [(0, .ref (gB G + r0)), (1, .int v1)] [] σ d := by
  intro n
  induction n with
  | zero =>
    intro v1 d
    intros
    rename_i h
    exact absurd h (by rw [mX9_measure_2]; exact fun q => nomatch q)
  | succ n ih =>
    intro v1 d h
    rw [mX9_measure_2] at h
    refine V_iload_n (pc := 2) 1 dX9_measure_2 rfl rfl ?_
    refine V_aload_n (pc := 3) 0 dX9_measure_3 rfl rfl ?_
    refine V_getI (pc := 4) (c := 9) (k := 0) dX9_measure_4 (by decide) (by decide) kw47 rfl rfl (L9_0 H0) ?_
    refine V_icmp_ge (pc := 7) (tgt := 66) dX9_measure_7 (by decide) (fun c1 => ?_) (fun c1 => ?_)
    · have h := ite_p c1 h
      refine V_aload_n (pc := 66) 0 dX9_measure_66 rfl rfl ?_
      refine V_getI (pc := 67) (c := 9) (k := 0) dX9_measure_67 (by decide) (by decide) kw47 rfl rfl (L9_0 H0) ?_
      refine V_iconst (pc := 70) (x := 1) dX9_measure_70 (by decide) ?_
      refine V_isub (pc := 71) dX9_measure_71 ?_
      refine V_istore_n (pc := 72) (lv1 := [(1, _), (0, _)]) dX9_measure_72 rfl (by decide) rfl ?_
      exact V_sub [1, 0] rfl (wX9_measure_73 H0 FUEL ((d.1 r0 0) - (1 : Int32)) d h)
    · have h := ite_n c1 h
      refine V_aload_n (pc := 10) 0 dX9_measure_10 rfl rfl ?_
      refine V_getR (pc := 11) (c := 9) (k := 6) dX9_measure_11 (by decide) (by decide) kw62 rfl rfl (L9_0 H0) (L9_r6 H0) ?_
      refine V_iload_n (pc := 14) 1 dX9_measure_14 rfl rfl ?_
      refine V_iconst (pc := 15) (x := 1) dX9_measure_15 (by decide) ?_
      refine V_iload_n (pc := 16) 1 dX9_measure_16 rfl rfl ?_
      refine V_ishl (pc := 17) dX9_measure_17 ?_
      obtain ⟨b2, h⟩ := ite_o h
      refine V_iast (pc := 18) dX9_measure_18 (L9_s6 H0) (inB_vp b2) ?_
      refine V_aload_n (pc := 19) 0 dX9_measure_19 rfl rfl ?_
      refine V_getR (pc := 20) (c := 9) (k := 7) dX9_measure_20 (by decide) (by decide) kw63 rfl rfl (L9_0 H0) (L9_r7 H0) ?_
      refine V_iload_n (pc := 23) 1 dX9_measure_23 rfl rfl ?_
      obtain ⟨b3, h⟩ := ite_o h
      refine V_aald (pc := 24) dX9_measure_24 (⟨L9_s7 H0, L9_g7 H0⟩ : GR σ _ _ _).1 (inB_vp b3) ((⟨L9_s7 H0, L9_g7 H0⟩ : GR σ _ _ _).2 _ (inB_lt b3)).1 ?_
      refine V_iload_n (pc := 25) 1 dX9_measure_25 rfl rfl ?_
      refine V_iconst (pc := 26) (x := 0) dX9_measure_26 (by decide) ?_
      obtain ⟨b4, h⟩ := ite_o h
      refine V_iast (pc := 27) dX9_measure_27 ((⟨L9_s7 H0, L9_g7 H0⟩ : GR σ _ _ _).2 _ (inB_lt b3)).2 (inB_vp b4) ?_
      refine V_iload_n (pc := 28) 1 dX9_measure_28 rfl rfl ?_
      refine V_if_ne (pc := 29) (tgt := 49) dX9_measure_29 (by decide) (fun c5 => ?_) (fun c5 => ?_)
      · have h := ite_n c5 h
        refine V_aload_n (pc := 49) 0 dX9_measure_49 rfl rfl ?_
        refine V_iload_n (pc := 50) 1 dX9_measure_50 rfl rfl ?_
        refine V_aload_n (pc := 51) 0 dX9_measure_51 rfl rfl ?_
        refine V_getR (pc := 52) (c := 9) (k := 1) dX9_measure_52 (by decide) (by decide) kw52 rfl rfl (L9_0 H0) (L9_r1 H0) ?_
        refine V_iload_n (pc := 55) 1 dX9_measure_55 rfl rfl ?_
        obtain ⟨b6, h⟩ := ite_o h
        refine V_iald (pc := 56) dX9_measure_56 (L9_s1 H0) (inB_vp b6) ?_
        obtain ⟨x8, h7, h⟩ := bnd h
        refine V_cV2 (pc := 57) dX9_measure_57 kw712 calX9_measureFrom kw714 ks28 (L9_0 H0) rfl (by decide) (Nat.le_of_ble_eq_true rfl) (ctX9_measureFrom H0 h7) ?_
        refine V_iinc (pc := 60) (lv1 := [(1, _), (0, _)]) (z := _ + (1 : Int32)) 1 dX9_measure_60 rfl rfl (by decide) rfl ?_
        refine V_goto (pc := 63) (tgt := 2) dX9_measure_63 (by decide) ?_
        exact V_sub [1, 0] rfl (ih (v1 + (1 : Int32)) x8 h)
      · have h := ite_p c5 h
        refine V_aload_n (pc := 32) 0 dX9_measure_32 rfl rfl ?_
        refine V_getR (pc := 33) (c := 9) (k := 4) dX9_measure_33 (by decide) (by decide) kw58 rfl rfl (L9_0 H0) (L9_r4 H0) ?_
        refine V_iload_n (pc := 36) 1 dX9_measure_36 rfl rfl ?_
        refine V_iconst (pc := 37) (x := 0) dX9_measure_37 (by decide) ?_
        obtain ⟨b9, h⟩ := ite_o h
        refine V_iast (pc := 38) dX9_measure_38 (L9_s4 H0) (inB_vp b9) ?_
        refine V_aload_n (pc := 39) 0 dX9_measure_39 rfl rfl ?_
        refine V_getR (pc := 40) (c := 9) (k := 5) dX9_measure_40 (by decide) (by decide) kw60 rfl rfl (L9_0 H0) (L9_r5 H0) ?_
        refine V_iload_n (pc := 43) 1 dX9_measure_43 rfl rfl ?_
        refine V_iconst (pc := 44) (x := 0) dX9_measure_44 (by decide) ?_
        obtain ⟨b10, h⟩ := ite_o h
        refine V_iast (pc := 45) dX9_measure_45 (L9_s5 H0) (inB_vp b10) ?_
        refine V_goto (pc := 46) (tgt := 60) dX9_measure_46 (by decide) ?_
        refine V_iinc (pc := 60) (lv1 := [(1, _), (0, _)]) (z := _ + (1 : Int32)) 1 dX9_measure_60 rfl rfl (by decide) rfl ?_
        refine V_goto (pc := 63) (tgt := 2) dX9_measure_63 (by decide) ?_
        exact V_sub [1, 0] rfl (ih (v1 + (1 : Int32)) (uI (uI (uI (uI d (r0 + 6) v1.toNatClampNeg ((1 : Int32) <<< (v1 &&& 31))) ((r0 + 8) + v1.toNatClampNeg) v1.toNatClampNeg (0 : Int32)) (r0 + 4) v1.toNatClampNeg (0 : Int32)) (r0 + 5) v1.toNatClampNeg (0 : Int32)) h)
theorem calX9_measure : Cal yX9_measure cX9_measure 2 none 0 := ⟨kw711, kw3, by decide +kernel⟩
theorem ctX9_measure {G : Gl} {σ : Sg} {d : Dt} {r0 : Nat} {rr : Dt} (H0 : L9 σ r0) (h : mX9_measure r0 d = some rr) : CTv G yX9_measure cX9_measure 2 none 1 [.ref (gB G + r0)] σ d [] rr := by
  refine CT_of pn_RX9 (Nat.le_of_ble_eq_true rfl) ?_
  rw [mX9_measure] at h
  refine V_iconst (pc := 0) (x := 0) dX9_measure_0 (by decide) ?_
  refine V_istore_n (pc := 1) (lv1 := [(1, _), (0, _)]) dX9_measure_1 rfl (by decide) rfl ?_
  exact V_sub [1, 0] rfl (wX9_measure_2 H0 FUEL (0 : Int32) d h)
theorem calX11_isPin : Cal yX11_isPin cX11_isPin 3 (some .boolean) 2 := ⟨kw870, kw1, by decide +kernel⟩
theorem ctX11_isPin {G : Gl} {σ : Sg} {d : Dt} {r0 : Nat} {r0h : Nat} {r0p : Nat} {v1 : Int32} {v2 : Int32} {rr : Bool} (H0 : L10 σ r0 r0h r0p) (h : mX11_isPin r0 r0h r0p v1 v2 d = some rr) : CTv G yX11_isPin cX11_isPin 3 (some .boolean) 1 [.ref (gB G + r0), .int v1, .int v2] σ d [.int (b2i rr)] d := by
  refine CT_of pn_RX11 (Nat.le_of_ble_eq_true rfl) ?_
  rw [mX11_isPin] at h
  refine V_aload_n (pc := 0) 0 dX11_isPin_0 rfl rfl ?_
  refine V_iload_n (pc := 1) 1 dX11_isPin_1 rfl rfl ?_
  refine V_cV1 (pc := 2) dX11_isPin_2 kw859 calX11_isNet kw861 ks36 (L10_0 H0) rfl (by decide) (Nat.le_of_ble_eq_true rfl) (ctX11_isNet H0) ?_
  refine V_ifB_eq (pc := 5) (tgt := 32) dX11_isPin_5 (by decide) (fun c3 => ?_) (fun c3 => ?_)
  · have h := ite_f c3 h
    refine V_iconst (pc := 32) (x := 0) dX11_isPin_32 (by decide) ?_
    cases h
    exact V_ret (pc := 33) dX11_isPin_33 ⟨rfl, _, rfl, rfl⟩ ⟨rfl, rfl, rfl⟩
  · have h := ite_p c3 h
    refine V_iload_n (pc := 8) 2 dX11_isPin_8 rfl rfl ?_
    refine V_if_lt (pc := 9) (tgt := 32) dX11_isPin_9 (by decide) (fun c4 => ?_) (fun c4 => ?_)
    · have h := ite_p c4 h
      refine V_iconst (pc := 32) (x := 0) dX11_isPin_32 (by decide) ?_
      cases h
      exact V_ret (pc := 33) dX11_isPin_33 ⟨rfl, _, rfl, rfl⟩ ⟨rfl, rfl, rfl⟩
    · have h := ite_n c4 h
      refine V_iload_n (pc := 12) 2 dX11_isPin_12 rfl rfl ?_
      refine V_aload_n (pc := 13) 0 dX11_isPin_13 rfl rfl ?_
      refine V_getR (pc := 14) (c := 10) (k := 2) dX11_isPin_14 (by decide) (by decide) kw356 rfl rfl (L10_0 H0) (L10_r2 H0) ?_
      refine V_getR (pc := 17) (c := 4) (k := 8) dX11_isPin_17 (by decide) (by decide) kw244 rfl rfl (L4_0 (L10_o2 H0)) (L4_r8 (L10_o2 H0)) ?_
      refine V_getR (pc := 20) (c := 5) (k := 3) dX11_isPin_20 (by decide) (by decide) kw154 rfl rfl (L5_0 (L4_o8 (L10_o2 H0))) (L5_r3 (L4_o8 (L10_o2 H0))) ?_
      refine V_iload_n (pc := 23) 1 dX11_isPin_23 rfl rfl ?_
      obtain ⟨b5, h⟩ := ite_o h
      refine V_iald (pc := 24) dX11_isPin_24 (L5_s3 (L4_o8 (L10_o2 H0))) (inB_vp b5) ?_
      refine V_icmp_ge (pc := 25) (tgt := 32) dX11_isPin_25 (by decide) (fun c6 => ?_) (fun c6 => ?_)
      · have h := ite_p c6 h
        refine V_iconst (pc := 32) (x := 0) dX11_isPin_32 (by decide) ?_
        cases h
        exact V_ret (pc := 33) dX11_isPin_33 ⟨rfl, _, rfl, rfl⟩ ⟨rfl, rfl, rfl⟩
      · have h := ite_n c6 h
        refine V_iconst (pc := 28) (x := 1) dX11_isPin_28 (by decide) ?_
        refine V_goto (pc := 29) (tgt := 33) dX11_isPin_29 (by decide) ?_
        cases h
        exact V_ret (pc := 33) dX11_isPin_33 ⟨rfl, _, rfl, rfl⟩ ⟨rfl, rfl, rfl⟩
theorem calX11_isPlug : Cal yX11_isPlug cX11_isPlug 2 (some .boolean) 1 := ⟨kw854, kw1, by decide +kernel⟩
theorem ctX11_isPlug {G : Gl} {σ : Sg} {d : Dt} {r0 : Nat} {r0h : Nat} {r0p : Nat} {v1 : Int32} (H0 : L10 σ r0 r0h r0p) : CTv G yX11_isPlug cX11_isPlug 2 (some .boolean) 0 [.ref (gB G + r0), .int v1] σ d [.int (b2i (mX11_isPlug r0 r0h r0p v1 d))] d := by
  refine CT_of pn_RX11 (Nat.le_of_ble_eq_true rfl) ?_
  generalize h : mX11_isPlug r0 r0h r0p v1 d = rr
  rw [mX11_isPlug] at h
  refine V_iload_n (pc := 0) 1 dX11_isPlug_0 rfl rfl ?_
  refine V_if_lt (pc := 1) (tgt := 22) dX11_isPlug_1 (by decide) (fun c1 => ?_) (fun c1 => ?_)
  · have h := ite_p c1 h
    refine V_iconst (pc := 22) (x := 0) dX11_isPlug_22 (by decide) ?_
    subst h
    exact V_ret (pc := 23) dX11_isPlug_23 ⟨rfl, _, rfl, rfl⟩ ⟨rfl, rfl, rfl⟩
  · have h := ite_n c1 h
    refine V_iload_n (pc := 4) 1 dX11_isPlug_4 rfl rfl ?_
    refine V_aload_n (pc := 5) 0 dX11_isPlug_5 rfl rfl ?_
    refine V_getR (pc := 6) (c := 10) (k := 2) dX11_isPlug_6 (by decide) (by decide) kw356 rfl rfl (L10_0 H0) (L10_r2 H0) ?_
    refine V_getR (pc := 9) (c := 4) (k := 7) dX11_isPlug_9 (by decide) (by decide) kw239 rfl rfl (L4_0 (L10_o2 H0)) (L4_r7 (L10_o2 H0)) ?_
    refine V_getI (pc := 12) (c := 6) (k := 0) dX11_isPlug_12 (by decide) (by decide) kw95 rfl rfl (L6_0 (L4_o7 (L10_o2 H0))) ?_
    refine V_icmp_ge (pc := 15) (tgt := 22) dX11_isPlug_15 (by decide) (fun c2 => ?_) (fun c2 => ?_)
    · have h := ite_p c2 h
      refine V_iconst (pc := 22) (x := 0) dX11_isPlug_22 (by decide) ?_
      subst h
      exact V_ret (pc := 23) dX11_isPlug_23 ⟨rfl, _, rfl, rfl⟩ ⟨rfl, rfl, rfl⟩
    · have h := ite_n c2 h
      refine V_iconst (pc := 18) (x := 1) dX11_isPlug_18 (by decide) ?_
      refine V_goto (pc := 19) (tgt := 23) dX11_isPlug_19 (by decide) ?_
      subst h
      exact V_ret (pc := 23) dX11_isPlug_23 ⟨rfl, _, rfl, rfl⟩ ⟨rfl, rfl, rfl⟩
theorem calX9_overlap : Cal yX9_overlap cX9_overlap 6 (some .int) 4 := ⟨kw800, kw3, by decide +kernel⟩
theorem ctX9_overlap {G : Gl} {σ : Sg} {d : Dt} {v0 : Int32} {v1 : Int32} {v2 : Int32} {v3 : Int32} : CTv G yX9_overlap cX9_overlap 6 (some .int) 3 [.int v0, .int v1, .int v2, .int v3] σ d [.int (mX9_overlap v0 v1 v2 v3)] d := by
  refine CT_of pn_RX9 (Nat.le_of_ble_eq_true rfl) ?_
  generalize h : mX9_overlap v0 v1 v2 v3 = rr
  rw [mX9_overlap] at h
  refine V_iload_n (pc := 0) 0 dX9_overlap_0 rfl rfl ?_
  refine V_iload_n (pc := 1) 1 dX9_overlap_1 rfl rfl ?_
  refine V_mmin (pc := 2) dX9_overlap_2 kw801 (by decide) (Nat.le_of_ble_eq_true rfl) ?_
  refine V_iload_n (pc := 5) 2 dX9_overlap_5 rfl rfl ?_
  refine V_iload_n (pc := 6) 3 dX9_overlap_6 rfl rfl ?_
  refine V_mmin (pc := 7) dX9_overlap_7 kw801 (by decide) (Nat.le_of_ble_eq_true rfl) ?_
  refine V_mmax (pc := 10) dX9_overlap_10 kw802 (by decide) (Nat.le_of_ble_eq_true rfl) ?_
  refine V_istore (pc := 13) (lv1 := [(4, _), (0, _), (1, _), (2, _), (3, _)]) dX9_overlap_13 (by decide) rfl ?_
  refine V_iload_n (pc := 15) 1 dX9_overlap_15 rfl rfl ?_
  refine V_iload_n (pc := 16) 2 dX9_overlap_16 rfl rfl ?_
  refine V_mmax (pc := 17) dX9_overlap_17 kw802 (by decide) (Nat.le_of_ble_eq_true rfl) ?_
  refine V_iload_n (pc := 20) 3 dX9_overlap_20 rfl rfl ?_
  refine V_iload_n (pc := 21) 4 dX9_overlap_21 rfl rfl ?_
  refine V_mmax (pc := 22) dX9_overlap_22 kw802 (by decide) (Nat.le_of_ble_eq_true rfl) ?_
  refine V_mmin (pc := 25) dX9_overlap_25 kw801 (by decide) (Nat.le_of_ble_eq_true rfl) ?_
  refine V_istore (pc := 28) (lv1 := [(5, _), (4, _), (0, _), (1, _), (2, _), (3, _)]) dX9_overlap_28 (by decide) rfl ?_
  refine V_iload (pc := 30) 0 dX9_overlap_30 rfl ?_
  refine V_iload (pc := 32) 1 dX9_overlap_32 rfl ?_
  refine V_icmp_ge (pc := 34) (tgt := 41) dX9_overlap_34 (by decide) (fun c1 => ?_) (fun c1 => ?_)
  · have h := ite_p c1 h
    refine V_iload (pc := 41) 0 dX9_overlap_41 rfl ?_
    refine V_iload (pc := 43) 1 dX9_overlap_43 rfl ?_
    refine V_isub (pc := 45) dX9_overlap_45 ?_
    refine V_iconst (pc := 46) (x := 1) dX9_overlap_46 (by decide) ?_
    refine V_iadd (pc := 47) dX9_overlap_47 ?_
    subst h
    exact V_ret (pc := 48) dX9_overlap_48 ⟨rfl, _, rfl⟩ ⟨rfl, rfl, rfl⟩
  · have h := ite_n c1 h
    refine V_iconst (pc := 37) (x := 0) dX9_overlap_37 (by decide) ?_
    refine V_goto (pc := 38) (tgt := 48) dX9_overlap_38 (by decide) ?_
    subst h
    exact V_ret (pc := 48) dX9_overlap_48 ⟨rfl, _, rfl⟩ ⟨rfl, rfl, rfl⟩
theorem wX9_bundlesOn_5 {G : Gl} {σ : Sg} {d : Dt} {r0 : Nat} {v1 : Int32} {v2 : Int32} {rr : Int32} (H0 : L9 σ r0) : ∀ (n : Nat) (v3 : Int32) (v4 : Int32), mX9_bundlesOn_5 d r0 v1 v2 n v3 v4 = some rr → V G yX9_bundlesOn cX9_bundlesOn 5 (some .int) 4 0 0 (PH [.int rr] σ d) 5 [(0, .ref (gB G + r0)), (1, .int v1), (2, .int v2), (3, .int v3), (4, .int v4)] [] σ d := by
  intro n
  induction n with
  | zero =>
    intro v3 v4
    intros
    rename_i h
    exact absurd h (by rw [mX9_bundlesOn_5]; exact fun q => nomatch q)
  | succ n ih =>
    intro v3 v4 h
    rw [mX9_bundlesOn_5] at h
    refine V_iload (pc := 5) 4 dX9_bundlesOn_5 rfl ?_
    refine V_aload_n (pc := 7) 0 dX9_bundlesOn_7 rfl rfl ?_
    refine V_getI (pc := 8) (c := 9) (k := 0) dX9_bundlesOn_8 (by decide) (by decide) kw47 rfl rfl (L9_0 H0) ?_
    refine V_icmp_ge (pc := 11) (tgt := 81) dX9_bundlesOn_11 (by decide) (fun c1 => ?_) (fun c1 => ?_)
    · have h := ite_p c1 h
      refine V_iload_n (pc := 81) 3 dX9_bundlesOn_81 rfl rfl ?_
      cases h
      exact V_ret (pc := 82) dX9_bundlesOn_82 ⟨rfl, _, rfl⟩ ⟨rfl, rfl, rfl⟩
    · have h := ite_n c1 h
      refine V_aload_n (pc := 14) 0 dX9_bundlesOn_14 rfl rfl ?_
      refine V_getR (pc := 15) (c := 9) (k := 4) dX9_bundlesOn_15 (by decide) (by decide) kw58 rfl rfl (L9_0 H0) (L9_r4 H0) ?_
      refine V_iload (pc := 18) 4 dX9_bundlesOn_18 rfl ?_
      obtain ⟨b2, h⟩ := ite_o h
      refine V_iald (pc := 20) dX9_bundlesOn_20 (L9_s4 H0) (inB_vp b2) ?_
      refine V_aload_n (pc := 21) 0 dX9_bundlesOn_21 rfl rfl ?_
      refine V_getR (pc := 22) (c := 9) (k := 4) dX9_bundlesOn_22 (by decide) (by decide) kw58 rfl rfl (L9_0 H0) (L9_r4 H0) ?_
      refine V_aload_n (pc := 25) 0 dX9_bundlesOn_25 rfl rfl ?_
      refine V_getR (pc := 26) (c := 9) (k := 1) dX9_bundlesOn_26 (by decide) (by decide) kw52 rfl rfl (L9_0 H0) (L9_r1 H0) ?_
      refine V_iload (pc := 29) 4 dX9_bundlesOn_29 rfl ?_
      obtain ⟨b3, h⟩ := ite_o h
      refine V_iald (pc := 31) dX9_bundlesOn_31 (L9_s1 H0) (inB_vp b3) ?_
      obtain ⟨b4, h⟩ := ite_o h
      refine V_iald (pc := 32) dX9_bundlesOn_32 (L9_s4 H0) (inB_vp b4) ?_
      refine V_iload_n (pc := 33) 1 dX9_bundlesOn_33 rfl rfl ?_
      refine V_iload_n (pc := 34) 1 dX9_bundlesOn_34 rfl rfl ?_
      refine V_cS4 (pc := 35) dX9_bundlesOn_35 kw798 calX9_overlap kw799 (by decide) (Nat.le_of_ble_eq_true rfl) (ctX9_overlap) ?_
      refine V_if_le (pc := 38) (tgt := 75) dX9_bundlesOn_38 (by decide) (fun c7 => ?_) (fun c7 => ?_)
      · have h := ite_p c7 h
        refine V_iinc (pc := 75) (lv1 := [(4, _), (0, _), (1, _), (2, _), (3, _)]) (z := _ + (1 : Int32)) 4 dX9_bundlesOn_75 rfl rfl (by decide) rfl ?_
        refine V_goto (pc := 78) (tgt := 5) dX9_bundlesOn_78 (by decide) ?_
        exact V_sub [1, 2, 3, 4, 0] rfl (ih v3 (v4 + (1 : Int32)) h)
      · have h := ite_n c7 h
        refine V_aload_n (pc := 41) 0 dX9_bundlesOn_41 rfl rfl ?_
        refine V_getR (pc := 42) (c := 9) (k := 5) dX9_bundlesOn_42 (by decide) (by decide) kw60 rfl rfl (L9_0 H0) (L9_r5 H0) ?_
        refine V_iload (pc := 45) 4 dX9_bundlesOn_45 rfl ?_
        obtain ⟨b8, h⟩ := ite_o h
        refine V_iald (pc := 47) dX9_bundlesOn_47 (L9_s5 H0) (inB_vp b8) ?_
        refine V_aload_n (pc := 48) 0 dX9_bundlesOn_48 rfl rfl ?_
        refine V_getR (pc := 49) (c := 9) (k := 5) dX9_bundlesOn_49 (by decide) (by decide) kw60 rfl rfl (L9_0 H0) (L9_r5 H0) ?_
        refine V_aload_n (pc := 52) 0 dX9_bundlesOn_52 rfl rfl ?_
        refine V_getR (pc := 53) (c := 9) (k := 1) dX9_bundlesOn_53 (by decide) (by decide) kw52 rfl rfl (L9_0 H0) (L9_r1 H0) ?_
        refine V_iload (pc := 56) 4 dX9_bundlesOn_56 rfl ?_
        obtain ⟨b9, h⟩ := ite_o h
        refine V_iald (pc := 58) dX9_bundlesOn_58 (L9_s1 H0) (inB_vp b9) ?_
        obtain ⟨b10, h⟩ := ite_o h
        refine V_iald (pc := 59) dX9_bundlesOn_59 (L9_s5 H0) (inB_vp b10) ?_
        refine V_iload_n (pc := 60) 2 dX9_bundlesOn_60 rfl rfl ?_
        refine V_iload_n (pc := 61) 2 dX9_bundlesOn_61 rfl rfl ?_
        refine V_cS4 (pc := 62) dX9_bundlesOn_62 kw798 calX9_overlap kw799 (by decide) (Nat.le_of_ble_eq_true rfl) (ctX9_overlap) ?_
        refine V_if_le (pc := 65) (tgt := 75) dX9_bundlesOn_65 (by decide) (fun c13 => ?_) (fun c13 => ?_)
        · have h := ite_p c13 h
          refine V_iinc (pc := 75) (lv1 := [(4, _), (0, _), (1, _), (2, _), (3, _)]) (z := _ + (1 : Int32)) 4 dX9_bundlesOn_75 rfl rfl (by decide) rfl ?_
          refine V_goto (pc := 78) (tgt := 5) dX9_bundlesOn_78 (by decide) ?_
          exact V_sub [1, 2, 3, 4, 0] rfl (ih v3 (v4 + (1 : Int32)) h)
        · have h := ite_n c13 h
          refine V_iload_n (pc := 68) 3 dX9_bundlesOn_68 rfl rfl ?_
          refine V_iconst (pc := 69) (x := 1) dX9_bundlesOn_69 (by decide) ?_
          refine V_iload (pc := 70) 4 dX9_bundlesOn_70 rfl ?_
          refine V_ishl (pc := 72) dX9_bundlesOn_72 ?_
          refine V_ior (pc := 73) dX9_bundlesOn_73 ?_
          refine V_istore_n (pc := 74) (lv1 := [(3, _), (0, _), (1, _), (2, _), (4, _)]) dX9_bundlesOn_74 rfl (by decide) rfl ?_
          refine V_iinc (pc := 75) (lv1 := [(4, _), (3, _), (0, _), (1, _), (2, _)]) (z := _ + (1 : Int32)) 4 dX9_bundlesOn_75 rfl rfl (by decide) rfl ?_
          refine V_goto (pc := 78) (tgt := 5) dX9_bundlesOn_78 (by decide) ?_
          exact V_sub [2, 3, 4, 1, 0] rfl (ih (v3 ||| ((1 : Int32) <<< (v4 &&& 31))) (v4 + (1 : Int32)) h)
theorem calX9_bundlesOn : Cal yX9_bundlesOn cX9_bundlesOn 5 (some .int) 2 := ⟨kw825, kw3, by decide +kernel⟩
theorem ctX9_bundlesOn {G : Gl} {σ : Sg} {d : Dt} {r0 : Nat} {v1 : Int32} {v2 : Int32} {rr : Int32} (H0 : L9 σ r0) (h : mX9_bundlesOn r0 v1 v2 d = some rr) : CTv G yX9_bundlesOn cX9_bundlesOn 5 (some .int) 4 [.ref (gB G + r0), .int v1, .int v2] σ d [.int rr] d := by
  refine CT_of pn_RX9 (Nat.le_of_ble_eq_true rfl) ?_
  rw [mX9_bundlesOn] at h
  refine V_iconst (pc := 0) (x := 0) dX9_bundlesOn_0 (by decide) ?_
  refine V_istore_n (pc := 1) (lv1 := [(3, _), (0, _), (1, _), (2, _)]) dX9_bundlesOn_1 rfl (by decide) rfl ?_
  refine V_iconst (pc := 2) (x := 1) dX9_bundlesOn_2 (by decide) ?_
  refine V_istore (pc := 3) (lv1 := [(4, _), (3, _), (0, _), (1, _), (2, _)]) dX9_bundlesOn_3 (by decide) rfl ?_
  exact V_sub [2, 3, 4, 1, 0] rfl (wX9_bundlesOn_5 H0 FUEL (0 : Int32) (1 : Int32) h)
theorem calX11_lying : Cal yX11_lying cX11_lying 3 (some .int) 2 := ⟨kw821, kw1, by decide +kernel⟩
theorem ctX11_lying {G : Gl} {σ : Sg} {d : Dt} {r0 : Nat} {r0h : Nat} {r0p : Nat} {v1 : Int32} {v2 : Int32} {rr : Int32 × Dt} (H0 : L10 σ r0 r0h r0p) (h : mX11_lying r0 r0h r0p v1 v2 d = some rr) : CTv G yX11_lying cX11_lying 3 (some .int) 5 [.ref (gB G + r0), .int v1, .int v2] σ d [.int rr.1] rr.2 := by
  refine CT_of pn_RX11 (Nat.le_of_ble_eq_true rfl) ?_
  rw [mX11_lying] at h
  refine V_aload_n (pc := 0) 0 dX11_lying_0 rfl rfl ?_
  refine V_getI (pc := 1) (c := 10) (k := 4) dX11_lying_1 (by decide) (by decide) kw358 rfl rfl (L10_0 H0) ?_
  refine V_if_eq (pc := 4) (tgt := 26) dX11_lying_4 (by decide) (fun c1 => ?_) (fun c1 => ?_)
  · have h := ite_p c1 h
    refine V_aload_n (pc := 26) 0 dX11_lying_26 rfl rfl ?_
    refine V_iconst (pc := 27) (x := 1) dX11_lying_27 (by decide) ?_
    refine V_cV1 (pc := 28) dX11_lying_28 kw403 calX11_refuse kw405 ks1 (L10_0 H0) rfl (by decide) (Nat.le_of_ble_eq_true rfl) (ctX11_refuse H0) ?_
    cases h
    exact V_ret (pc := 31) dX11_lying_31 ⟨rfl, _, rfl⟩ ⟨rfl, rfl, rfl⟩
  · have h := ite_n c1 h
    refine V_aload_n (pc := 7) 0 dX11_lying_7 rfl rfl ?_
    refine V_aload_n (pc := 8) 0 dX11_lying_8 rfl rfl ?_
    refine V_getR (pc := 9) (c := 10) (k := 2) dX11_lying_9 (by decide) (by decide) kw356 rfl rfl (L10_0 H0) (L10_r2 H0) ?_
    refine V_getR (pc := 12) (c := 4) (k := 6) dX11_lying_12 (by decide) (by decide) kw233 rfl rfl (L4_0 (L10_o2 H0)) (L4_r6 (L10_o2 H0)) ?_
    refine V_iload_n (pc := 15) 1 dX11_lying_15 rfl rfl ?_
    refine V_iload_n (pc := 16) 2 dX11_lying_16 rfl rfl ?_
    obtain ⟨x5, h4, h⟩ := bnd h
    refine V_cV2 (pc := 17) dX11_lying_17 kw822 calX9_bundlesOn kw823 kw824 (L9_0 (L4_o6 (L10_o2 H0))) rfl (by decide) (Nat.le_of_ble_eq_true rfl) (ctX9_bundlesOn (L4_o6 (L10_o2 H0)) h4) ?_
    refine V_cV1 (pc := 20) dX11_lying_20 kw720 calX11_answer kw722 ks29 (L10_0 H0) rfl (by decide) (Nat.le_of_ble_eq_true rfl) (ctX11_answer H0) ?_
    refine V_goto (pc := 23) (tgt := 31) dX11_lying_23 (by decide) ?_
    cases h
    exact V_ret (pc := 31) dX11_lying_31 ⟨rfl, _, rfl⟩ ⟨rfl, rfl, rfl⟩
theorem calX9_endTogether : Cal yX9_endTogether cX9_endTogether 3 (some .boolean) 2 := ⟨kw808, kw3, by decide +kernel⟩
theorem ctX9_endTogether {G : Gl} {σ : Sg} {d : Dt} {r0 : Nat} {v1 : Int32} {v2 : Int32} {rr : Bool} (H0 : L9 σ r0) (h : mX9_endTogether r0 v1 v2 d = some rr) : CTv G yX9_endTogether cX9_endTogether 3 (some .boolean) 0 [.ref (gB G + r0), .int v1, .int v2] σ d [.int (b2i rr)] d := by
  refine CT_of pn_RX9 (Nat.le_of_ble_eq_true rfl) ?_
  rw [mX9_endTogether] at h
  refine V_aload_n (pc := 0) 0 dX9_endTogether_0 rfl rfl ?_
  refine V_getR (pc := 1) (c := 9) (k := 1) dX9_endTogether_1 (by decide) (by decide) kw52 rfl rfl (L9_0 H0) (L9_r1 H0) ?_
  refine V_iload_n (pc := 4) 1 dX9_endTogether_4 rfl rfl ?_
  obtain ⟨b1, h⟩ := ite_o h
  refine V_iald (pc := 5) dX9_endTogether_5 (L9_s1 H0) (inB_vp b1) ?_
  refine V_aload_n (pc := 6) 0 dX9_endTogether_6 rfl rfl ?_
  refine V_getR (pc := 7) (c := 9) (k := 1) dX9_endTogether_7 (by decide) (by decide) kw52 rfl rfl (L9_0 H0) (L9_r1 H0) ?_
  refine V_iload_n (pc := 10) 2 dX9_endTogether_10 rfl rfl ?_
  obtain ⟨b2, h⟩ := ite_o h
  refine V_iald (pc := 11) dX9_endTogether_11 (L9_s1 H0) (inB_vp b2) ?_
  refine V_icmp_eq (pc := 12) (tgt := 35) dX9_endTogether_12 (by decide) (fun c3 => ?_) (fun c3 => ?_)
  · have h := ite_p c3 h
    refine V_iconst (pc := 35) (x := 1) dX9_endTogether_35 (by decide) ?_
    refine V_goto (pc := 36) (tgt := 40) dX9_endTogether_36 (by decide) ?_
    cases h
    exact V_ret (pc := 40) dX9_endTogether_40 ⟨rfl, _, rfl, rfl⟩ ⟨rfl, rfl, rfl⟩
  · have h := ite_n c3 h
    refine V_aload_n (pc := 15) 0 dX9_endTogether_15 rfl rfl ?_
    refine V_getR (pc := 16) (c := 9) (k := 1) dX9_endTogether_16 (by decide) (by decide) kw52 rfl rfl (L9_0 H0) (L9_r1 H0) ?_
    refine V_iload_n (pc := 19) 1 dX9_endTogether_19 rfl rfl ?_
    obtain ⟨b4, h⟩ := ite_o h
    refine V_iald (pc := 20) dX9_endTogether_20 (L9_s1 H0) (inB_vp b4) ?_
    refine V_iload_n (pc := 21) 2 dX9_endTogether_21 rfl rfl ?_
    refine V_icmp_eq (pc := 22) (tgt := 35) dX9_endTogether_22 (by decide) (fun c5 => ?_) (fun c5 => ?_)
    · have h := ite_p c5 h
      refine V_iconst (pc := 35) (x := 1) dX9_endTogether_35 (by decide) ?_
      refine V_goto (pc := 36) (tgt := 40) dX9_endTogether_36 (by decide) ?_
      cases h
      exact V_ret (pc := 40) dX9_endTogether_40 ⟨rfl, _, rfl, rfl⟩ ⟨rfl, rfl, rfl⟩
    · have h := ite_n c5 h
      refine V_aload_n (pc := 25) 0 dX9_endTogether_25 rfl rfl ?_
      refine V_getR (pc := 26) (c := 9) (k := 1) dX9_endTogether_26 (by decide) (by decide) kw52 rfl rfl (L9_0 H0) (L9_r1 H0) ?_
      refine V_iload_n (pc := 29) 2 dX9_endTogether_29 rfl rfl ?_
      obtain ⟨b6, h⟩ := ite_o h
      refine V_iald (pc := 30) dX9_endTogether_30 (L9_s1 H0) (inB_vp b6) ?_
      refine V_iload_n (pc := 31) 1 dX9_endTogether_31 rfl rfl ?_
      refine V_icmp_ne (pc := 32) (tgt := 39) dX9_endTogether_32 (by decide) (fun c7 => ?_) (fun c7 => ?_)
      · have h := ite_n c7 h
        refine V_iconst (pc := 39) (x := 0) dX9_endTogether_39 (by decide) ?_
        cases h
        exact V_ret (pc := 40) dX9_endTogether_40 ⟨rfl, _, rfl, rfl⟩ ⟨rfl, rfl, rfl⟩
      · have h := ite_p c7 h
        refine V_iconst (pc := 35) (x := 1) dX9_endTogether_35 (by decide) ?_
        refine V_goto (pc := 36) (tgt := 40) dX9_endTogether_36 (by decide) ?_
        cases h
        exact V_ret (pc := 40) dX9_endTogether_40 ⟨rfl, _, rfl, rfl⟩ ⟨rfl, rfl, rfl⟩
theorem calX9_crosses : Cal yX9_crosses cX9_crosses 6 (some .boolean) 2 := ⟨kw797, kw3, by decide +kernel⟩
theorem ctX9_crosses {G : Gl} {σ : Sg} {d : Dt} {r0 : Nat} {v1 : Int32} {v2 : Int32} {rr : Bool} (H0 : L9 σ r0) (h : mX9_crosses r0 v1 v2 d = some rr) : CTv G yX9_crosses cX9_crosses 6 (some .boolean) 4 [.ref (gB G + r0), .int v1, .int v2] σ d [.int (b2i rr)] d := by
  refine CT_of pn_RX9 (Nat.le_of_ble_eq_true rfl) ?_
  rw [mX9_crosses] at h
  refine V_aload_n (pc := 0) 0 dX9_crosses_0 rfl rfl ?_
  refine V_getR (pc := 1) (c := 9) (k := 4) dX9_crosses_1 (by decide) (by decide) kw58 rfl rfl (L9_0 H0) (L9_r4 H0) ?_
  refine V_iload_n (pc := 4) 1 dX9_crosses_4 rfl rfl ?_
  obtain ⟨b1, h⟩ := ite_o h
  refine V_iald (pc := 5) dX9_crosses_5 (L9_s4 H0) (inB_vp b1) ?_
  refine V_aload_n (pc := 6) 0 dX9_crosses_6 rfl rfl ?_
  refine V_getR (pc := 7) (c := 9) (k := 4) dX9_crosses_7 (by decide) (by decide) kw58 rfl rfl (L9_0 H0) (L9_r4 H0) ?_
  refine V_aload_n (pc := 10) 0 dX9_crosses_10 rfl rfl ?_
  refine V_getR (pc := 11) (c := 9) (k := 1) dX9_crosses_11 (by decide) (by decide) kw52 rfl rfl (L9_0 H0) (L9_r1 H0) ?_
  refine V_iload_n (pc := 14) 1 dX9_crosses_14 rfl rfl ?_
  obtain ⟨b2, h⟩ := ite_o h
  refine V_iald (pc := 15) dX9_crosses_15 (L9_s1 H0) (inB_vp b2) ?_
  obtain ⟨b3, h⟩ := ite_o h
  refine V_iald (pc := 16) dX9_crosses_16 (L9_s4 H0) (inB_vp b3) ?_
  refine V_aload_n (pc := 17) 0 dX9_crosses_17 rfl rfl ?_
  refine V_getR (pc := 18) (c := 9) (k := 4) dX9_crosses_18 (by decide) (by decide) kw58 rfl rfl (L9_0 H0) (L9_r4 H0) ?_
  refine V_iload_n (pc := 21) 2 dX9_crosses_21 rfl rfl ?_
  obtain ⟨b4, h⟩ := ite_o h
  refine V_iald (pc := 22) dX9_crosses_22 (L9_s4 H0) (inB_vp b4) ?_
  refine V_aload_n (pc := 23) 0 dX9_crosses_23 rfl rfl ?_
  refine V_getR (pc := 24) (c := 9) (k := 4) dX9_crosses_24 (by decide) (by decide) kw58 rfl rfl (L9_0 H0) (L9_r4 H0) ?_
  refine V_aload_n (pc := 27) 0 dX9_crosses_27 rfl rfl ?_
  refine V_getR (pc := 28) (c := 9) (k := 1) dX9_crosses_28 (by decide) (by decide) kw52 rfl rfl (L9_0 H0) (L9_r1 H0) ?_
  refine V_iload_n (pc := 31) 2 dX9_crosses_31 rfl rfl ?_
  obtain ⟨b5, h⟩ := ite_o h
  refine V_iald (pc := 32) dX9_crosses_32 (L9_s1 H0) (inB_vp b5) ?_
  obtain ⟨b6, h⟩ := ite_o h
  refine V_iald (pc := 33) dX9_crosses_33 (L9_s4 H0) (inB_vp b6) ?_
  refine V_cS4 (pc := 34) dX9_crosses_34 kw798 calX9_overlap kw799 (by decide) (Nat.le_of_ble_eq_true rfl) (ctX9_overlap) ?_
  refine V_istore_n (pc := 37) (lv1 := [(3, _), (0, _), (1, _), (2, _)]) dX9_crosses_37 rfl (by decide) rfl ?_
  refine V_aload_n (pc := 38) 1 dX9_crosses_38 rfl rfl ?_
  refine V_getR (pc := 39) (c := 9) (k := 5) dX9_crosses_39 (by decide) (by decide) kw60 rfl rfl (L9_0 H0) (L9_r5 H0) ?_
  refine V_iload_n (pc := 42) 2 dX9_crosses_42 rfl rfl ?_
  obtain ⟨b9, h⟩ := ite_o h
  refine V_iald (pc := 43) dX9_crosses_43 (L9_s5 H0) (inB_vp b9) ?_
  refine V_aload_n (pc := 44) 1 dX9_crosses_44 rfl rfl ?_
  refine V_getR (pc := 45) (c := 9) (k := 5) dX9_crosses_45 (by decide) (by decide) kw60 rfl rfl (L9_0 H0) (L9_r5 H0) ?_
  refine V_aload_n (pc := 48) 1 dX9_crosses_48 rfl rfl ?_
  refine V_getR (pc := 49) (c := 9) (k := 1) dX9_crosses_49 (by decide) (by decide) kw52 rfl rfl (L9_0 H0) (L9_r1 H0) ?_
  refine V_iload_n (pc := 52) 2 dX9_crosses_52 rfl rfl ?_
  obtain ⟨b10, h⟩ := ite_o h
  refine V_iald (pc := 53) dX9_crosses_53 (L9_s1 H0) (inB_vp b10) ?_
  obtain ⟨b11, h⟩ := ite_o h
  refine V_iald (pc := 54) dX9_crosses_54 (L9_s5 H0) (inB_vp b11) ?_
  refine V_aload_n (pc := 55) 1 dX9_crosses_55 rfl rfl ?_
  refine V_getR (pc := 56) (c := 9) (k := 5) dX9_crosses_56 (by decide) (by decide) kw60 rfl rfl (L9_0 H0) (L9_r5 H0) ?_
  refine V_iload_n (pc := 59) 3 dX9_crosses_59 rfl rfl ?_
  obtain ⟨b12, h⟩ := ite_o h
  refine V_iald (pc := 60) dX9_crosses_60 (L9_s5 H0) (inB_vp b12) ?_
  refine V_aload_n (pc := 61) 1 dX9_crosses_61 rfl rfl ?_
  refine V_getR (pc := 62) (c := 9) (k := 5) dX9_crosses_62 (by decide) (by decide) kw60 rfl rfl (L9_0 H0) (L9_r5 H0) ?_
  refine V_aload_n (pc := 65) 1 dX9_crosses_65 rfl rfl ?_
  refine V_getR (pc := 66) (c := 9) (k := 1) dX9_crosses_66 (by decide) (by decide) kw52 rfl rfl (L9_0 H0) (L9_r1 H0) ?_
  refine V_iload_n (pc := 69) 3 dX9_crosses_69 rfl rfl ?_
  obtain ⟨b13, h⟩ := ite_o h
  refine V_iald (pc := 70) dX9_crosses_70 (L9_s1 H0) (inB_vp b13) ?_
  obtain ⟨b14, h⟩ := ite_o h
  refine V_iald (pc := 71) dX9_crosses_71 (L9_s5 H0) (inB_vp b14) ?_
  refine V_cS4 (pc := 72) dX9_crosses_72 kw798 calX9_overlap kw799 (by decide) (Nat.le_of_ble_eq_true rfl) (ctX9_overlap) ?_
  refine V_istore (pc := 75) (lv1 := [(4, _), (3, _), (0, _), (1, _), (2, _)]) dX9_crosses_75 (by decide) rfl ?_
  refine V_iload_n (pc := 77) 1 dX9_crosses_77 rfl rfl ?_
  refine V_iload (pc := 78) 0 dX9_crosses_78 rfl ?_
  refine V_imul (pc := 80) dX9_crosses_80 ?_
  refine V_istore (pc := 81) (lv1 := [(5, _), (4, _), (3, _), (0, _), (1, _), (2, _)]) dX9_crosses_81 (by decide) rfl ?_
  refine V_aload_n (pc := 83) 3 dX9_crosses_83 rfl rfl ?_
  refine V_iload_n (pc := 84) 4 dX9_crosses_84 rfl rfl ?_
  refine V_iload_n (pc := 85) 5 dX9_crosses_85 rfl rfl ?_
  obtain ⟨x18, h17, h⟩ := bnd h
  refine V_cV2 (pc := 86) dX9_crosses_86 kw805 calX9_endTogether kw807 ks34 (L9_0 H0) rfl (by decide) (Nat.le_of_ble_eq_true rfl) (ctX9_endTogether H0 h17) ?_
  refine V_ifB_eq (pc := 89) (tgt := 106) dX9_crosses_89 (by decide) (fun c19 => ?_) (fun c19 => ?_)
  · have h := ite_f c19 h
    refine V_iload (pc := 106) 0 dX9_crosses_106 rfl ?_
    refine V_if_le (pc := 108) (tgt := 115) dX9_crosses_108 (by decide) (fun c20 => ?_) (fun c20 => ?_)
    · have h := ite_p c20 h
      refine V_iconst (pc := 115) (x := 0) dX9_crosses_115 (by decide) ?_
      cases h
      exact V_ret (pc := 116) dX9_crosses_116 ⟨rfl, _, rfl, rfl⟩ ⟨rfl, rfl, rfl⟩
    · have h := ite_n c20 h
      refine V_iconst (pc := 111) (x := 1) dX9_crosses_111 (by decide) ?_
      refine V_goto (pc := 112) (tgt := 116) dX9_crosses_112 (by decide) ?_
      cases h
      exact V_ret (pc := 116) dX9_crosses_116 ⟨rfl, _, rfl, rfl⟩ ⟨rfl, rfl, rfl⟩
  · have h := ite_p c19 h
    refine V_iload (pc := 92) 0 dX9_crosses_92 rfl ?_
    refine V_iconst (pc := 94) (x := 1) dX9_crosses_94 (by decide) ?_
    refine V_icmp_le (pc := 95) (tgt := 102) dX9_crosses_95 (by decide) (fun c21 => ?_) (fun c21 => ?_)
    · have h := ite_p c21 h
      refine V_iconst (pc := 102) (x := 0) dX9_crosses_102 (by decide) ?_
      refine V_goto (pc := 103) (tgt := 116) dX9_crosses_103 (by decide) ?_
      cases h
      exact V_ret (pc := 116) dX9_crosses_116 ⟨rfl, _, rfl, rfl⟩ ⟨rfl, rfl, rfl⟩
    · have h := ite_n c21 h
      refine V_iconst (pc := 98) (x := 1) dX9_crosses_98 (by decide) ?_
      refine V_goto (pc := 99) (tgt := 116) dX9_crosses_99 (by decide) ?_
      cases h
      exact V_ret (pc := 116) dX9_crosses_116 ⟨rfl, _, rfl, rfl⟩ ⟨rfl, rfl, rfl⟩
theorem calX11_meet : Cal yX11_meet cX11_meet 3 (some .int) 2 := ⟨kw793, kw1, by decide +kernel⟩
theorem ctX11_meet {G : Gl} {σ : Sg} {d : Dt} {r0 : Nat} {r0h : Nat} {r0p : Nat} {v1 : Int32} {v2 : Int32} {rr : Int32 × Dt} (H0 : L10 σ r0 r0h r0p) (h : mX11_meet r0 r0h r0p v1 v2 d = some rr) : CTv G yX11_meet cX11_meet 3 (some .int) 5 [.ref (gB G + r0), .int v1, .int v2] σ d [.int rr.1] rr.2 := by
  refine CT_of pn_RX11 (Nat.le_of_ble_eq_true rfl) ?_
  rw [mX11_meet] at h
  refine V_aload_n (pc := 0) 0 dX11_meet_0 rfl rfl ?_
  refine V_iload_n (pc := 1) 1 dX11_meet_1 rfl rfl ?_
  refine V_cV1 (pc := 2) dX11_meet_2 kw777 calX11_isBundle kw779 ks32 (L10_0 H0) rfl (by decide) (Nat.le_of_ble_eq_true rfl) (ctX11_isBundle H0) ?_
  refine V_ifB_eq (pc := 5) (tgt := 21) dX11_meet_5 (by decide) (fun c3 => ?_) (fun c3 => ?_)
  · have h := ite_f c3 h
    refine V_aload_n (pc := 21) 0 dX11_meet_21 rfl rfl ?_
    refine V_iconst (pc := 22) (x := 1) dX11_meet_22 (by decide) ?_
    refine V_cV1 (pc := 23) dX11_meet_23 kw403 calX11_refuse kw405 ks1 (L10_0 H0) rfl (by decide) (Nat.le_of_ble_eq_true rfl) (ctX11_refuse H0) ?_
    cases h
    exact V_ret (pc := 26) dX11_meet_26 ⟨rfl, _, rfl⟩ ⟨rfl, rfl, rfl⟩
  · have h := ite_p c3 h
    refine V_aload_n (pc := 8) 0 dX11_meet_8 rfl rfl ?_
    refine V_iload_n (pc := 9) 2 dX11_meet_9 rfl rfl ?_
    refine V_cV1 (pc := 10) dX11_meet_10 kw777 calX11_isBundle kw779 ks32 (L10_0 H0) rfl (by decide) (Nat.le_of_ble_eq_true rfl) (ctX11_isBundle H0) ?_
    refine V_ifB_eq (pc := 13) (tgt := 21) dX11_meet_13 (by decide) (fun c8 => ?_) (fun c8 => ?_)
    · have h := ite_f c8 h
      refine V_aload_n (pc := 21) 0 dX11_meet_21 rfl rfl ?_
      refine V_iconst (pc := 22) (x := 1) dX11_meet_22 (by decide) ?_
      refine V_cV1 (pc := 23) dX11_meet_23 kw403 calX11_refuse kw405 ks1 (L10_0 H0) rfl (by decide) (Nat.le_of_ble_eq_true rfl) (ctX11_refuse H0) ?_
      cases h
      exact V_ret (pc := 26) dX11_meet_26 ⟨rfl, _, rfl⟩ ⟨rfl, rfl, rfl⟩
    · have h := ite_p c8 h
      refine V_iload_n (pc := 16) 1 dX11_meet_16 rfl rfl ?_
      refine V_iload_n (pc := 17) 2 dX11_meet_17 rfl rfl ?_
      refine V_icmp_ne (pc := 18) (tgt := 27) dX11_meet_18 (by decide) (fun c11 => ?_) (fun c11 => ?_)
      · have h := ite_n c11 h
        refine V_aload_n (pc := 27) 0 dX11_meet_27 rfl rfl ?_
        refine V_aload_n (pc := 28) 0 dX11_meet_28 rfl rfl ?_
        refine V_getR (pc := 29) (c := 10) (k := 2) dX11_meet_29 (by decide) (by decide) kw356 rfl rfl (L10_0 H0) (L10_r2 H0) ?_
        refine V_getR (pc := 32) (c := 4) (k := 6) dX11_meet_32 (by decide) (by decide) kw233 rfl rfl (L4_0 (L10_o2 H0)) (L4_r6 (L10_o2 H0)) ?_
        refine V_iload_n (pc := 35) 1 dX11_meet_35 rfl rfl ?_
        refine V_iload_n (pc := 36) 2 dX11_meet_36 rfl rfl ?_
        obtain ⟨x13, h12, h⟩ := bnd h
        refine V_cV2 (pc := 37) dX11_meet_37 kw794 calX9_crosses kw795 kw796 (L9_0 (L4_o6 (L10_o2 H0))) rfl (by decide) (Nat.le_of_ble_eq_true rfl) (ctX9_crosses (L4_o6 (L10_o2 H0)) h12) ?_
        refine V_ifB_eq (pc := 40) (tgt := 47) dX11_meet_40 (by decide) (fun c14 => ?_) (fun c14 => ?_)
        · have h := ite_f c14 h
          refine V_iconst (pc := 47) (x := 0) dX11_meet_47 (by decide) ?_
          refine V_cV1 (pc := 48) dX11_meet_48 kw720 calX11_answer kw722 ks29 (L10_0 H0) rfl (by decide) (Nat.le_of_ble_eq_true rfl) (ctX11_answer H0) ?_
          cases h
          exact V_ret (pc := 51) dX11_meet_51 ⟨rfl, _, rfl⟩ ⟨rfl, rfl, rfl⟩
        · have h := ite_p c14 h
          refine V_iconst (pc := 43) (x := 1) dX11_meet_43 (by decide) ?_
          refine V_goto (pc := 44) (tgt := 48) dX11_meet_44 (by decide) ?_
          refine V_cV1 (pc := 48) dX11_meet_48 kw720 calX11_answer kw722 ks29 (L10_0 H0) rfl (by decide) (Nat.le_of_ble_eq_true rfl) (ctX11_answer H0) ?_
          cases h
          exact V_ret (pc := 51) dX11_meet_51 ⟨rfl, _, rfl⟩ ⟨rfl, rfl, rfl⟩
      · have h := ite_p c11 h
        refine V_aload_n (pc := 21) 0 dX11_meet_21 rfl rfl ?_
        refine V_iconst (pc := 22) (x := 1) dX11_meet_22 (by decide) ?_
        refine V_cV1 (pc := 23) dX11_meet_23 kw403 calX11_refuse kw405 ks1 (L10_0 H0) rfl (by decide) (Nat.le_of_ble_eq_true rfl) (ctX11_refuse H0) ?_
        cases h
        exact V_ret (pc := 26) dX11_meet_26 ⟨rfl, _, rfl⟩ ⟨rfl, rfl, rfl⟩
theorem wX9_countCrossings_16 {G : Gl} {σ : Sg} {d : Dt} {g4 : Int32 → Int32 → Option Int32} {r0 : Nat} {v2 : Int32} {rr : Int32} (H0 : L9 σ r0) (hg4 : ∀ (v1 : Int32) (v2 : Int32), g4 v1 v2 = some rr → V G yX9_countCrossings cX9_countCrossings 4 (some .int) 5 0 0 (PH [.int rr] σ d) 4 [(0, .ref (gB G + r0)), (1, .int v1), (2, .int v2)] [] σ d) : ∀ (n : Nat) (v1 : Int32) (v3 : Int32), mX9_countCrossings_16 g4 d r0 v2 n v1 v3 = some rr → V G yX9_countCrossings cX9_countCrossings 4 (some .int) 5 0 0 (PH [.int rr] σ d) 16 [(0, .ref (gB G + r0)), (1, .int v1), (2, .int v2), (3, .int v3)] [] σ d := by
  intro n
  induction n with
  | zero =>
    intro v1 v3
    intros
    rename_i h
    exact absurd h (by rw [mX9_countCrossings_16]; exact fun q => nomatch q)
  | succ n ih =>
    intro v1 v3 h
    rw [mX9_countCrossings_16] at h
    refine V_iload_n (pc := 16) 3 dX9_countCrossings_16 rfl rfl ?_
    refine V_aload_n (pc := 17) 0 dX9_countCrossings_17 rfl rfl ?_
    refine V_getI (pc := 18) (c := 9) (k := 0) dX9_countCrossings_18 (by decide) (by decide) kw47 rfl rfl (L9_0 H0) ?_
    refine V_icmp_ge (pc := 21) (tgt := 42) dX9_countCrossings_21 (by decide) (fun c2 => ?_) (fun c2 => ?_)
    · have h := ite_p c2 h
      refine V_iinc (pc := 42) (lv1 := [(2, _), (0, _), (1, _), (3, _)]) (z := _ + (1 : Int32)) 2 dX9_countCrossings_42 rfl rfl (by decide) rfl ?_
      refine V_goto (pc := 45) (tgt := 4) dX9_countCrossings_45 (by decide) ?_
      exact V_sub [1, 2, 0] rfl (hg4 v1 (v2 + (1 : Int32)) h)
    · have h := ite_n c2 h
      refine V_aload_n (pc := 24) 0 dX9_countCrossings_24 rfl rfl ?_
      refine V_iload_n (pc := 25) 2 dX9_countCrossings_25 rfl rfl ?_
      refine V_iload_n (pc := 26) 3 dX9_countCrossings_26 rfl rfl ?_
      obtain ⟨x4, h3, h⟩ := bnd h
      refine V_cV2 (pc := 27) dX9_countCrossings_27 kw817 calX9_crosses kw795 kw796 (L9_0 H0) rfl (by decide) (Nat.le_of_ble_eq_true rfl) (ctX9_crosses H0 h3) ?_
      refine V_ifB_eq (pc := 30) (tgt := 36) dX9_countCrossings_30 (by decide) (fun c5 => ?_) (fun c5 => ?_)
      · have h := ite_f c5 h
        refine V_iinc (pc := 36) (lv1 := [(3, _), (0, _), (1, _), (2, _)]) (z := _ + (1 : Int32)) 3 dX9_countCrossings_36 rfl rfl (by decide) rfl ?_
        refine V_goto (pc := 39) (tgt := 16) dX9_countCrossings_39 (by decide) ?_
        exact V_sub [1, 2, 3, 0] rfl (ih v1 (v3 + (1 : Int32)) h)
      · have h := ite_p c5 h
        refine V_iinc (pc := 33) (lv1 := [(1, _), (0, _), (2, _), (3, _)]) (z := _ + (1 : Int32)) 1 dX9_countCrossings_33 rfl rfl (by decide) rfl ?_
        refine V_iinc (pc := 36) (lv1 := [(3, _), (1, _), (0, _), (2, _)]) (z := _ + (1 : Int32)) 3 dX9_countCrossings_36 rfl rfl (by decide) rfl ?_
        refine V_goto (pc := 39) (tgt := 16) dX9_countCrossings_39 (by decide) ?_
        exact V_sub [2, 1, 3, 0] rfl (ih (v1 + (1 : Int32)) (v3 + (1 : Int32)) h)
theorem wX9_countCrossings_4 {G : Gl} {σ : Sg} {d : Dt} {r0 : Nat} {rr : Int32} (H0 : L9 σ r0) : ∀ (n : Nat) (v1 : Int32) (v2 : Int32), mX9_countCrossings_4 d r0 n v1 v2 = some rr → V G yX9_countCrossings cX9_countCrossings 4 (some .int) 5 0 0 (PH [.int rr] σ d) 4 [(0, .ref (gB G + r0)), (1, .int v1), (2, .int v2)] [] σ d := by
  intro n
  induction n with
  | zero =>
    intro v1 v2
    intros
    rename_i h
    exact absurd h (by rw [mX9_countCrossings_4]; exact fun q => nomatch q)
  | succ n ih =>
    intro v1 v2 h
    rw [mX9_countCrossings_4] at h
    refine V_iload_n (pc := 4) 2 dX9_countCrossings_4 rfl rfl ?_
    refine V_aload_n (pc := 5) 0 dX9_countCrossings_5 rfl rfl ?_
    refine V_getI (pc := 6) (c := 9) (k := 0) dX9_countCrossings_6 (by decide) (by decide) kw47 rfl rfl (L9_0 H0) ?_
    refine V_icmp_ge (pc := 9) (tgt := 48) dX9_countCrossings_9 (by decide) (fun c1 => ?_) (fun c1 => ?_)
    · have h := ite_p c1 h
      refine V_iload_n (pc := 48) 1 dX9_countCrossings_48 rfl rfl ?_
      cases h
      exact V_ret (pc := 49) dX9_countCrossings_49 ⟨rfl, _, rfl⟩ ⟨rfl, rfl, rfl⟩
    · have h := ite_n c1 h
      refine V_iload_n (pc := 12) 2 dX9_countCrossings_12 rfl rfl ?_
      refine V_iconst (pc := 13) (x := 1) dX9_countCrossings_13 (by decide) ?_
      refine V_iadd (pc := 14) dX9_countCrossings_14 ?_
      refine V_istore_n (pc := 15) (lv1 := [(3, _), (0, _), (1, _), (2, _)]) dX9_countCrossings_15 rfl (by decide) rfl ?_
      exact V_sub [1, 2, 3, 0] rfl (wX9_countCrossings_16 H0 ih FUEL v1 (v2 + (1 : Int32)) h)
theorem calX9_countCrossings : Cal yX9_countCrossings cX9_countCrossings 4 (some .int) 0 := ⟨kw816, kw3, by decide +kernel⟩
theorem ctX9_countCrossings {G : Gl} {σ : Sg} {d : Dt} {r0 : Nat} {rr : Int32} (H0 : L9 σ r0) (h : mX9_countCrossings r0 d = some rr) : CTv G yX9_countCrossings cX9_countCrossings 4 (some .int) 5 [.ref (gB G + r0)] σ d [.int rr] d := by
  refine CT_of pn_RX9 (Nat.le_of_ble_eq_true rfl) ?_
  rw [mX9_countCrossings] at h
  refine V_iconst (pc := 0) (x := 0) dX9_countCrossings_0 (by decide) ?_
  refine V_istore_n (pc := 1) (lv1 := [(1, _), (0, _)]) dX9_countCrossings_1 rfl (by decide) rfl ?_
  refine V_iconst (pc := 2) (x := 1) dX9_countCrossings_2 (by decide) ?_
  refine V_istore_n (pc := 3) (lv1 := [(2, _), (1, _), (0, _)]) dX9_countCrossings_3 rfl (by decide) rfl ?_
  exact V_sub [2, 1, 0] rfl (wX9_countCrossings_4 H0 FUEL (0 : Int32) (1 : Int32) h)
theorem calX11_meetings : Cal yX11_meetings cX11_meetings 1 (some .int) 0 := ⟨kw812, kw1, by decide +kernel⟩
theorem ctX11_meetings {G : Gl} {σ : Sg} {d : Dt} {r0 : Nat} {r0h : Nat} {r0p : Nat} {rr : Int32 × Dt} (H0 : L10 σ r0 r0h r0p) (h : mX11_meetings r0 r0h r0p d = some rr) : CTv G yX11_meetings cX11_meetings 1 (some .int) 6 [.ref (gB G + r0)] σ d [.int rr.1] rr.2 := by
  refine CT_of pn_RX11 (Nat.le_of_ble_eq_true rfl) ?_
  rw [mX11_meetings] at h
  refine V_aload_n (pc := 0) 0 dX11_meetings_0 rfl rfl ?_
  refine V_getI (pc := 1) (c := 10) (k := 4) dX11_meetings_1 (by decide) (by decide) kw358 rfl rfl (L10_0 H0) ?_
  refine V_if_eq (pc := 4) (tgt := 24) dX11_meetings_4 (by decide) (fun c1 => ?_) (fun c1 => ?_)
  · have h := ite_p c1 h
    refine V_aload_n (pc := 24) 0 dX11_meetings_24 rfl rfl ?_
    refine V_iconst (pc := 25) (x := 1) dX11_meetings_25 (by decide) ?_
    refine V_cV1 (pc := 26) dX11_meetings_26 kw403 calX11_refuse kw405 ks1 (L10_0 H0) rfl (by decide) (Nat.le_of_ble_eq_true rfl) (ctX11_refuse H0) ?_
    cases h
    exact V_ret (pc := 29) dX11_meetings_29 ⟨rfl, _, rfl⟩ ⟨rfl, rfl, rfl⟩
  · have h := ite_n c1 h
    refine V_aload_n (pc := 7) 0 dX11_meetings_7 rfl rfl ?_
    refine V_aload_n (pc := 8) 0 dX11_meetings_8 rfl rfl ?_
    refine V_getR (pc := 9) (c := 10) (k := 2) dX11_meetings_9 (by decide) (by decide) kw356 rfl rfl (L10_0 H0) (L10_r2 H0) ?_
    refine V_getR (pc := 12) (c := 4) (k := 6) dX11_meetings_12 (by decide) (by decide) kw233 rfl rfl (L4_0 (L10_o2 H0)) (L4_r6 (L10_o2 H0)) ?_
    obtain ⟨x5, h4, h⟩ := bnd h
    refine V_cV0 (pc := 15) dX11_meetings_15 kw813 calX9_countCrossings kw814 kw815 (L9_0 (L4_o6 (L10_o2 H0))) rfl (by decide) (Nat.le_of_ble_eq_true rfl) (ctX9_countCrossings (L4_o6 (L10_o2 H0)) h4) ?_
    refine V_cV1 (pc := 18) dX11_meetings_18 kw720 calX11_answer kw722 ks29 (L10_0 H0) rfl (by decide) (Nat.le_of_ble_eq_true rfl) (ctX11_answer H0) ?_
    refine V_goto (pc := 21) (tgt := 29) dX11_meetings_21 (by decide) ?_
    cases h
    exact V_ret (pc := 29) dX11_meetings_29 ⟨rfl, _, rfl⟩ ⟨rfl, rfl, rfl⟩
theorem calX11_named : Cal yX11_named cX11_named 4 (some .int) 1 := ⟨kw739, kw1, by decide +kernel⟩
theorem ctX11_named {G : Gl} {σ : Sg} {d : Dt} {r0 : Nat} {r0h : Nat} {r0p : Nat} {v1 : Int64} {rr : Int32 × Dt} (H0 : L10 σ r0 r0h r0p) (h : mX11_named r0 r0h r0p v1 d = some rr) : CTv G yX11_named cX11_named 4 (some .int) 1 [.ref (gB G + r0), .long v1] σ d [.int rr.1] rr.2 := by
  refine CT_of pn_RX11 (Nat.le_of_ble_eq_true rfl) ?_
  rw [mX11_named] at h
  refine V_aload_n (pc := 0) 0 dX11_named_0 rfl rfl ?_
  refine V_getR (pc := 1) (c := 10) (k := 2) dX11_named_1 (by decide) (by decide) kw356 rfl rfl (L10_0 H0) (L10_r2 H0) ?_
  refine V_lload_n (pc := 4) 1 dX11_named_4 rfl rfl ?_
  obtain ⟨x2, h1, h⟩ := bnd h
  refine V_cV1 (pc := 5) dX11_named_5 kw740 calX4_meaningOf kw593 kw594 (L4_0 (L10_o2 H0)) rfl (by decide) (Nat.le_of_ble_eq_true rfl) (ctX4_meaningOf (L10_o2 H0) h1) ?_
  refine V_istore_n (pc := 8) (lv1 := [(3, _), (0, _), (1, _)]) dX11_named_8 rfl (by decide) rfl ?_
  refine V_iload_n (pc := 9) 0 dX11_named_9 rfl rfl ?_
  refine V_if_ge (pc := 10) (tgt := 21) dX11_named_10 (by decide) (fun c3 => ?_) (fun c3 => ?_)
  · have h := ite_p c3 h
    refine V_aload_n (pc := 21) 1 dX11_named_21 rfl rfl ?_
    refine V_iload_n (pc := 22) 0 dX11_named_22 rfl rfl ?_
    refine V_cV1 (pc := 23) dX11_named_23 kw720 calX11_answer kw722 ks29 (L10_0 H0) rfl (by decide) (Nat.le_of_ble_eq_true rfl) (ctX11_answer H0) ?_
    cases h
    exact V_ret (pc := 26) dX11_named_26 ⟨rfl, _, rfl⟩ ⟨rfl, rfl, rfl⟩
  · have h := ite_n c3 h
    refine V_aload_n (pc := 13) 1 dX11_named_13 rfl rfl ?_
    refine V_iconst (pc := 14) (x := 1) dX11_named_14 (by decide) ?_
    refine V_cV1 (pc := 15) dX11_named_15 kw403 calX11_refuse kw405 ks1 (L10_0 H0) rfl (by decide) (Nat.le_of_ble_eq_true rfl) (ctX11_refuse H0) ?_
    refine V_goto (pc := 18) (tgt := 26) dX11_named_18 (by decide) ?_
    cases h
    exact V_ret (pc := 26) dX11_named_26 ⟨rfl, _, rfl⟩ ⟨rfl, rfl, rfl⟩
theorem calX11_net : Cal yX11_net cX11_net 4 (some .int) 2 := ⟨kw858, kw1, by decide +kernel⟩
theorem ctX11_net {G : Gl} {σ : Sg} {d : Dt} {r0 : Nat} {r0h : Nat} {r0p : Nat} {v1 : Int32} {v2 : Int32} {rr : Int32 × Dt} (H0 : L10 σ r0 r0h r0p) (h : mX11_net r0 r0h r0p v1 v2 d = some rr) : CTv G yX11_net cX11_net 4 (some .int) 1 [.ref (gB G + r0), .int v1, .int v2] σ d [.int rr.1] rr.2 := by
  refine CT_of pn_RX11 (Nat.le_of_ble_eq_true rfl) ?_
  rw [mX11_net] at h
  refine V_aload_n (pc := 0) 0 dX11_net_0 rfl rfl ?_
  refine V_iload_n (pc := 1) 1 dX11_net_1 rfl rfl ?_
  refine V_cV1 (pc := 2) dX11_net_2 kw859 calX11_isNet kw861 ks36 (L10_0 H0) rfl (by decide) (Nat.le_of_ble_eq_true rfl) (ctX11_isNet H0) ?_
  refine V_ifB_ne (pc := 5) (tgt := 14) dX11_net_5 (by decide) (fun c3 => ?_) (fun c3 => ?_)
  · have h := ite_p c3 h
    refine V_aload_n (pc := 14) 0 dX11_net_14 rfl rfl ?_
    refine V_getR (pc := 15) (c := 10) (k := 2) dX11_net_15 (by decide) (by decide) kw356 rfl rfl (L10_0 H0) (L10_r2 H0) ?_
    refine V_getR (pc := 18) (c := 4) (k := 8) dX11_net_18 (by decide) (by decide) kw244 rfl rfl (L4_0 (L10_o2 H0)) (L4_r8 (L10_o2 H0)) ?_
    refine V_astore_n (pc := 21) (lv1 := [(3, _), (0, _), (1, _), (2, _)]) dX11_net_21 rfl (by decide) rfl ?_
    refine V_iload_n (pc := 22) 3 dX11_net_22 rfl rfl ?_
    rcases Decidable.em (v2 = (0 : Int32)) with c4 | c4
    · have h := ite_p c4 h
      refine V_tcase (pc := 23) (tgt := 60) dX11_net_23 c4 (by decide) (by decide) rfl (by decide) ?_
      refine V_aload_n (pc := 60) 1 dX11_net_60 rfl rfl ?_
      refine V_aload_n (pc := 61) 0 dX11_net_61 rfl rfl ?_
      refine V_getR (pc := 62) (c := 5) (k := 1) dX11_net_62 (by decide) (by decide) kw146 rfl rfl (L5_0 (L4_o8 (L10_o2 H0))) (L5_r1 (L4_o8 (L10_o2 H0))) ?_
      refine V_iload_n (pc := 65) 2 dX11_net_65 rfl rfl ?_
      obtain ⟨b27, h⟩ := ite_o h
      refine V_iald (pc := 66) dX11_net_66 (L5_s1 (L4_o8 (L10_o2 H0))) (inB_vp b27) ?_
      refine V_cV1 (pc := 67) dX11_net_67 kw720 calX11_answer kw722 ks29 (L10_0 H0) rfl (by decide) (Nat.le_of_ble_eq_true rfl) (ctX11_answer H0) ?_
      cases h
      exact V_ret (pc := 70) dX11_net_70 ⟨rfl, _, rfl⟩ ⟨rfl, rfl, rfl⟩
    · have h := ite_n c4 h
      rcases Decidable.em (v2 = (1 : Int32)) with c5 | c5
      · have h := ite_p c5 h
        refine V_tcase (pc := 23) (tgt := 71) dX11_net_23 c5 (by decide) (by decide) rfl (by decide) ?_
        refine V_aload_n (pc := 71) 1 dX11_net_71 rfl rfl ?_
        refine V_aload_n (pc := 72) 0 dX11_net_72 rfl rfl ?_
        refine V_getR (pc := 73) (c := 5) (k := 2) dX11_net_73 (by decide) (by decide) kw150 rfl rfl (L5_0 (L4_o8 (L10_o2 H0))) (L5_r2 (L4_o8 (L10_o2 H0))) ?_
        refine V_iload_n (pc := 76) 2 dX11_net_76 rfl rfl ?_
        obtain ⟨b24, h⟩ := ite_o h
        refine V_iald (pc := 77) dX11_net_77 (L5_s2 (L4_o8 (L10_o2 H0))) (inB_vp b24) ?_
        refine V_cV1 (pc := 78) dX11_net_78 kw720 calX11_answer kw722 ks29 (L10_0 H0) rfl (by decide) (Nat.le_of_ble_eq_true rfl) (ctX11_answer H0) ?_
        cases h
        exact V_ret (pc := 81) dX11_net_81 ⟨rfl, _, rfl⟩ ⟨rfl, rfl, rfl⟩
      · have h := ite_n c5 h
        rcases Decidable.em (v2 = (2 : Int32)) with c6 | c6
        · have h := ite_p c6 h
          refine V_tcase (pc := 23) (tgt := 82) dX11_net_23 c6 (by decide) (by decide) rfl (by decide) ?_
          refine V_aload_n (pc := 82) 1 dX11_net_82 rfl rfl ?_
          refine V_aload_n (pc := 83) 0 dX11_net_83 rfl rfl ?_
          refine V_getR (pc := 84) (c := 5) (k := 3) dX11_net_84 (by decide) (by decide) kw154 rfl rfl (L5_0 (L4_o8 (L10_o2 H0))) (L5_r3 (L4_o8 (L10_o2 H0))) ?_
          refine V_iload_n (pc := 87) 2 dX11_net_87 rfl rfl ?_
          obtain ⟨b21, h⟩ := ite_o h
          refine V_iald (pc := 88) dX11_net_88 (L5_s3 (L4_o8 (L10_o2 H0))) (inB_vp b21) ?_
          refine V_cV1 (pc := 89) dX11_net_89 kw720 calX11_answer kw722 ks29 (L10_0 H0) rfl (by decide) (Nat.le_of_ble_eq_true rfl) (ctX11_answer H0) ?_
          cases h
          exact V_ret (pc := 92) dX11_net_92 ⟨rfl, _, rfl⟩ ⟨rfl, rfl, rfl⟩
        · have h := ite_n c6 h
          rcases Decidable.em (v2 = (3 : Int32)) with c7 | c7
          · have h := ite_p c7 h
            refine V_tcase (pc := 23) (tgt := 93) dX11_net_23 c7 (by decide) (by decide) rfl (by decide) ?_
            refine V_aload_n (pc := 93) 1 dX11_net_93 rfl rfl ?_
            refine V_aload_n (pc := 94) 0 dX11_net_94 rfl rfl ?_
            refine V_getR (pc := 95) (c := 5) (k := 4) dX11_net_95 (by decide) (by decide) kw157 rfl rfl (L5_0 (L4_o8 (L10_o2 H0))) (L5_r4 (L4_o8 (L10_o2 H0))) ?_
            refine V_iload_n (pc := 98) 2 dX11_net_98 rfl rfl ?_
            obtain ⟨b18, h⟩ := ite_o h
            refine V_iald (pc := 99) dX11_net_99 (L5_s4 (L4_o8 (L10_o2 H0))) (inB_vp b18) ?_
            refine V_cV1 (pc := 100) dX11_net_100 kw720 calX11_answer kw722 ks29 (L10_0 H0) rfl (by decide) (Nat.le_of_ble_eq_true rfl) (ctX11_answer H0) ?_
            cases h
            exact V_ret (pc := 103) dX11_net_103 ⟨rfl, _, rfl⟩ ⟨rfl, rfl, rfl⟩
          · have h := ite_n c7 h
            rcases Decidable.em (v2 = (4 : Int32)) with c8 | c8
            · have h := ite_p c8 h
              refine V_tcase (pc := 23) (tgt := 104) dX11_net_23 c8 (by decide) (by decide) rfl (by decide) ?_
              refine V_aload_n (pc := 104) 1 dX11_net_104 rfl rfl ?_
              refine V_aload_n (pc := 105) 0 dX11_net_105 rfl rfl ?_
              refine V_getR (pc := 106) (c := 5) (k := 5) dX11_net_106 (by decide) (by decide) kw160 rfl rfl (L5_0 (L4_o8 (L10_o2 H0))) (L5_r5 (L4_o8 (L10_o2 H0))) ?_
              refine V_iload_n (pc := 109) 2 dX11_net_109 rfl rfl ?_
              obtain ⟨b15, h⟩ := ite_o h
              refine V_iald (pc := 110) dX11_net_110 (L5_s5 (L4_o8 (L10_o2 H0))) (inB_vp b15) ?_
              refine V_cV1 (pc := 111) dX11_net_111 kw720 calX11_answer kw722 ks29 (L10_0 H0) rfl (by decide) (Nat.le_of_ble_eq_true rfl) (ctX11_answer H0) ?_
              cases h
              exact V_ret (pc := 114) dX11_net_114 ⟨rfl, _, rfl⟩ ⟨rfl, rfl, rfl⟩
            · have h := ite_n c8 h
              rcases Decidable.em (v2 = (5 : Int32)) with c9 | c9
              · have h := ite_p c9 h
                refine V_tcase (pc := 23) (tgt := 115) dX11_net_23 c9 (by decide) (by decide) rfl (by decide) ?_
                refine V_aload_n (pc := 115) 1 dX11_net_115 rfl rfl ?_
                refine V_aload_n (pc := 116) 0 dX11_net_116 rfl rfl ?_
                refine V_getR (pc := 117) (c := 5) (k := 6) dX11_net_117 (by decide) (by decide) kw163 rfl rfl (L5_0 (L4_o8 (L10_o2 H0))) (L5_r6 (L4_o8 (L10_o2 H0))) ?_
                refine V_iload_n (pc := 120) 2 dX11_net_120 rfl rfl ?_
                obtain ⟨b12, h⟩ := ite_o h
                refine V_iald (pc := 121) dX11_net_121 (L5_s6 (L4_o8 (L10_o2 H0))) (inB_vp b12) ?_
                refine V_cV1 (pc := 122) dX11_net_122 kw720 calX11_answer kw722 ks29 (L10_0 H0) rfl (by decide) (Nat.le_of_ble_eq_true rfl) (ctX11_answer H0) ?_
                cases h
                exact V_ret (pc := 125) dX11_net_125 ⟨rfl, _, rfl⟩ ⟨rfl, rfl, rfl⟩
              · have h := ite_n c9 h
                refine V_tout (pc := 23) (tgt := 126) dX11_net_23 (sw6 c4 c5 c6 c7 c8 c9) (by decide) ?_
                refine V_aload_n (pc := 126) 1 dX11_net_126 rfl rfl ?_
                refine V_iconst (pc := 127) (x := 1) dX11_net_127 (by decide) ?_
                refine V_cV1 (pc := 128) dX11_net_128 kw403 calX11_refuse kw405 ks1 (L10_0 H0) rfl (by decide) (Nat.le_of_ble_eq_true rfl) (ctX11_refuse H0) ?_
                cases h
                exact V_ret (pc := 131) dX11_net_131 ⟨rfl, _, rfl⟩ ⟨rfl, rfl, rfl⟩
  · have h := ite_f c3 h
    refine V_aload_n (pc := 8) 0 dX11_net_8 rfl rfl ?_
    refine V_iconst (pc := 9) (x := 1) dX11_net_9 (by decide) ?_
    refine V_cV1 (pc := 10) dX11_net_10 kw403 calX11_refuse kw405 ks1 (L10_0 H0) rfl (by decide) (Nat.le_of_ble_eq_true rfl) (ctX11_refuse H0) ?_
    cases h
    exact V_ret (pc := 13) dX11_net_13 ⟨rfl, _, rfl⟩ ⟨rfl, rfl, rfl⟩
theorem wX9_countOff_4 {G : Gl} {σ : Sg} {d : Dt} {r0 : Nat} {v1 : Int32} {rr : Int32} (H0 : L9 σ r0) : ∀ (n : Nat) (v2 : Int32) (v3 : Int32), mX9_countOff_4 d r0 v1 n v2 v3 = some rr → V G yX9_countOff cX9_countOff 4 (some .int) 0 0 0 (PH [.int rr] σ d) 4 [(0, .ref (gB G + r0)), (1, .int v1), (2, .int v2), (3, .int v3)] [] σ d := by
  intro n
  induction n with
  | zero =>
    intro v2 v3
    intros
    rename_i h
    exact absurd h (by rw [mX9_countOff_4]; exact fun q => nomatch q)
  | succ n ih =>
    intro v2 v3 h
    rw [mX9_countOff_4] at h
    refine V_iload_n (pc := 4) 3 dX9_countOff_4 rfl rfl ?_
    refine V_aload_n (pc := 5) 0 dX9_countOff_5 rfl rfl ?_
    refine V_getI (pc := 6) (c := 9) (k := 0) dX9_countOff_6 (by decide) (by decide) kw47 rfl rfl (L9_0 H0) ?_
    refine V_icmp_ge (pc := 9) (tgt := 31) dX9_countOff_9 (by decide) (fun c1 => ?_) (fun c1 => ?_)
    · have h := ite_p c1 h
      refine V_iload_n (pc := 31) 2 dX9_countOff_31 rfl rfl ?_
      cases h
      exact V_ret (pc := 32) dX9_countOff_32 ⟨rfl, _, rfl⟩ ⟨rfl, rfl, rfl⟩
    · have h := ite_n c1 h
      refine V_aload_n (pc := 12) 0 dX9_countOff_12 rfl rfl ?_
      refine V_getR (pc := 13) (c := 9) (k := 1) dX9_countOff_13 (by decide) (by decide) kw52 rfl rfl (L9_0 H0) (L9_r1 H0) ?_
      refine V_iload_n (pc := 16) 3 dX9_countOff_16 rfl rfl ?_
      obtain ⟨b2, h⟩ := ite_o h
      refine V_iald (pc := 17) dX9_countOff_17 (L9_s1 H0) (inB_vp b2) ?_
      refine V_iload_n (pc := 18) 1 dX9_countOff_18 rfl rfl ?_
      refine V_icmp_ne (pc := 19) (tgt := 25) dX9_countOff_19 (by decide) (fun c3 => ?_) (fun c3 => ?_)
      · have h := ite_n c3 h
        refine V_iinc (pc := 25) (lv1 := [(3, _), (0, _), (1, _), (2, _)]) (z := _ + (1 : Int32)) 3 dX9_countOff_25 rfl rfl (by decide) rfl ?_
        refine V_goto (pc := 28) (tgt := 4) dX9_countOff_28 (by decide) ?_
        exact V_sub [1, 2, 3, 0] rfl (ih v2 (v3 + (1 : Int32)) h)
      · have h := ite_p c3 h
        refine V_iinc (pc := 22) (lv1 := [(2, _), (0, _), (1, _), (3, _)]) (z := _ + (1 : Int32)) 2 dX9_countOff_22 rfl rfl (by decide) rfl ?_
        refine V_iinc (pc := 25) (lv1 := [(3, _), (2, _), (0, _), (1, _)]) (z := _ + (1 : Int32)) 3 dX9_countOff_25 rfl rfl (by decide) rfl ?_
        refine V_goto (pc := 28) (tgt := 4) dX9_countOff_28 (by decide) ?_
        exact V_sub [2, 3, 1, 0] rfl (ih (v2 + (1 : Int32)) (v3 + (1 : Int32)) h)
theorem calX9_countOff : Cal yX9_countOff cX9_countOff 4 (some .int) 1 := ⟨kw752, kw3, by decide +kernel⟩
theorem ctX9_countOff {G : Gl} {σ : Sg} {d : Dt} {r0 : Nat} {v1 : Int32} {rr : Int32} (H0 : L9 σ r0) (h : mX9_countOff r0 v1 d = some rr) : CTv G yX9_countOff cX9_countOff 4 (some .int) 0 [.ref (gB G + r0), .int v1] σ d [.int rr] d := by
  refine CT_of pn_RX9 (Nat.le_of_ble_eq_true rfl) ?_
  rw [mX9_countOff] at h
  refine V_iconst (pc := 0) (x := 0) dX9_countOff_0 (by decide) ?_
  refine V_istore_n (pc := 1) (lv1 := [(2, _), (0, _), (1, _)]) dX9_countOff_1 rfl (by decide) rfl ?_
  refine V_iconst (pc := 2) (x := 1) dX9_countOff_2 (by decide) ?_
  refine V_istore_n (pc := 3) (lv1 := [(3, _), (2, _), (0, _), (1, _)]) dX9_countOff_3 rfl (by decide) rfl ?_
  exact V_sub [2, 3, 1, 0] rfl (wX9_countOff_4 H0 FUEL (0 : Int32) (1 : Int32) h)
theorem calX11_node : Cal yX11_node cX11_node 3 (some .int) 2 := ⟨kw744, kw1, by decide +kernel⟩
theorem ctX11_node {G : Gl} {σ : Sg} {d : Dt} {r0 : Nat} {r0h : Nat} {r0p : Nat} {v1 : Int32} {v2 : Int32} {rr : Int32 × Dt} (H0 : L10 σ r0 r0h r0p) (h : mX11_node r0 r0h r0p v1 v2 d = some rr) : CTv G yX11_node cX11_node 3 (some .int) 1 [.ref (gB G + r0), .int v1, .int v2] σ d [.int rr.1] rr.2 := by
  refine CT_of pn_RX11 (Nat.le_of_ble_eq_true rfl) ?_
  rw [mX11_node] at h
  refine V_aload_n (pc := 0) 0 dX11_node_0 rfl rfl ?_
  refine V_iload_n (pc := 1) 1 dX11_node_1 rfl rfl ?_
  refine V_cV1 (pc := 2) dX11_node_2 kw745 calX11_isNode kw747 ks30 (L10_0 H0) rfl (by decide) (Nat.le_of_ble_eq_true rfl) (ctX11_isNode H0) ?_
  refine V_ifB_ne (pc := 5) (tgt := 14) dX11_node_5 (by decide) (fun c3 => ?_) (fun c3 => ?_)
  · have h := ite_p c3 h
    refine V_iload_n (pc := 14) 2 dX11_node_14 rfl rfl ?_
    rcases Decidable.em (v2 = (0 : Int32)) with c4 | c4
    · have h := ite_p c4 h
      refine V_tcase (pc := 15) (tgt := 40) dX11_node_15 c4 (by decide) (by decide) rfl (by decide) ?_
      refine V_aload_n (pc := 40) 0 dX11_node_40 rfl rfl ?_
      refine V_aload_n (pc := 41) 0 dX11_node_41 rfl rfl ?_
      refine V_getR (pc := 42) (c := 10) (k := 2) dX11_node_42 (by decide) (by decide) kw356 rfl rfl (L10_0 H0) (L10_r2 H0) ?_
      refine V_getR (pc := 45) (c := 4) (k := 6) dX11_node_45 (by decide) (by decide) kw233 rfl rfl (L4_0 (L10_o2 H0)) (L4_r6 (L10_o2 H0)) ?_
      refine V_getR (pc := 48) (c := 9) (k := 1) dX11_node_48 (by decide) (by decide) kw53 rfl rfl (L9_0 (L4_o6 (L10_o2 H0))) (L9_r1 (L4_o6 (L10_o2 H0))) ?_
      refine V_iload_n (pc := 51) 1 dX11_node_51 rfl rfl ?_
      obtain ⟨b16, h⟩ := ite_o h
      refine V_iald (pc := 52) dX11_node_52 (L9_s1 (L4_o6 (L10_o2 H0))) (inB_vp b16) ?_
      refine V_cV1 (pc := 53) dX11_node_53 kw720 calX11_answer kw722 ks29 (L10_0 H0) rfl (by decide) (Nat.le_of_ble_eq_true rfl) (ctX11_answer H0) ?_
      cases h
      exact V_ret (pc := 56) dX11_node_56 ⟨rfl, _, rfl⟩ ⟨rfl, rfl, rfl⟩
    · have h := ite_n c4 h
      rcases Decidable.em (v2 = (1 : Int32)) with c5 | c5
      · have h := ite_p c5 h
        refine V_tcase (pc := 15) (tgt := 57) dX11_node_15 c5 (by decide) (by decide) rfl (by decide) ?_
        refine V_aload_n (pc := 57) 0 dX11_node_57 rfl rfl ?_
        refine V_aload_n (pc := 58) 0 dX11_node_58 rfl rfl ?_
        refine V_getR (pc := 59) (c := 10) (k := 2) dX11_node_59 (by decide) (by decide) kw356 rfl rfl (L10_0 H0) (L10_r2 H0) ?_
        refine V_getR (pc := 62) (c := 4) (k := 6) dX11_node_62 (by decide) (by decide) kw233 rfl rfl (L4_0 (L10_o2 H0)) (L4_r6 (L10_o2 H0)) ?_
        refine V_getR (pc := 65) (c := 9) (k := 2) dX11_node_65 (by decide) (by decide) kw55 rfl rfl (L9_0 (L4_o6 (L10_o2 H0))) (L9_r2 (L4_o6 (L10_o2 H0))) ?_
        refine V_iload_n (pc := 68) 1 dX11_node_68 rfl rfl ?_
        obtain ⟨b13, h⟩ := ite_o h
        refine V_iald (pc := 69) dX11_node_69 (L9_s2 (L4_o6 (L10_o2 H0))) (inB_vp b13) ?_
        refine V_cV1 (pc := 70) dX11_node_70 kw720 calX11_answer kw722 ks29 (L10_0 H0) rfl (by decide) (Nat.le_of_ble_eq_true rfl) (ctX11_answer H0) ?_
        cases h
        exact V_ret (pc := 73) dX11_node_73 ⟨rfl, _, rfl⟩ ⟨rfl, rfl, rfl⟩
      · have h := ite_n c5 h
        rcases Decidable.em (v2 = (2 : Int32)) with c6 | c6
        · have h := ite_p c6 h
          refine V_tcase (pc := 15) (tgt := 74) dX11_node_15 c6 (by decide) (by decide) rfl (by decide) ?_
          refine V_aload_n (pc := 74) 0 dX11_node_74 rfl rfl ?_
          refine V_aload_n (pc := 75) 0 dX11_node_75 rfl rfl ?_
          refine V_getR (pc := 76) (c := 10) (k := 2) dX11_node_76 (by decide) (by decide) kw356 rfl rfl (L10_0 H0) (L10_r2 H0) ?_
          refine V_getR (pc := 79) (c := 4) (k := 6) dX11_node_79 (by decide) (by decide) kw233 rfl rfl (L4_0 (L10_o2 H0)) (L4_r6 (L10_o2 H0)) ?_
          refine V_iload_n (pc := 82) 1 dX11_node_82 rfl rfl ?_
          obtain ⟨x10, h9, h⟩ := bnd h
          refine V_cV1 (pc := 83) dX11_node_83 kw749 calX9_countOff kw750 kw751 (L9_0 (L4_o6 (L10_o2 H0))) rfl (by decide) (Nat.le_of_ble_eq_true rfl) (ctX9_countOff (L4_o6 (L10_o2 H0)) h9) ?_
          refine V_cV1 (pc := 86) dX11_node_86 kw720 calX11_answer kw722 ks29 (L10_0 H0) rfl (by decide) (Nat.le_of_ble_eq_true rfl) (ctX11_answer H0) ?_
          cases h
          exact V_ret (pc := 89) dX11_node_89 ⟨rfl, _, rfl⟩ ⟨rfl, rfl, rfl⟩
        · have h := ite_n c6 h
          refine V_tout (pc := 15) (tgt := 90) dX11_node_15 (sw3 c4 c5 c6) (by decide) ?_
          refine V_aload_n (pc := 90) 0 dX11_node_90 rfl rfl ?_
          refine V_iconst (pc := 91) (x := 1) dX11_node_91 (by decide) ?_
          refine V_cV1 (pc := 92) dX11_node_92 kw403 calX11_refuse kw405 ks1 (L10_0 H0) rfl (by decide) (Nat.le_of_ble_eq_true rfl) (ctX11_refuse H0) ?_
          cases h
          exact V_ret (pc := 95) dX11_node_95 ⟨rfl, _, rfl⟩ ⟨rfl, rfl, rfl⟩
  · have h := ite_f c3 h
    refine V_aload_n (pc := 8) 0 dX11_node_8 rfl rfl ?_
    refine V_iconst (pc := 9) (x := 1) dX11_node_9 (by decide) ?_
    refine V_cV1 (pc := 10) dX11_node_10 kw403 calX11_refuse kw405 ks1 (L10_0 H0) rfl (by decide) (Nat.le_of_ble_eq_true rfl) (ctX11_refuse H0) ?_
    cases h
    exact V_ret (pc := 13) dX11_node_13 ⟨rfl, _, rfl⟩ ⟨rfl, rfl, rfl⟩
theorem calX11_pin : Cal yX11_pin cX11_pin 4 (some .int) 3 := ⟨kw866, kw1, by decide +kernel⟩
theorem ctX11_pin {G : Gl} {σ : Sg} {d : Dt} {r0 : Nat} {r0h : Nat} {r0p : Nat} {v1 : Int32} {v2 : Int32} {v3 : Int32} {rr : Int32 × Dt} (H0 : L10 σ r0 r0h r0p) (h : mX11_pin r0 r0h r0p v1 v2 v3 d = some rr) : CTv G yX11_pin cX11_pin 4 (some .int) 2 [.ref (gB G + r0), .int v1, .int v2, .int v3] σ d [.int rr.1] rr.2 := by
  refine CT_of pn_RX11 (Nat.le_of_ble_eq_true rfl) ?_
  rw [mX11_pin] at h
  refine V_aload_n (pc := 0) 0 dX11_pin_0 rfl rfl ?_
  refine V_iload_n (pc := 1) 1 dX11_pin_1 rfl rfl ?_
  refine V_iload_n (pc := 2) 2 dX11_pin_2 rfl rfl ?_
  obtain ⟨x2, h1, h⟩ := bnd h
  refine V_cV2 (pc := 3) dX11_pin_3 kw867 calX11_isPin kw869 ks37 (L10_0 H0) rfl (by decide) (Nat.le_of_ble_eq_true rfl) (ctX11_isPin H0 h1) ?_
  refine V_ifB_eq (pc := 6) (tgt := 18) dX11_pin_6 (by decide) (fun c3 => ?_) (fun c3 => ?_)
  · have h := ite_f c3 h
    refine V_aload_n (pc := 18) 0 dX11_pin_18 rfl rfl ?_
    refine V_iconst (pc := 19) (x := 1) dX11_pin_19 (by decide) ?_
    refine V_cV1 (pc := 20) dX11_pin_20 kw403 calX11_refuse kw405 ks1 (L10_0 H0) rfl (by decide) (Nat.le_of_ble_eq_true rfl) (ctX11_refuse H0) ?_
    cases h
    exact V_ret (pc := 23) dX11_pin_23 ⟨rfl, _, rfl⟩ ⟨rfl, rfl, rfl⟩
  · have h := ite_p c3 h
    refine V_iload_n (pc := 9) 3 dX11_pin_9 rfl rfl ?_
    refine V_if_lt (pc := 10) (tgt := 18) dX11_pin_10 (by decide) (fun c6 => ?_) (fun c6 => ?_)
    · have h := ite_p c6 h
      refine V_aload_n (pc := 18) 0 dX11_pin_18 rfl rfl ?_
      refine V_iconst (pc := 19) (x := 1) dX11_pin_19 (by decide) ?_
      refine V_cV1 (pc := 20) dX11_pin_20 kw403 calX11_refuse kw405 ks1 (L10_0 H0) rfl (by decide) (Nat.le_of_ble_eq_true rfl) (ctX11_refuse H0) ?_
      cases h
      exact V_ret (pc := 23) dX11_pin_23 ⟨rfl, _, rfl⟩ ⟨rfl, rfl, rfl⟩
    · have h := ite_n c6 h
      refine V_iload_n (pc := 13) 3 dX11_pin_13 rfl rfl ?_
      refine V_iconst (pc := 14) (x := 1) dX11_pin_14 (by decide) ?_
      refine V_icmp_le (pc := 15) (tgt := 24) dX11_pin_15 (by decide) (fun c9 => ?_) (fun c9 => ?_)
      · have h := ite_p c9 h
        refine V_aload_n (pc := 24) 0 dX11_pin_24 rfl rfl ?_
        refine V_iload_n (pc := 25) 3 dX11_pin_25 rfl rfl ?_
        refine V_if_ne (pc := 26) (tgt := 46) dX11_pin_26 (by decide) (fun c10 => ?_) (fun c10 => ?_)
        · have h := ite_n c10 h
          refine V_aload_n (pc := 46) 0 dX11_pin_46 rfl rfl ?_
          refine V_getR (pc := 47) (c := 10) (k := 2) dX11_pin_47 (by decide) (by decide) kw356 rfl rfl (L10_0 H0) (L10_r2 H0) ?_
          refine V_getR (pc := 50) (c := 4) (k := 8) dX11_pin_50 (by decide) (by decide) kw244 rfl rfl (L4_0 (L10_o2 H0)) (L4_r8 (L10_o2 H0)) ?_
          refine V_getR (pc := 53) (c := 5) (k := 8) dX11_pin_53 (by decide) (by decide) kw170 rfl rfl (L5_0 (L4_o8 (L10_o2 H0))) (L5_r8 (L4_o8 (L10_o2 H0))) ?_
          refine V_iload_n (pc := 56) 1 dX11_pin_56 rfl rfl ?_
          obtain ⟨b11, h⟩ := ite_o h
          refine V_aald (pc := 57) dX11_pin_57 (⟨L5_s8 (L4_o8 (L10_o2 H0)), L5_g8 (L4_o8 (L10_o2 H0))⟩ : GR σ _ _ _).1 (inB_vp b11) ((⟨L5_s8 (L4_o8 (L10_o2 H0)), L5_g8 (L4_o8 (L10_o2 H0))⟩ : GR σ _ _ _).2 _ (inB_lt b11)).1 ?_
          refine V_iload_n (pc := 58) 2 dX11_pin_58 rfl rfl ?_
          obtain ⟨b12, h⟩ := ite_o h
          refine V_iald (pc := 59) dX11_pin_59 ((⟨L5_s8 (L4_o8 (L10_o2 H0)), L5_g8 (L4_o8 (L10_o2 H0))⟩ : GR σ _ _ _).2 _ (inB_lt b11)).2 (inB_vp b12) ?_
          refine V_cV1 (pc := 60) dX11_pin_60 kw720 calX11_answer kw722 ks29 (L10_0 H0) rfl (by decide) (Nat.le_of_ble_eq_true rfl) (ctX11_answer H0) ?_
          cases h
          exact V_ret (pc := 63) dX11_pin_63 ⟨rfl, _, rfl⟩ ⟨rfl, rfl, rfl⟩
        · have h := ite_p c10 h
          refine V_aload_n (pc := 29) 0 dX11_pin_29 rfl rfl ?_
          refine V_getR (pc := 30) (c := 10) (k := 2) dX11_pin_30 (by decide) (by decide) kw356 rfl rfl (L10_0 H0) (L10_r2 H0) ?_
          refine V_getR (pc := 33) (c := 4) (k := 8) dX11_pin_33 (by decide) (by decide) kw244 rfl rfl (L4_0 (L10_o2 H0)) (L4_r8 (L10_o2 H0)) ?_
          refine V_getR (pc := 36) (c := 5) (k := 7) dX11_pin_36 (by decide) (by decide) kw167 rfl rfl (L5_0 (L4_o8 (L10_o2 H0))) (L5_r7 (L4_o8 (L10_o2 H0))) ?_
          refine V_iload_n (pc := 39) 1 dX11_pin_39 rfl rfl ?_
          obtain ⟨b15, h⟩ := ite_o h
          refine V_aald (pc := 40) dX11_pin_40 (⟨L5_s7 (L4_o8 (L10_o2 H0)), L5_g7 (L4_o8 (L10_o2 H0))⟩ : GR σ _ _ _).1 (inB_vp b15) ((⟨L5_s7 (L4_o8 (L10_o2 H0)), L5_g7 (L4_o8 (L10_o2 H0))⟩ : GR σ _ _ _).2 _ (inB_lt b15)).1 ?_
          refine V_iload_n (pc := 41) 2 dX11_pin_41 rfl rfl ?_
          obtain ⟨b16, h⟩ := ite_o h
          refine V_iald (pc := 42) dX11_pin_42 ((⟨L5_s7 (L4_o8 (L10_o2 H0)), L5_g7 (L4_o8 (L10_o2 H0))⟩ : GR σ _ _ _).2 _ (inB_lt b15)).2 (inB_vp b16) ?_
          refine V_goto (pc := 43) (tgt := 60) dX11_pin_43 (by decide) ?_
          refine V_cV1 (pc := 60) dX11_pin_60 kw720 calX11_answer kw722 ks29 (L10_0 H0) rfl (by decide) (Nat.le_of_ble_eq_true rfl) (ctX11_answer H0) ?_
          cases h
          exact V_ret (pc := 63) dX11_pin_63 ⟨rfl, _, rfl⟩ ⟨rfl, rfl, rfl⟩
      · have h := ite_n c9 h
        refine V_aload_n (pc := 18) 0 dX11_pin_18 rfl rfl ?_
        refine V_iconst (pc := 19) (x := 1) dX11_pin_19 (by decide) ?_
        refine V_cV1 (pc := 20) dX11_pin_20 kw403 calX11_refuse kw405 ks1 (L10_0 H0) rfl (by decide) (Nat.le_of_ble_eq_true rfl) (ctX11_refuse H0) ?_
        cases h
        exact V_ret (pc := 23) dX11_pin_23 ⟨rfl, _, rfl⟩ ⟨rfl, rfl, rfl⟩
theorem calX11_pins : Cal yX11_pins cX11_pins 4 (some .int) 2 := ⟨kw889, kw1, by decide +kernel⟩
theorem ctX11_pins {G : Gl} {σ : Sg} {d : Dt} {r0 : Nat} {r0h : Nat} {r0p : Nat} {v1 : Int32} {v2 : Int32} {rr : Int32 × Dt} (H0 : L10 σ r0 r0h r0p) (h : mX11_pins r0 r0h r0p v1 v2 d = some rr) : CTv G yX11_pins cX11_pins 4 (some .int) 3 [.ref (gB G + r0), .int v1, .int v2] σ d [.int rr.1] rr.2 := by
  refine CT_of pn_RX11 (Nat.le_of_ble_eq_true rfl) ?_
  rw [mX11_pins] at h
  refine V_aload_n (pc := 0) 0 dX11_pins_0 rfl rfl ?_
  refine V_aload_n (pc := 1) 0 dX11_pins_1 rfl rfl ?_
  refine V_iload_n (pc := 2) 2 dX11_pins_2 rfl rfl ?_
  refine V_cV1 (pc := 3) dX11_pins_3 kw859 calX11_isNet kw861 ks36 (L10_0 H0) rfl (by decide) (Nat.le_of_ble_eq_true rfl) (ctX11_isNet H0) ?_
  refine V_iload_n (pc := 6) 1 dX11_pins_6 rfl rfl ?_
  refine V_cV2 (pc := 7) dX11_pins_7 kw875 calX11_troubleOf kw877 ks38 (L10_0 H0) rfl (by decide) (Nat.le_of_ble_eq_true rfl) (ctX11_troubleOf H0) ?_
  refine V_istore_n (pc := 10) (lv1 := [(3, _), (0, _), (1, _), (2, _)]) dX11_pins_10 rfl (by decide) rfl ?_
  refine V_iload_n (pc := 11) 0 dX11_pins_11 rfl rfl ?_
  refine V_if_eq (pc := 12) (tgt := 23) dX11_pins_12 (by decide) (fun c5 => ?_) (fun c5 => ?_)
  · have h := ite_p c5 h
    refine V_aload_n (pc := 23) 1 dX11_pins_23 rfl rfl ?_
    refine V_aload_n (pc := 24) 1 dX11_pins_24 rfl rfl ?_
    refine V_getR (pc := 25) (c := 10) (k := 2) dX11_pins_25 (by decide) (by decide) kw356 rfl rfl (L10_0 H0) (L10_r2 H0) ?_
    refine V_iload_n (pc := 28) 2 dX11_pins_28 rfl rfl ?_
    refine V_iload_n (pc := 29) 3 dX11_pins_29 rfl rfl ?_
    obtain ⟨x7, h6, h⟩ := bnd h
    refine V_cS3 (pc := 30) dX11_pins_30 kw890 calX10_pinsThere kw891 (by decide) (Nat.le_of_ble_eq_true rfl) (ctX10_pinsThere (L10_o2 H0) h6) ?_
    refine V_cV1 (pc := 33) dX11_pins_33 kw720 calX11_answer kw722 ks29 (L10_0 H0) rfl (by decide) (Nat.le_of_ble_eq_true rfl) (ctX11_answer H0) ?_
    cases h
    exact V_ret (pc := 36) dX11_pins_36 ⟨rfl, _, rfl⟩ ⟨rfl, rfl, rfl⟩
  · have h := ite_n c5 h
    refine V_aload_n (pc := 15) 1 dX11_pins_15 rfl rfl ?_
    refine V_iload_n (pc := 16) 0 dX11_pins_16 rfl rfl ?_
    refine V_cV1 (pc := 17) dX11_pins_17 kw403 calX11_refuse kw405 ks1 (L10_0 H0) rfl (by decide) (Nat.le_of_ble_eq_true rfl) (ctX11_refuse H0) ?_
    refine V_goto (pc := 20) (tgt := 36) dX11_pins_20 (by decide) ?_
    cases h
    exact V_ret (pc := 36) dX11_pins_36 ⟨rfl, _, rfl⟩ ⟨rfl, rfl, rfl⟩
theorem calX11_place : Cal yX11_place cX11_place 3 (some .int) 2 := ⟨kw784, kw1, by decide +kernel⟩
theorem ctX11_place {G : Gl} {σ : Sg} {d : Dt} {r0 : Nat} {r0h : Nat} {r0p : Nat} {v1 : Int32} {v2 : Int32} {rr : Int32 × Dt} (H0 : L10 σ r0 r0h r0p) (h : mX11_place r0 r0h r0p v1 v2 d = some rr) : CTv G yX11_place cX11_place 3 (some .int) 1 [.ref (gB G + r0), .int v1, .int v2] σ d [.int rr.1] rr.2 := by
  refine CT_of pn_RX11 (Nat.le_of_ble_eq_true rfl) ?_
  rw [mX11_place] at h
  refine V_aload_n (pc := 0) 0 dX11_place_0 rfl rfl ?_
  refine V_iload_n (pc := 1) 1 dX11_place_1 rfl rfl ?_
  refine V_cV1 (pc := 2) dX11_place_2 kw745 calX11_isNode kw747 ks30 (L10_0 H0) rfl (by decide) (Nat.le_of_ble_eq_true rfl) (ctX11_isNode H0) ?_
  refine V_ifB_eq (pc := 5) (tgt := 17) dX11_place_5 (by decide) (fun c3 => ?_) (fun c3 => ?_)
  · have h := ite_f c3 h
    refine V_aload_n (pc := 17) 0 dX11_place_17 rfl rfl ?_
    refine V_iconst (pc := 18) (x := 1) dX11_place_18 (by decide) ?_
    refine V_cV1 (pc := 19) dX11_place_19 kw785 calX11_refuseNumber kw787 ks33 (L10_0 H0) rfl (by decide) (Nat.le_of_ble_eq_true rfl) (ctX11_refuseNumber H0) ?_
    cases h
    exact V_ret (pc := 22) dX11_place_22 ⟨rfl, _, rfl⟩ ⟨rfl, rfl, rfl⟩
  · have h := ite_p c3 h
    refine V_iload_n (pc := 8) 2 dX11_place_8 rfl rfl ?_
    refine V_if_lt (pc := 9) (tgt := 17) dX11_place_9 (by decide) (fun c6 => ?_) (fun c6 => ?_)
    · have h := ite_p c6 h
      refine V_aload_n (pc := 17) 0 dX11_place_17 rfl rfl ?_
      refine V_iconst (pc := 18) (x := 1) dX11_place_18 (by decide) ?_
      refine V_cV1 (pc := 19) dX11_place_19 kw785 calX11_refuseNumber kw787 ks33 (L10_0 H0) rfl (by decide) (Nat.le_of_ble_eq_true rfl) (ctX11_refuseNumber H0) ?_
      cases h
      exact V_ret (pc := 22) dX11_place_22 ⟨rfl, _, rfl⟩ ⟨rfl, rfl, rfl⟩
    · have h := ite_n c6 h
      refine V_iload_n (pc := 12) 2 dX11_place_12 rfl rfl ?_
      refine V_iconst (pc := 13) (x := 1) dX11_place_13 (by decide) ?_
      refine V_icmp_le (pc := 14) (tgt := 23) dX11_place_14 (by decide) (fun c9 => ?_) (fun c9 => ?_)
      · have h := ite_p c9 h
        refine V_aload_n (pc := 23) 0 dX11_place_23 rfl rfl ?_
        refine V_iload_n (pc := 24) 2 dX11_place_24 rfl rfl ?_
        refine V_if_ne (pc := 25) (tgt := 43) dX11_place_25 (by decide) (fun c10 => ?_) (fun c10 => ?_)
        · have h := ite_n c10 h
          refine V_aload_n (pc := 43) 0 dX11_place_43 rfl rfl ?_
          refine V_getR (pc := 44) (c := 10) (k := 2) dX11_place_44 (by decide) (by decide) kw356 rfl rfl (L10_0 H0) (L10_r2 H0) ?_
          refine V_getR (pc := 47) (c := 4) (k := 6) dX11_place_47 (by decide) (by decide) kw233 rfl rfl (L4_0 (L10_o2 H0)) (L4_r6 (L10_o2 H0)) ?_
          refine V_getR (pc := 50) (c := 9) (k := 5) dX11_place_50 (by decide) (by decide) kw61 rfl rfl (L9_0 (L4_o6 (L10_o2 H0))) (L9_r5 (L4_o6 (L10_o2 H0))) ?_
          refine V_iload_n (pc := 53) 1 dX11_place_53 rfl rfl ?_
          obtain ⟨b11, h⟩ := ite_o h
          refine V_iald (pc := 54) dX11_place_54 (L9_s5 (L4_o6 (L10_o2 H0))) (inB_vp b11) ?_
          refine V_cV1 (pc := 55) dX11_place_55 kw720 calX11_answer kw722 ks29 (L10_0 H0) rfl (by decide) (Nat.le_of_ble_eq_true rfl) (ctX11_answer H0) ?_
          cases h
          exact V_ret (pc := 58) dX11_place_58 ⟨rfl, _, rfl⟩ ⟨rfl, rfl, rfl⟩
        · have h := ite_p c10 h
          refine V_aload_n (pc := 28) 0 dX11_place_28 rfl rfl ?_
          refine V_getR (pc := 29) (c := 10) (k := 2) dX11_place_29 (by decide) (by decide) kw356 rfl rfl (L10_0 H0) (L10_r2 H0) ?_
          refine V_getR (pc := 32) (c := 4) (k := 6) dX11_place_32 (by decide) (by decide) kw233 rfl rfl (L4_0 (L10_o2 H0)) (L4_r6 (L10_o2 H0)) ?_
          refine V_getR (pc := 35) (c := 9) (k := 4) dX11_place_35 (by decide) (by decide) kw59 rfl rfl (L9_0 (L4_o6 (L10_o2 H0))) (L9_r4 (L4_o6 (L10_o2 H0))) ?_
          refine V_iload_n (pc := 38) 1 dX11_place_38 rfl rfl ?_
          obtain ⟨b14, h⟩ := ite_o h
          refine V_iald (pc := 39) dX11_place_39 (L9_s4 (L4_o6 (L10_o2 H0))) (inB_vp b14) ?_
          refine V_goto (pc := 40) (tgt := 55) dX11_place_40 (by decide) ?_
          refine V_cV1 (pc := 55) dX11_place_55 kw720 calX11_answer kw722 ks29 (L10_0 H0) rfl (by decide) (Nat.le_of_ble_eq_true rfl) (ctX11_answer H0) ?_
          cases h
          exact V_ret (pc := 58) dX11_place_58 ⟨rfl, _, rfl⟩ ⟨rfl, rfl, rfl⟩
      · have h := ite_n c9 h
        refine V_aload_n (pc := 17) 0 dX11_place_17 rfl rfl ?_
        refine V_iconst (pc := 18) (x := 1) dX11_place_18 (by decide) ?_
        refine V_cV1 (pc := 19) dX11_place_19 kw785 calX11_refuseNumber kw787 ks33 (L10_0 H0) rfl (by decide) (Nat.le_of_ble_eq_true rfl) (ctX11_refuseNumber H0) ?_
        cases h
        exact V_ret (pc := 22) dX11_place_22 ⟨rfl, _, rfl⟩ ⟨rfl, rfl, rfl⟩
theorem calX11_plug : Cal yX11_plug cX11_plug 4 (some .int) 2 := ⟨kw850, kw1, by decide +kernel⟩
theorem ctX11_plug {G : Gl} {σ : Sg} {d : Dt} {r0 : Nat} {r0h : Nat} {r0p : Nat} {v1 : Int32} {v2 : Int32} {rr : Int32 × Dt} (H0 : L10 σ r0 r0h r0p) (h : mX11_plug r0 r0h r0p v1 v2 d = some rr) : CTv G yX11_plug cX11_plug 4 (some .int) 1 [.ref (gB G + r0), .int v1, .int v2] σ d [.int rr.1] rr.2 := by
  refine CT_of pn_RX11 (Nat.le_of_ble_eq_true rfl) ?_
  rw [mX11_plug] at h
  refine V_aload_n (pc := 0) 0 dX11_plug_0 rfl rfl ?_
  refine V_iload_n (pc := 1) 1 dX11_plug_1 rfl rfl ?_
  refine V_cV1 (pc := 2) dX11_plug_2 kw851 calX11_isPlug kw853 ks35 (L10_0 H0) rfl (by decide) (Nat.le_of_ble_eq_true rfl) (ctX11_isPlug H0) ?_
  refine V_ifB_ne (pc := 5) (tgt := 14) dX11_plug_5 (by decide) (fun c3 => ?_) (fun c3 => ?_)
  · have h := ite_p c3 h
    refine V_aload_n (pc := 14) 0 dX11_plug_14 rfl rfl ?_
    refine V_getR (pc := 15) (c := 10) (k := 2) dX11_plug_15 (by decide) (by decide) kw356 rfl rfl (L10_0 H0) (L10_r2 H0) ?_
    refine V_getR (pc := 18) (c := 4) (k := 7) dX11_plug_18 (by decide) (by decide) kw239 rfl rfl (L4_0 (L10_o2 H0)) (L4_r7 (L10_o2 H0)) ?_
    refine V_astore_n (pc := 21) (lv1 := [(3, _), (0, _), (1, _), (2, _)]) dX11_plug_21 rfl (by decide) rfl ?_
    refine V_iload_n (pc := 22) 3 dX11_plug_22 rfl rfl ?_
    rcases Decidable.em (v2 = (0 : Int32)) with c4 | c4
    · have h := ite_p c4 h
      refine V_tcase (pc := 23) (tgt := 60) dX11_plug_23 c4 (by decide) (by decide) rfl (by decide) ?_
      refine V_aload_n (pc := 60) 1 dX11_plug_60 rfl rfl ?_
      refine V_aload_n (pc := 61) 0 dX11_plug_61 rfl rfl ?_
      refine V_getR (pc := 62) (c := 6) (k := 1) dX11_plug_62 (by decide) (by decide) kw98 rfl rfl (L6_0 (L4_o7 (L10_o2 H0))) (L6_r1 (L4_o7 (L10_o2 H0))) ?_
      refine V_iload_n (pc := 65) 2 dX11_plug_65 rfl rfl ?_
      obtain ⟨b27, h⟩ := ite_o h
      refine V_iald (pc := 66) dX11_plug_66 (L6_s1 (L4_o7 (L10_o2 H0))) (inB_vp b27) ?_
      refine V_cV1 (pc := 67) dX11_plug_67 kw720 calX11_answer kw722 ks29 (L10_0 H0) rfl (by decide) (Nat.le_of_ble_eq_true rfl) (ctX11_answer H0) ?_
      cases h
      exact V_ret (pc := 70) dX11_plug_70 ⟨rfl, _, rfl⟩ ⟨rfl, rfl, rfl⟩
    · have h := ite_n c4 h
      rcases Decidable.em (v2 = (1 : Int32)) with c5 | c5
      · have h := ite_p c5 h
        refine V_tcase (pc := 23) (tgt := 71) dX11_plug_23 c5 (by decide) (by decide) rfl (by decide) ?_
        refine V_aload_n (pc := 71) 1 dX11_plug_71 rfl rfl ?_
        refine V_aload_n (pc := 72) 0 dX11_plug_72 rfl rfl ?_
        refine V_getR (pc := 73) (c := 6) (k := 2) dX11_plug_73 (by decide) (by decide) kw101 rfl rfl (L6_0 (L4_o7 (L10_o2 H0))) (L6_r2 (L4_o7 (L10_o2 H0))) ?_
        refine V_iload_n (pc := 76) 2 dX11_plug_76 rfl rfl ?_
        obtain ⟨b24, h⟩ := ite_o h
        refine V_iald (pc := 77) dX11_plug_77 (L6_s2 (L4_o7 (L10_o2 H0))) (inB_vp b24) ?_
        refine V_cV1 (pc := 78) dX11_plug_78 kw720 calX11_answer kw722 ks29 (L10_0 H0) rfl (by decide) (Nat.le_of_ble_eq_true rfl) (ctX11_answer H0) ?_
        cases h
        exact V_ret (pc := 81) dX11_plug_81 ⟨rfl, _, rfl⟩ ⟨rfl, rfl, rfl⟩
      · have h := ite_n c5 h
        rcases Decidable.em (v2 = (2 : Int32)) with c6 | c6
        · have h := ite_p c6 h
          refine V_tcase (pc := 23) (tgt := 82) dX11_plug_23 c6 (by decide) (by decide) rfl (by decide) ?_
          refine V_aload_n (pc := 82) 1 dX11_plug_82 rfl rfl ?_
          refine V_aload_n (pc := 83) 0 dX11_plug_83 rfl rfl ?_
          refine V_getR (pc := 84) (c := 6) (k := 3) dX11_plug_84 (by decide) (by decide) kw105 rfl rfl (L6_0 (L4_o7 (L10_o2 H0))) (L6_r3 (L4_o7 (L10_o2 H0))) ?_
          refine V_iload_n (pc := 87) 2 dX11_plug_87 rfl rfl ?_
          obtain ⟨b21, h⟩ := ite_o h
          refine V_iald (pc := 88) dX11_plug_88 (L6_s3 (L4_o7 (L10_o2 H0))) (inB_vp b21) ?_
          refine V_cV1 (pc := 89) dX11_plug_89 kw720 calX11_answer kw722 ks29 (L10_0 H0) rfl (by decide) (Nat.le_of_ble_eq_true rfl) (ctX11_answer H0) ?_
          cases h
          exact V_ret (pc := 92) dX11_plug_92 ⟨rfl, _, rfl⟩ ⟨rfl, rfl, rfl⟩
        · have h := ite_n c6 h
          rcases Decidable.em (v2 = (3 : Int32)) with c7 | c7
          · have h := ite_p c7 h
            refine V_tcase (pc := 23) (tgt := 93) dX11_plug_23 c7 (by decide) (by decide) rfl (by decide) ?_
            refine V_aload_n (pc := 93) 1 dX11_plug_93 rfl rfl ?_
            refine V_aload_n (pc := 94) 0 dX11_plug_94 rfl rfl ?_
            refine V_getR (pc := 95) (c := 6) (k := 4) dX11_plug_95 (by decide) (by decide) kw108 rfl rfl (L6_0 (L4_o7 (L10_o2 H0))) (L6_r4 (L4_o7 (L10_o2 H0))) ?_
            refine V_iload_n (pc := 98) 2 dX11_plug_98 rfl rfl ?_
            obtain ⟨b18, h⟩ := ite_o h
            refine V_iald (pc := 99) dX11_plug_99 (L6_s4 (L4_o7 (L10_o2 H0))) (inB_vp b18) ?_
            refine V_cV1 (pc := 100) dX11_plug_100 kw720 calX11_answer kw722 ks29 (L10_0 H0) rfl (by decide) (Nat.le_of_ble_eq_true rfl) (ctX11_answer H0) ?_
            cases h
            exact V_ret (pc := 103) dX11_plug_103 ⟨rfl, _, rfl⟩ ⟨rfl, rfl, rfl⟩
          · have h := ite_n c7 h
            rcases Decidable.em (v2 = (4 : Int32)) with c8 | c8
            · have h := ite_p c8 h
              refine V_tcase (pc := 23) (tgt := 104) dX11_plug_23 c8 (by decide) (by decide) rfl (by decide) ?_
              refine V_aload_n (pc := 104) 1 dX11_plug_104 rfl rfl ?_
              refine V_aload_n (pc := 105) 0 dX11_plug_105 rfl rfl ?_
              refine V_getR (pc := 106) (c := 6) (k := 5) dX11_plug_106 (by decide) (by decide) kw111 rfl rfl (L6_0 (L4_o7 (L10_o2 H0))) (L6_r5 (L4_o7 (L10_o2 H0))) ?_
              refine V_iload_n (pc := 109) 2 dX11_plug_109 rfl rfl ?_
              obtain ⟨b15, h⟩ := ite_o h
              refine V_iald (pc := 110) dX11_plug_110 (L6_s5 (L4_o7 (L10_o2 H0))) (inB_vp b15) ?_
              refine V_cV1 (pc := 111) dX11_plug_111 kw720 calX11_answer kw722 ks29 (L10_0 H0) rfl (by decide) (Nat.le_of_ble_eq_true rfl) (ctX11_answer H0) ?_
              cases h
              exact V_ret (pc := 114) dX11_plug_114 ⟨rfl, _, rfl⟩ ⟨rfl, rfl, rfl⟩
            · have h := ite_n c8 h
              rcases Decidable.em (v2 = (5 : Int32)) with c9 | c9
              · have h := ite_p c9 h
                refine V_tcase (pc := 23) (tgt := 115) dX11_plug_23 c9 (by decide) (by decide) rfl (by decide) ?_
                refine V_aload_n (pc := 115) 1 dX11_plug_115 rfl rfl ?_
                refine V_aload_n (pc := 116) 0 dX11_plug_116 rfl rfl ?_
                refine V_getR (pc := 117) (c := 6) (k := 6) dX11_plug_117 (by decide) (by decide) kw114 rfl rfl (L6_0 (L4_o7 (L10_o2 H0))) (L6_r6 (L4_o7 (L10_o2 H0))) ?_
                refine V_iload_n (pc := 120) 2 dX11_plug_120 rfl rfl ?_
                obtain ⟨b12, h⟩ := ite_o h
                refine V_iald (pc := 121) dX11_plug_121 (L6_s6 (L4_o7 (L10_o2 H0))) (inB_vp b12) ?_
                refine V_cV1 (pc := 122) dX11_plug_122 kw720 calX11_answer kw722 ks29 (L10_0 H0) rfl (by decide) (Nat.le_of_ble_eq_true rfl) (ctX11_answer H0) ?_
                cases h
                exact V_ret (pc := 125) dX11_plug_125 ⟨rfl, _, rfl⟩ ⟨rfl, rfl, rfl⟩
              · have h := ite_n c9 h
                refine V_tout (pc := 23) (tgt := 126) dX11_plug_23 (sw6 c4 c5 c6 c7 c8 c9) (by decide) ?_
                refine V_aload_n (pc := 126) 1 dX11_plug_126 rfl rfl ?_
                refine V_iconst (pc := 127) (x := 1) dX11_plug_127 (by decide) ?_
                refine V_cV1 (pc := 128) dX11_plug_128 kw403 calX11_refuse kw405 ks1 (L10_0 H0) rfl (by decide) (Nat.le_of_ble_eq_true rfl) (ctX11_refuse H0) ?_
                cases h
                exact V_ret (pc := 131) dX11_plug_131 ⟨rfl, _, rfl⟩ ⟨rfl, rfl, rfl⟩
  · have h := ite_f c3 h
    refine V_aload_n (pc := 8) 0 dX11_plug_8 rfl rfl ?_
    refine V_iconst (pc := 9) (x := 1) dX11_plug_9 (by decide) ?_
    refine V_cV1 (pc := 10) dX11_plug_10 kw403 calX11_refuse kw405 ks1 (L10_0 H0) rfl (by decide) (Nat.le_of_ble_eq_true rfl) (ctX11_refuse H0) ?_
    cases h
    exact V_ret (pc := 13) dX11_plug_13 ⟨rfl, _, rfl⟩ ⟨rfl, rfl, rfl⟩
theorem wX10_plugsThere_4 {G : Gl} {σ : Sg} {d : Dt} {r0 : Nat} {v1 : Int32} {rr : Int32} (H0 : L4 σ r0) : ∀ (n : Nat) (v2 : Int32) (v3 : Int32), mX10_plugsThere_4 d r0 v1 n v2 v3 = some rr → V G yX10_plugsThere cX10_plugsThere 4 (some .int) 2 0 0 (PH [.int rr] σ d) 4 [(0, .ref (gB G + r0)), (1, .int v1), (2, .int v2), (3, .int v3)] [] σ d := by
  intro n
  induction n with
  | zero =>
    intro v2 v3
    intros
    rename_i h
    exact absurd h (by rw [mX10_plugsThere_4]; exact fun q => nomatch q)
  | succ n ih =>
    intro v2 v3 h
    rw [mX10_plugsThere_4] at h
    refine V_iload_n (pc := 4) 3 dX10_plugsThere_4 rfl rfl ?_
    refine V_aload_n (pc := 5) 0 dX10_plugsThere_5 rfl rfl ?_
    refine V_getR (pc := 6) (c := 4) (k := 7) dX10_plugsThere_6 (by decide) (by decide) kw237 rfl rfl (L4_0 H0) (L4_r7 H0) ?_
    refine V_getI (pc := 9) (c := 6) (k := 0) dX10_plugsThere_9 (by decide) (by decide) kw94 rfl rfl (L6_0 (L4_o7 H0)) ?_
    refine V_icmp_ge (pc := 12) (tgt := 52) dX10_plugsThere_12 (by decide) (fun c1 => ?_) (fun c1 => ?_)
    · have h := ite_p c1 h
      refine V_iload_n (pc := 52) 2 dX10_plugsThere_52 rfl rfl ?_
      cases h
      exact V_ret (pc := 53) dX10_plugsThere_53 ⟨rfl, _, rfl⟩ ⟨rfl, rfl, rfl⟩
    · have h := ite_n c1 h
      refine V_aload_n (pc := 15) 0 dX10_plugsThere_15 rfl rfl ?_
      refine V_getR (pc := 16) (c := 4) (k := 7) dX10_plugsThere_16 (by decide) (by decide) kw237 rfl rfl (L4_0 H0) (L4_r7 H0) ?_
      refine V_getR (pc := 19) (c := 6) (k := 5) dX10_plugsThere_19 (by decide) (by decide) kw110 rfl rfl (L6_0 (L4_o7 H0)) (L6_r5 (L4_o7 H0)) ?_
      refine V_iload_n (pc := 22) 3 dX10_plugsThere_22 rfl rfl ?_
      obtain ⟨b2, h⟩ := ite_o h
      refine V_iald (pc := 23) dX10_plugsThere_23 (L6_s5 (L4_o7 H0)) (inB_vp b2) ?_
      refine V_aload_n (pc := 24) 0 dX10_plugsThere_24 rfl rfl ?_
      refine V_getR (pc := 25) (c := 4) (k := 7) dX10_plugsThere_25 (by decide) (by decide) kw237 rfl rfl (L4_0 H0) (L4_r7 H0) ?_
      refine V_getR (pc := 28) (c := 6) (k := 6) dX10_plugsThere_28 (by decide) (by decide) kw113 rfl rfl (L6_0 (L4_o7 H0)) (L6_r6 (L4_o7 H0)) ?_
      refine V_iload_n (pc := 31) 3 dX10_plugsThere_31 rfl rfl ?_
      obtain ⟨b3, h⟩ := ite_o h
      refine V_iald (pc := 32) dX10_plugsThere_32 (L6_s6 (L4_o7 H0)) (inB_vp b3) ?_
      refine V_iload_n (pc := 33) 1 dX10_plugsThere_33 rfl rfl ?_
      refine V_cS3 (pc := 34) dX10_plugsThere_34 kw882 calX10_isThere kw883 (by decide) (Nat.le_of_ble_eq_true rfl) (ctX10_isThere) ?_
      refine V_ifB_eq (pc := 37) (tgt := 46) dX10_plugsThere_37 (by decide) (fun c6 => ?_) (fun c6 => ?_)
      · have h := ite_f c6 h
        refine V_iinc (pc := 46) (lv1 := [(3, _), (0, _), (1, _), (2, _)]) (z := _ + (1 : Int32)) 3 dX10_plugsThere_46 rfl rfl (by decide) rfl ?_
        refine V_goto (pc := 49) (tgt := 4) dX10_plugsThere_49 (by decide) ?_
        exact V_sub [1, 2, 3, 0] rfl (ih v2 (v3 + (1 : Int32)) h)
      · have h := ite_p c6 h
        refine V_iload_n (pc := 40) 2 dX10_plugsThere_40 rfl rfl ?_
        refine V_iconst (pc := 41) (x := 1) dX10_plugsThere_41 (by decide) ?_
        refine V_iload_n (pc := 42) 3 dX10_plugsThere_42 rfl rfl ?_
        refine V_ishl (pc := 43) dX10_plugsThere_43 ?_
        refine V_ior (pc := 44) dX10_plugsThere_44 ?_
        refine V_istore_n (pc := 45) (lv1 := [(2, _), (0, _), (1, _), (3, _)]) dX10_plugsThere_45 rfl (by decide) rfl ?_
        refine V_iinc (pc := 46) (lv1 := [(3, _), (2, _), (0, _), (1, _)]) (z := _ + (1 : Int32)) 3 dX10_plugsThere_46 rfl rfl (by decide) rfl ?_
        refine V_goto (pc := 49) (tgt := 4) dX10_plugsThere_49 (by decide) ?_
        exact V_sub [2, 3, 1, 0] rfl (ih (v2 ||| ((1 : Int32) <<< (v3 &&& 31))) (v3 + (1 : Int32)) h)
theorem calX10_plugsThere : Cal yX10_plugsThere cX10_plugsThere 4 (some .int) 2 := ⟨kw881, kw18, by decide +kernel⟩
theorem ctX10_plugsThere {G : Gl} {σ : Sg} {d : Dt} {r0 : Nat} {v1 : Int32} {rr : Int32} (H0 : L4 σ r0) (h : mX10_plugsThere r0 v1 d = some rr) : CTv G yX10_plugsThere cX10_plugsThere 4 (some .int) 2 [.ref (gB G + r0), .int v1] σ d [.int rr] d := by
  refine CT_of pn_RX10 (Nat.le_of_ble_eq_true rfl) ?_
  rw [mX10_plugsThere] at h
  refine V_iconst (pc := 0) (x := 0) dX10_plugsThere_0 (by decide) ?_
  refine V_istore_n (pc := 1) (lv1 := [(2, _), (0, _), (1, _)]) dX10_plugsThere_1 rfl (by decide) rfl ?_
  refine V_iconst (pc := 2) (x := 0) dX10_plugsThere_2 (by decide) ?_
  refine V_istore_n (pc := 3) (lv1 := [(3, _), (2, _), (0, _), (1, _)]) dX10_plugsThere_3 rfl (by decide) rfl ?_
  exact V_sub [2, 3, 1, 0] rfl (wX10_plugsThere_4 H0 FUEL (0 : Int32) (0 : Int32) h)
theorem calX11_plugs : Cal yX11_plugs cX11_plugs 3 (some .int) 1 := ⟨kw874, kw1, by decide +kernel⟩
theorem ctX11_plugs {G : Gl} {σ : Sg} {d : Dt} {r0 : Nat} {r0h : Nat} {r0p : Nat} {v1 : Int32} {rr : Int32 × Dt} (H0 : L10 σ r0 r0h r0p) (h : mX11_plugs r0 r0h r0p v1 d = some rr) : CTv G yX11_plugs cX11_plugs 3 (some .int) 3 [.ref (gB G + r0), .int v1] σ d [.int rr.1] rr.2 := by
  refine CT_of pn_RX11 (Nat.le_of_ble_eq_true rfl) ?_
  rw [mX11_plugs] at h
  refine V_aload_n (pc := 0) 0 dX11_plugs_0 rfl rfl ?_
  refine V_aload_n (pc := 1) 0 dX11_plugs_1 rfl rfl ?_
  refine V_getI (pc := 2) (c := 10) (k := 4) dX11_plugs_2 (by decide) (by decide) kw358 rfl rfl (L10_0 H0) ?_
  refine V_iload_n (pc := 5) 1 dX11_plugs_5 rfl rfl ?_
  refine V_cV2 (pc := 6) dX11_plugs_6 kw875 calX11_troubleOf kw877 ks38 (L10_0 H0) rfl (by decide) (Nat.le_of_ble_eq_true rfl) (ctX11_troubleOf H0) ?_
  refine V_istore_n (pc := 9) (lv1 := [(2, _), (0, _), (1, _)]) dX11_plugs_9 rfl (by decide) rfl ?_
  refine V_iload_n (pc := 10) 0 dX11_plugs_10 rfl rfl ?_
  refine V_if_eq (pc := 11) (tgt := 22) dX11_plugs_11 (by decide) (fun c3 => ?_) (fun c3 => ?_)
  · have h := ite_p c3 h
    refine V_aload_n (pc := 22) 1 dX11_plugs_22 rfl rfl ?_
    refine V_aload_n (pc := 23) 1 dX11_plugs_23 rfl rfl ?_
    refine V_getR (pc := 24) (c := 10) (k := 2) dX11_plugs_24 (by decide) (by decide) kw356 rfl rfl (L10_0 H0) (L10_r2 H0) ?_
    refine V_iload_n (pc := 27) 2 dX11_plugs_27 rfl rfl ?_
    obtain ⟨x5, h4, h⟩ := bnd h
    refine V_cS2 (pc := 28) dX11_plugs_28 kw879 calX10_plugsThere kw880 (by decide) (Nat.le_of_ble_eq_true rfl) (ctX10_plugsThere (L10_o2 H0) h4) ?_
    refine V_cV1 (pc := 31) dX11_plugs_31 kw720 calX11_answer kw722 ks29 (L10_0 H0) rfl (by decide) (Nat.le_of_ble_eq_true rfl) (ctX11_answer H0) ?_
    cases h
    exact V_ret (pc := 34) dX11_plugs_34 ⟨rfl, _, rfl⟩ ⟨rfl, rfl, rfl⟩
  · have h := ite_n c3 h
    refine V_aload_n (pc := 14) 1 dX11_plugs_14 rfl rfl ?_
    refine V_iload_n (pc := 15) 0 dX11_plugs_15 rfl rfl ?_
    refine V_cV1 (pc := 16) dX11_plugs_16 kw403 calX11_refuse kw405 ks1 (L10_0 H0) rfl (by decide) (Nat.le_of_ble_eq_true rfl) (ctX11_refuse H0) ?_
    refine V_goto (pc := 19) (tgt := 34) dX11_plugs_19 (by decide) ?_
    cases h
    exact V_ret (pc := 34) dX11_plugs_34 ⟨rfl, _, rfl⟩ ⟨rfl, rfl, rfl⟩
theorem wX11_reach_22 {G : Gl} {σ : Sg} {d : Dt} {r0 : Nat} {r0h : Nat} {r0p : Nat} {v1 : Int32} {v2 : Int32} {v3 : Int32} {vs0 : Int32} {rs1 : Nat} {rs1h : Nat} {rs1p : Nat} {rr : Int32 × Dt} (H0 : L10 σ r0 r0h r0p) (Hs1 : L10 σ rs1 rs1h rs1p) (h : mX11_reach_22 r0 r0h r0p v1 v2 v3 vs0 rs1 rs1h rs1p d = some rr) : V G yX11_reach cX11_reach 5 (some .int) 3 0 0 (PH [.int rr.1] σ rr.2) 22 [(0, .ref (gB G + r0)), (1, .int v1), (2, .int v2), (3, .int v3)] [.int vs0, .ref (gB G + rs1)] σ d := by
  rw [mX11_reach_22] at h
  refine V_iload_n (pc := 22) 1 dX11_reach_22 rfl rfl ?_
  refine V_cV2 (pc := 23) dX11_reach_23 kw875 calX11_troubleOf kw877 ks38 (L10_0 Hs1) rfl (by decide) (Nat.le_of_ble_eq_true rfl) (ctX11_troubleOf Hs1) ?_
  refine V_istore (pc := 26) (lv1 := [(4, _), (0, _), (1, _), (2, _), (3, _)]) dX11_reach_26 (by decide) rfl ?_
  refine V_iload (pc := 28) 0 dX11_reach_28 rfl ?_
  refine V_if_eq (pc := 30) (tgt := 40) dX11_reach_30 (by decide) (fun c9 => ?_) (fun c9 => ?_)
  · have h := ite_p c9 h
    refine V_aload_n (pc := 40) 1 dX11_reach_40 rfl rfl ?_
    refine V_aload_n (pc := 41) 1 dX11_reach_41 rfl rfl ?_
    refine V_getR (pc := 42) (c := 10) (k := 2) dX11_reach_42 (by decide) (by decide) kw356 rfl rfl (L10_0 H0) (L10_r2 H0) ?_
    refine V_iload_n (pc := 45) 3 dX11_reach_45 rfl rfl ?_
    refine V_aload_n (pc := 46) 1 dX11_reach_46 rfl rfl ?_
    refine V_getR (pc := 47) (c := 10) (k := 2) dX11_reach_47 (by decide) (by decide) kw356 rfl rfl (L10_0 H0) (L10_r2 H0) ?_
    refine V_iload_n (pc := 50) 2 dX11_reach_50 rfl rfl ?_
    refine V_iload_n (pc := 51) 3 dX11_reach_51 rfl rfl ?_
    obtain ⟨x11, h10, h⟩ := bnd h
    refine V_cS3 (pc := 52) dX11_reach_52 kw890 calX10_pinsThere kw891 (by decide) (Nat.le_of_ble_eq_true rfl) (ctX10_pinsThere (L10_o2 H0) h10) ?_
    refine V_iload_n (pc := 55) 4 dX11_reach_55 rfl rfl ?_
    obtain ⟨x13, h12, h⟩ := bnd h
    refine V_cS4 (pc := 56) dX11_reach_56 kw938 calX10_reachOf kw915 (by decide) (Nat.le_of_ble_eq_true rfl) (ctX10_reachOf (L10_o2 H0) h12) ?_
    refine V_cV1 (pc := 59) dX11_reach_59 kw720 calX11_answer kw722 ks29 (L10_0 H0) rfl (by decide) (Nat.le_of_ble_eq_true rfl) (ctX11_answer H0) ?_
    cases h
    exact V_ret (pc := 62) dX11_reach_62 ⟨rfl, _, rfl⟩ ⟨rfl, rfl, rfl⟩
  · have h := ite_n c9 h
    refine V_aload_n (pc := 33) 1 dX11_reach_33 rfl rfl ?_
    refine V_iload (pc := 34) 0 dX11_reach_34 rfl ?_
    refine V_cV1 (pc := 36) dX11_reach_36 kw403 calX11_refuse kw405 ks1 (L10_0 H0) rfl (by decide) (Nat.le_of_ble_eq_true rfl) (ctX11_refuse H0) ?_
    cases h
    exact V_ret (pc := 39) dX11_reach_39 ⟨rfl, _, rfl⟩ ⟨rfl, rfl, rfl⟩
theorem calX11_reach : Cal yX11_reach cX11_reach 5 (some .int) 3 := ⟨kw937, kw1, by decide +kernel⟩
theorem ctX11_reach {G : Gl} {σ : Sg} {d : Dt} {r0 : Nat} {r0h : Nat} {r0p : Nat} {v1 : Int32} {v2 : Int32} {v3 : Int32} {rr : Int32 × Dt} (H0 : L10 σ r0 r0h r0p) (h : mX11_reach r0 r0h r0p v1 v2 v3 d = some rr) : CTv G yX11_reach cX11_reach 5 (some .int) 3 [.ref (gB G + r0), .int v1, .int v2, .int v3] σ d [.int rr.1] rr.2 := by
  refine CT_of pn_RX11 (Nat.le_of_ble_eq_true rfl) ?_
  rw [mX11_reach] at h
  refine V_aload_n (pc := 0) 0 dX11_reach_0 rfl rfl ?_
  refine V_aload_n (pc := 1) 0 dX11_reach_1 rfl rfl ?_
  refine V_iload_n (pc := 2) 2 dX11_reach_2 rfl rfl ?_
  refine V_cV1 (pc := 3) dX11_reach_3 kw859 calX11_isNet kw861 ks36 (L10_0 H0) rfl (by decide) (Nat.le_of_ble_eq_true rfl) (ctX11_isNet H0) ?_
  refine V_ifB_eq (pc := 6) (tgt := 21) dX11_reach_6 (by decide) (fun c3 => ?_) (fun c3 => ?_)
  · have h := ite_f c3 h
    refine V_iconst (pc := 21) (x := 0) dX11_reach_21 (by decide) ?_
    exact V_sub [0, 1, 2, 3] rfl (wX11_reach_22 H0 H0 h)
  · have h := ite_p c3 h
    refine V_aload_n (pc := 9) 0 dX11_reach_9 rfl rfl ?_
    refine V_iload_n (pc := 10) 3 dX11_reach_10 rfl rfl ?_
    refine V_cV1 (pc := 11) dX11_reach_11 kw745 calX11_isNode kw747 ks30 (L10_0 H0) rfl (by decide) (Nat.le_of_ble_eq_true rfl) (ctX11_isNode H0) ?_
    refine V_ifB_eq (pc := 14) (tgt := 21) dX11_reach_14 (by decide) (fun c6 => ?_) (fun c6 => ?_)
    · have h := ite_f c6 h
      refine V_iconst (pc := 21) (x := 0) dX11_reach_21 (by decide) ?_
      exact V_sub [0, 1, 2, 3] rfl (wX11_reach_22 H0 H0 h)
    · have h := ite_p c6 h
      refine V_iconst (pc := 17) (x := 1) dX11_reach_17 (by decide) ?_
      refine V_goto (pc := 18) (tgt := 22) dX11_reach_18 (by decide) ?_
      exact V_sub [0, 1, 2, 3] rfl (wX11_reach_22 H0 H0 h)
theorem calX11_side : Cal yX11_side cX11_side 2 (some .int) 1 := ⟨kw776, kw1, by decide +kernel⟩
theorem ctX11_side {G : Gl} {σ : Sg} {d : Dt} {r0 : Nat} {r0h : Nat} {r0p : Nat} {v1 : Int32} {rr : Int32 × Dt} (H0 : L10 σ r0 r0h r0p) (h : mX11_side r0 r0h r0p v1 d = some rr) : CTv G yX11_side cX11_side 2 (some .int) 2 [.ref (gB G + r0), .int v1] σ d [.int rr.1] rr.2 := by
  refine CT_of pn_RX11 (Nat.le_of_ble_eq_true rfl) ?_
  rw [mX11_side] at h
  refine V_aload_n (pc := 0) 0 dX11_side_0 rfl rfl ?_
  refine V_iload_n (pc := 1) 1 dX11_side_1 rfl rfl ?_
  refine V_cV1 (pc := 2) dX11_side_2 kw777 calX11_isBundle kw779 ks32 (L10_0 H0) rfl (by decide) (Nat.le_of_ble_eq_true rfl) (ctX11_isBundle H0) ?_
  refine V_ifB_eq (pc := 5) (tgt := 27) dX11_side_5 (by decide) (fun c3 => ?_) (fun c3 => ?_)
  · have h := ite_f c3 h
    refine V_aload_n (pc := 27) 0 dX11_side_27 rfl rfl ?_
    refine V_iconst (pc := 28) (x := 1) dX11_side_28 (by decide) ?_
    refine V_cV1 (pc := 29) dX11_side_29 kw403 calX11_refuse kw405 ks1 (L10_0 H0) rfl (by decide) (Nat.le_of_ble_eq_true rfl) (ctX11_refuse H0) ?_
    cases h
    exact V_ret (pc := 32) dX11_side_32 ⟨rfl, _, rfl⟩ ⟨rfl, rfl, rfl⟩
  · have h := ite_p c3 h
    refine V_aload_n (pc := 8) 0 dX11_side_8 rfl rfl ?_
    refine V_aload_n (pc := 9) 0 dX11_side_9 rfl rfl ?_
    refine V_getR (pc := 10) (c := 10) (k := 2) dX11_side_10 (by decide) (by decide) kw356 rfl rfl (L10_0 H0) (L10_r2 H0) ?_
    refine V_getR (pc := 13) (c := 4) (k := 6) dX11_side_13 (by decide) (by decide) kw233 rfl rfl (L4_0 (L10_o2 H0)) (L4_r6 (L10_o2 H0)) ?_
    refine V_getR (pc := 16) (c := 9) (k := 3) dX11_side_16 (by decide) (by decide) kw57 rfl rfl (L9_0 (L4_o6 (L10_o2 H0))) (L9_r3 (L4_o6 (L10_o2 H0))) ?_
    refine V_iload_n (pc := 19) 1 dX11_side_19 rfl rfl ?_
    obtain ⟨b6, h⟩ := ite_o h
    refine V_iald (pc := 20) dX11_side_20 (L9_s3 (L4_o6 (L10_o2 H0))) (inB_vp b6) ?_
    refine V_cV1 (pc := 21) dX11_side_21 kw720 calX11_answer kw722 ks29 (L10_0 H0) rfl (by decide) (Nat.le_of_ble_eq_true rfl) (ctX11_answer H0) ?_
    refine V_goto (pc := 24) (tgt := 32) dX11_side_24 (by decide) ?_
    cases h
    exact V_ret (pc := 32) dX11_side_32 ⟨rfl, _, rfl⟩ ⟨rfl, rfl, rfl⟩
theorem wX5_countByHand_4 {G : Gl} {σ : Sg} {d : Dt} {r0 : Nat} {rr : Int32} (H0 : L5 σ r0) : ∀ (n : Nat) (v1 : Int32) (v2 : Int32), mX5_countByHand_4 d r0 n v1 v2 = some rr → V G yX5_countByHand cX5_countByHand 3 (some .int) 0 0 0 (PH [.int rr] σ d) 4 [(0, .ref (gB G + r0)), (1, .int v1), (2, .int v2)] [] σ d := by
  intro n
  induction n with
  | zero =>
    intro v1 v2
    intros
    rename_i h
    exact absurd h (by rw [mX5_countByHand_4]; exact fun q => nomatch q)
  | succ n ih =>
    intro v1 v2 h
    rw [mX5_countByHand_4] at h
    refine V_iload_n (pc := 4) 2 dX5_countByHand_4 rfl rfl ?_
    refine V_aload_n (pc := 5) 0 dX5_countByHand_5 rfl rfl ?_
    refine V_getI (pc := 6) (c := 5) (k := 0) dX5_countByHand_6 (by decide) (by decide) kw137 rfl rfl (L5_0 H0) ?_
    refine V_icmp_ge (pc := 9) (tgt := 32) dX5_countByHand_9 (by decide) (fun c1 => ?_) (fun c1 => ?_)
    · have h := ite_p c1 h
      refine V_iload_n (pc := 32) 1 dX5_countByHand_32 rfl rfl ?_
      cases h
      exact V_ret (pc := 33) dX5_countByHand_33 ⟨rfl, _, rfl⟩ ⟨rfl, rfl, rfl⟩
    · have h := ite_n c1 h
      refine V_aload_n (pc := 12) 0 dX5_countByHand_12 rfl rfl ?_
      refine V_getR (pc := 13) (c := 5) (k := 6) dX5_countByHand_13 (by decide) (by decide) kw161 rfl rfl (L5_0 H0) (L5_r6 H0) ?_
      refine V_iload_n (pc := 16) 2 dX5_countByHand_16 rfl rfl ?_
      obtain ⟨b2, h⟩ := ite_o h
      refine V_iald (pc := 17) dX5_countByHand_17 (L5_s6 H0) (inB_vp b2) ?_
      refine V_bipush (pc := 18) (x := (-2)) dX5_countByHand_18 (by decide) ?_
      refine V_icmp_eq (pc := 20) (tgt := 26) dX5_countByHand_20 (by decide) (fun c3 => ?_) (fun c3 => ?_)
      · have h := ite_p c3 h
        refine V_iinc (pc := 26) (lv1 := [(2, _), (0, _), (1, _)]) (z := _ + (1 : Int32)) 2 dX5_countByHand_26 rfl rfl (by decide) rfl ?_
        refine V_goto (pc := 29) (tgt := 4) dX5_countByHand_29 (by decide) ?_
        exact V_sub [1, 2, 0] rfl (ih v1 (v2 + (1 : Int32)) h)
      · have h := ite_n c3 h
        refine V_iinc (pc := 23) (lv1 := [(1, _), (0, _), (2, _)]) (z := _ + (1 : Int32)) 1 dX5_countByHand_23 rfl rfl (by decide) rfl ?_
        refine V_iinc (pc := 26) (lv1 := [(2, _), (1, _), (0, _)]) (z := _ + (1 : Int32)) 2 dX5_countByHand_26 rfl rfl (by decide) rfl ?_
        refine V_goto (pc := 29) (tgt := 4) dX5_countByHand_29 (by decide) ?_
        exact V_sub [2, 1, 0] rfl (ih (v1 + (1 : Int32)) (v2 + (1 : Int32)) h)
theorem calX5_countByHand : Cal yX5_countByHand cX5_countByHand 3 (some .int) 0 := ⟨kw1156, kw5, by decide +kernel⟩
theorem ctX5_countByHand {G : Gl} {σ : Sg} {d : Dt} {r0 : Nat} {rr : Int32} (H0 : L5 σ r0) (h : mX5_countByHand r0 d = some rr) : CTv G yX5_countByHand cX5_countByHand 3 (some .int) 0 [.ref (gB G + r0)] σ d [.int rr] d := by
  refine CT_of pn_RX5 (Nat.le_of_ble_eq_true rfl) ?_
  rw [mX5_countByHand] at h
  refine V_iconst (pc := 0) (x := 0) dX5_countByHand_0 (by decide) ?_
  refine V_istore_n (pc := 1) (lv1 := [(1, _), (0, _)]) dX5_countByHand_1 rfl (by decide) rfl ?_
  refine V_iconst (pc := 2) (x := 0) dX5_countByHand_2 (by decide) ?_
  refine V_istore_n (pc := 3) (lv1 := [(2, _), (1, _), (0, _)]) dX5_countByHand_3 rfl (by decide) rfl ?_
  exact V_sub [2, 1, 0] rfl (wX5_countByHand_4 H0 FUEL (0 : Int32) (0 : Int32) h)
theorem calX11_size : Cal yX11_size cX11_size 2 (some .int) 1 := ⟨kw1152, kw1, by decide +kernel⟩
theorem ctX11_size {G : Gl} {σ : Sg} {d : Dt} {r0 : Nat} {r0h : Nat} {r0p : Nat} {v1 : Int32} {rr : Int32} (H0 : L10 σ r0 r0h r0p) (h : mX11_size r0 r0h r0p v1 d = some rr) : CTv G yX11_size cX11_size 2 (some .int) 1 [.ref (gB G + r0), .int v1] σ d [.int rr] d := by
  refine CT_of pn_RX11 (Nat.le_of_ble_eq_true rfl) ?_
  rw [mX11_size] at h
  refine V_iload_n (pc := 0) 1 dX11_size_0 rfl rfl ?_
  rcases Decidable.em (v1 = (0 : Int32)) with c1 | c1
  · have h := ite_p c1 h
    refine V_tcase (pc := 1) (tgt := 28) dX11_size_1 c1 (by decide) (by decide) rfl (by decide) ?_
    refine V_aload_n (pc := 28) 0 dX11_size_28 rfl rfl ?_
    refine V_getI (pc := 29) (c := 10) (k := 1) dX11_size_29 (by decide) (by decide) kw355 rfl rfl (L10_0 H0) ?_
    cases h
    exact V_ret (pc := 32) dX11_size_32 ⟨rfl, _, rfl⟩ ⟨rfl, rfl, rfl⟩
  · have h := ite_n c1 h
    rcases Decidable.em (v1 = (1 : Int32)) with c2 | c2
    · have h := ite_p c2 h
      refine V_tcase (pc := 1) (tgt := 33) dX11_size_1 c2 (by decide) (by decide) rfl (by decide) ?_
      refine V_aload_n (pc := 33) 0 dX11_size_33 rfl rfl ?_
      refine V_getR (pc := 34) (c := 10) (k := 6) dX11_size_34 (by decide) (by decide) kw360 rfl rfl (L10_0 H0) (L10_r6 H0) ?_
      refine V_getI (pc := 37) (c := 0) (k := 0) dX11_size_37 (by decide) (by decide) kw301 rfl rfl (L0_0 (L10_o6 H0)) ?_
      cases h
      exact V_ret (pc := 40) dX11_size_40 ⟨rfl, _, rfl⟩ ⟨rfl, rfl, rfl⟩
    · have h := ite_n c2 h
      rcases Decidable.em (v1 = (2 : Int32)) with c3 | c3
      · have h := ite_p c3 h
        refine V_tcase (pc := 1) (tgt := 41) dX11_size_1 c3 (by decide) (by decide) rfl (by decide) ?_
        refine V_aload_n (pc := 41) 0 dX11_size_41 rfl rfl ?_
        refine V_getR (pc := 42) (c := 10) (k := 2) dX11_size_42 (by decide) (by decide) kw356 rfl rfl (L10_0 H0) (L10_r2 H0) ?_
        refine V_getR (pc := 45) (c := 4) (k := 8) dX11_size_45 (by decide) (by decide) kw244 rfl rfl (L4_0 (L10_o2 H0)) (L4_r8 (L10_o2 H0)) ?_
        obtain ⟨x5, h4, h⟩ := bnd h
        refine V_cV0 (pc := 48) dX11_size_48 kw1153 calX5_countByHand kw1154 kw1155 (L5_0 (L4_o8 (L10_o2 H0))) rfl (by decide) (Nat.le_of_ble_eq_true rfl) (ctX5_countByHand (L4_o8 (L10_o2 H0)) h4) ?_
        cases h
        exact V_ret (pc := 51) dX11_size_51 ⟨rfl, _, rfl⟩ ⟨rfl, rfl, rfl⟩
      · have h := ite_n c3 h
        refine V_tout (pc := 1) (tgt := 52) dX11_size_1 (sw3 c1 c2 c3) (by decide) ?_
        refine V_iconst (pc := 52) (x := (-1)) dX11_size_52 (by decide) ?_
        cases h
        exact V_ret (pc := 53) dX11_size_53 ⟨rfl, _, rfl⟩ ⟨rfl, rfl, rfl⟩
theorem wX11_sound_17 {G : Gl} {σ : Sg} {r0 : Nat} {r0h : Nat} {r0p : Nat} {rr : Int32 × Dt} (H0 : L10 σ r0 r0h r0p) : ∀ (n : Nat) (v1 : Int32) (v2 : Int32) (d : Dt), mX11_sound_17 r0 r0h r0p n v1 v2 d = some rr → V G yX11_sound cX11_sound 3 (some .int) 5 0 0 (PH [.int rr.1] σ rr.2) 17 [(0, .ref (gB G + r0)), (1, .int v1), (2, .int v2)] [] σ d := by
  intro n
  induction n with
  | zero =>
    intro v1 v2 d
    intros
    rename_i h
    exact absurd h (by rw [mX11_sound_17]; exact fun q => nomatch q)
  | succ n ih =>
    intro v1 v2 d h
    rw [mX11_sound_17] at h
    refine V_iload_n (pc := 17) 2 dX11_sound_17 rfl rfl ?_
    refine V_iconst (pc := 18) (x := 1) dX11_sound_18 (by decide) ?_
    refine V_aload_n (pc := 19) 0 dX11_sound_19 rfl rfl ?_
    refine V_getR (pc := 20) (c := 10) (k := 2) dX11_sound_20 (by decide) (by decide) kw356 rfl rfl (L10_0 H0) (L10_r2 H0) ?_
    refine V_getI (pc := 23) (c := 4) (k := 2) dX11_sound_23 (by decide) (by decide) kw227 rfl rfl (L4_0 (L10_o2 H0)) ?_
    refine V_ishl (pc := 26) dX11_sound_26 ?_
    refine V_icmp_ge (pc := 27) (tgt := 57) dX11_sound_27 (by decide) (fun c4 => ?_) (fun c4 => ?_)
    · have h := ite_p c4 h
      refine V_aload_n (pc := 57) 0 dX11_sound_57 rfl rfl ?_
      refine V_iload_n (pc := 58) 1 dX11_sound_58 rfl rfl ?_
      refine V_cV1 (pc := 59) dX11_sound_59 kw720 calX11_answer kw722 ks29 (L10_0 H0) rfl (by decide) (Nat.le_of_ble_eq_true rfl) (ctX11_answer H0) ?_
      cases h
      exact V_ret (pc := 62) dX11_sound_62 ⟨rfl, _, rfl⟩ ⟨rfl, rfl, rfl⟩
    · have h := ite_n c4 h
      refine V_aload_n (pc := 30) 0 dX11_sound_30 rfl rfl ?_
      refine V_getR (pc := 31) (c := 10) (k := 7) dX11_sound_31 (by decide) (by decide) kw361 rfl rfl (L10_0 H0) (L10_r7 H0) ?_
      refine V_aload_n (pc := 34) 0 dX11_sound_34 rfl rfl ?_
      refine V_getR (pc := 35) (c := 10) (k := 2) dX11_sound_35 (by decide) (by decide) kw356 rfl rfl (L10_0 H0) (L10_r2 H0) ?_
      refine V_iload_n (pc := 38) 2 dX11_sound_38 rfl rfl ?_
      obtain ⟨x8, h7, h⟩ := bnd h
      refine V_cV2 (pc := 39) dX11_sound_39 kw989 calX3_list kw990 kw991 (L3_0 (L10_o7 H0)) rfl (by decide) (Nat.le_of_ble_eq_true rfl) (ctX3_list (L10_o7 H0) (L10_o2 H0) h7) ?_
      refine V_if_ne (pc := 42) (tgt := 51) dX11_sound_42 (by decide) (fun c9 => ?_) (fun c9 => ?_)
      · have h := ite_n c9 h
        refine V_iinc (pc := 51) (lv1 := [(2, _), (0, _), (1, _)]) (z := _ + (1 : Int32)) 2 dX11_sound_51 rfl rfl (by decide) rfl ?_
        refine V_goto (pc := 54) (tgt := 17) dX11_sound_54 (by decide) ?_
        exact V_sub [1, 2, 0] rfl (ih v1 (v2 + (1 : Int32)) x8.2 h)
      · have h := ite_p c9 h
        refine V_iload_n (pc := 45) 1 dX11_sound_45 rfl rfl ?_
        refine V_iconst (pc := 46) (x := 1) dX11_sound_46 (by decide) ?_
        refine V_iload_n (pc := 47) 2 dX11_sound_47 rfl rfl ?_
        refine V_ishl (pc := 48) dX11_sound_48 ?_
        refine V_ior (pc := 49) dX11_sound_49 ?_
        refine V_istore_n (pc := 50) (lv1 := [(1, _), (0, _), (2, _)]) dX11_sound_50 rfl (by decide) rfl ?_
        refine V_iinc (pc := 51) (lv1 := [(2, _), (1, _), (0, _)]) (z := _ + (1 : Int32)) 2 dX11_sound_51 rfl rfl (by decide) rfl ?_
        refine V_goto (pc := 54) (tgt := 17) dX11_sound_54 (by decide) ?_
        exact V_sub [2, 1, 0] rfl (ih (v1 ||| ((1 : Int32) <<< (v2 &&& 31))) (v2 + (1 : Int32)) x8.2 h)
theorem calX11_sound : Cal yX11_sound cX11_sound 3 (some .int) 0 := ⟨kw1024, kw1, by decide +kernel⟩
theorem ctX11_sound {G : Gl} {σ : Sg} {d : Dt} {r0 : Nat} {r0h : Nat} {r0p : Nat} {rr : Int32 × Dt} (H0 : L10 σ r0 r0h r0p) (h : mX11_sound r0 r0h r0p d = some rr) : CTv G yX11_sound cX11_sound 3 (some .int) 5 [.ref (gB G + r0)] σ d [.int rr.1] rr.2 := by
  refine CT_of pn_RX11 (Nat.le_of_ble_eq_true rfl) ?_
  rw [mX11_sound] at h
  refine V_aload_n (pc := 0) 0 dX11_sound_0 rfl rfl ?_
  refine V_getI (pc := 1) (c := 10) (k := 4) dX11_sound_1 (by decide) (by decide) kw358 rfl rfl (L10_0 H0) ?_
  refine V_if_ne (pc := 4) (tgt := 13) dX11_sound_4 (by decide) (fun c1 => ?_) (fun c1 => ?_)
  · have h := ite_n c1 h
    refine V_iconst (pc := 13) (x := 0) dX11_sound_13 (by decide) ?_
    refine V_istore_n (pc := 14) (lv1 := [(1, _), (0, _)]) dX11_sound_14 rfl (by decide) rfl ?_
    refine V_iconst (pc := 15) (x := 0) dX11_sound_15 (by decide) ?_
    refine V_istore_n (pc := 16) (lv1 := [(2, _), (1, _), (0, _)]) dX11_sound_16 rfl (by decide) rfl ?_
    exact V_sub [2, 1, 0] rfl (wX11_sound_17 H0 FUEL (0 : Int32) (0 : Int32) d h)
  · have h := ite_p c1 h
    refine V_aload_n (pc := 7) 0 dX11_sound_7 rfl rfl ?_
    refine V_iconst (pc := 8) (x := 1) dX11_sound_8 (by decide) ?_
    refine V_cV1 (pc := 9) dX11_sound_9 kw403 calX11_refuse kw405 ks1 (L10_0 H0) rfl (by decide) (Nat.le_of_ble_eq_true rfl) (ctX11_refuse H0) ?_
    cases h
    exact V_ret (pc := 12) dX11_sound_12 ⟨rfl, _, rfl⟩ ⟨rfl, rfl, rfl⟩
theorem wX9_greatestApart_4 {G : Gl} {σ : Sg} {d : Dt} {r0 : Nat} {rr : Int32} (H0 : L9 σ r0) : ∀ (n : Nat) (v1 : Int32) (v2 : Int32), mX9_greatestApart_4 d r0 n v1 v2 = some rr → V G yX9_greatestApart cX9_greatestApart 3 (some .int) 4 0 0 (PH [.int rr] σ d) 4 [(0, .ref (gB G + r0)), (1, .int v1), (2, .int v2)] [] σ d := by
  intro n
  induction n with
  | zero =>
    intro v1 v2
    intros
    rename_i h
    exact absurd h (by rw [mX9_greatestApart_4]; exact fun q => nomatch q)
  | succ n ih =>
    intro v1 v2 h
    rw [mX9_greatestApart_4] at h
    refine V_iload_n (pc := 4) 2 dX9_greatestApart_4 rfl rfl ?_
    refine V_aload_n (pc := 5) 0 dX9_greatestApart_5 rfl rfl ?_
    refine V_getI (pc := 6) (c := 9) (k := 0) dX9_greatestApart_6 (by decide) (by decide) kw47 rfl rfl (L9_0 H0) ?_
    refine V_icmp_ge (pc := 9) (tgt := 33) dX9_greatestApart_9 (by decide) (fun c1 => ?_) (fun c1 => ?_)
    · have h := ite_p c1 h
      refine V_iload_n (pc := 33) 1 dX9_greatestApart_33 rfl rfl ?_
      cases h
      exact V_ret (pc := 34) dX9_greatestApart_34 ⟨rfl, _, rfl⟩ ⟨rfl, rfl, rfl⟩
    · have h := ite_n c1 h
      refine V_iload_n (pc := 12) 1 dX9_greatestApart_12 rfl rfl ?_
      refine V_aload_n (pc := 13) 0 dX9_greatestApart_13 rfl rfl ?_
      refine V_aload_n (pc := 14) 0 dX9_greatestApart_14 rfl rfl ?_
      refine V_getR (pc := 15) (c := 9) (k := 7) dX9_greatestApart_15 (by decide) (by decide) kw63 rfl rfl (L9_0 H0) (L9_r7 H0) ?_
      refine V_iload_n (pc := 18) 2 dX9_greatestApart_18 rfl rfl ?_
      obtain ⟨b2, h⟩ := ite_o h
      refine V_aald (pc := 19) dX9_greatestApart_19 (⟨L9_s7 H0, L9_g7 H0⟩ : GR σ _ _ _).1 (inB_vp b2) ((⟨L9_s7 H0, L9_g7 H0⟩ : GR σ _ _ _).2 _ (inB_lt b2)).1 ?_
      obtain ⟨x4, h3, h⟩ := bnd h
      refine V_cV1 (pc := 20) dX9_greatestApart_20 kw846 calX9_greatestOf kw835 kw836 (L9_0 H0) rfl (by decide) (Nat.le_of_ble_eq_true rfl) (ctX9_greatestOf H0 (((⟨L9_s7 H0, L9_g7 H0⟩ : GR σ _ _ _).2 _ (inB_lt b2)).2) h3) ?_
      refine V_mmax (pc := 23) dX9_greatestApart_23 kw802 (by decide) (Nat.le_of_ble_eq_true rfl) ?_
      refine V_istore_n (pc := 26) (lv1 := [(1, _), (0, _), (2, _)]) dX9_greatestApart_26 rfl (by decide) rfl ?_
      refine V_iinc (pc := 27) (lv1 := [(2, _), (1, _), (0, _)]) (z := _ + (1 : Int32)) 2 dX9_greatestApart_27 rfl rfl (by decide) rfl ?_
      refine V_goto (pc := 30) (tgt := 4) dX9_greatestApart_30 (by decide) ?_
      exact V_sub [2, 1, 0] rfl (ih (mxI v1 x4) (v2 + (1 : Int32)) h)
theorem calX9_greatestApart : Cal yX9_greatestApart cX9_greatestApart 3 (some .int) 0 := ⟨kw845, kw3, by decide +kernel⟩
theorem ctX9_greatestApart {G : Gl} {σ : Sg} {d : Dt} {r0 : Nat} {rr : Int32} (H0 : L9 σ r0) (h : mX9_greatestApart r0 d = some rr) : CTv G yX9_greatestApart cX9_greatestApart 3 (some .int) 4 [.ref (gB G + r0)] σ d [.int rr] d := by
  refine CT_of pn_RX9 (Nat.le_of_ble_eq_true rfl) ?_
  rw [mX9_greatestApart] at h
  refine V_iconst (pc := 0) (x := 0) dX9_greatestApart_0 (by decide) ?_
  refine V_istore_n (pc := 1) (lv1 := [(1, _), (0, _)]) dX9_greatestApart_1 rfl (by decide) rfl ?_
  refine V_iconst (pc := 2) (x := 0) dX9_greatestApart_2 (by decide) ?_
  refine V_istore_n (pc := 3) (lv1 := [(2, _), (1, _), (0, _)]) dX9_greatestApart_3 rfl (by decide) rfl ?_
  exact V_sub [2, 1, 0] rfl (wX9_greatestApart_4 H0 FUEL (0 : Int32) (0 : Int32) h)
theorem calX11_span : Cal yX11_span cX11_span 1 (some .int) 0 := ⟨kw841, kw1, by decide +kernel⟩
theorem ctX11_span {G : Gl} {σ : Sg} {d : Dt} {r0 : Nat} {r0h : Nat} {r0p : Nat} {rr : Int32 × Dt} (H0 : L10 σ r0 r0h r0p) (h : mX11_span r0 r0h r0p d = some rr) : CTv G yX11_span cX11_span 1 (some .int) 5 [.ref (gB G + r0)] σ d [.int rr.1] rr.2 := by
  refine CT_of pn_RX11 (Nat.le_of_ble_eq_true rfl) ?_
  rw [mX11_span] at h
  refine V_aload_n (pc := 0) 0 dX11_span_0 rfl rfl ?_
  refine V_getI (pc := 1) (c := 10) (k := 4) dX11_span_1 (by decide) (by decide) kw358 rfl rfl (L10_0 H0) ?_
  refine V_if_eq (pc := 4) (tgt := 24) dX11_span_4 (by decide) (fun c1 => ?_) (fun c1 => ?_)
  · have h := ite_p c1 h
    refine V_aload_n (pc := 24) 0 dX11_span_24 rfl rfl ?_
    refine V_iconst (pc := 25) (x := 1) dX11_span_25 (by decide) ?_
    refine V_cV1 (pc := 26) dX11_span_26 kw403 calX11_refuse kw405 ks1 (L10_0 H0) rfl (by decide) (Nat.le_of_ble_eq_true rfl) (ctX11_refuse H0) ?_
    cases h
    exact V_ret (pc := 29) dX11_span_29 ⟨rfl, _, rfl⟩ ⟨rfl, rfl, rfl⟩
  · have h := ite_n c1 h
    refine V_aload_n (pc := 7) 0 dX11_span_7 rfl rfl ?_
    refine V_aload_n (pc := 8) 0 dX11_span_8 rfl rfl ?_
    refine V_getR (pc := 9) (c := 10) (k := 2) dX11_span_9 (by decide) (by decide) kw356 rfl rfl (L10_0 H0) (L10_r2 H0) ?_
    refine V_getR (pc := 12) (c := 4) (k := 6) dX11_span_12 (by decide) (by decide) kw233 rfl rfl (L4_0 (L10_o2 H0)) (L4_r6 (L10_o2 H0)) ?_
    obtain ⟨x5, h4, h⟩ := bnd h
    refine V_cV0 (pc := 15) dX11_span_15 kw842 calX9_greatestApart kw843 kw844 (L9_0 (L4_o6 (L10_o2 H0))) rfl (by decide) (Nat.le_of_ble_eq_true rfl) (ctX9_greatestApart (L4_o6 (L10_o2 H0)) h4) ?_
    refine V_cV1 (pc := 18) dX11_span_18 kw720 calX11_answer kw722 ks29 (L10_0 H0) rfl (by decide) (Nat.le_of_ble_eq_true rfl) (ctX11_answer H0) ?_
    refine V_goto (pc := 21) (tgt := 29) dX11_span_21 (by decide) ?_
    cases h
    exact V_ret (pc := 29) dX11_span_29 ⟨rfl, _, rfl⟩ ⟨rfl, rfl, rfl⟩
theorem calX11_splice : Cal yX11_splice cX11_splice 5 (some .int) 2 := ⟨kw896, kw1, by decide +kernel⟩
theorem ctX11_splice {G : Gl} {σ : Sg} {d : Dt} {r0 : Nat} {r0h : Nat} {r0p : Nat} {v1 : Int32} {v2 : Int32} {rr : Int32 × Dt} (H0 : L10 σ r0 r0h r0p) (h : mX11_splice r0 r0h r0p v1 v2 d = some rr) : CTv G yX11_splice cX11_splice 5 (some .int) 3 [.ref (gB G + r0), .int v1, .int v2] σ d [.int rr.1] rr.2 := by
  refine CT_of pn_RX11 (Nat.le_of_ble_eq_true rfl) ?_
  rw [mX11_splice] at h
  refine V_aload_n (pc := 0) 0 dX11_splice_0 rfl rfl ?_
  refine V_aload_n (pc := 1) 0 dX11_splice_1 rfl rfl ?_
  refine V_iload_n (pc := 2) 2 dX11_splice_2 rfl rfl ?_
  refine V_cV1 (pc := 3) dX11_splice_3 kw859 calX11_isNet kw861 ks36 (L10_0 H0) rfl (by decide) (Nat.le_of_ble_eq_true rfl) (ctX11_isNet H0) ?_
  refine V_iload_n (pc := 6) 1 dX11_splice_6 rfl rfl ?_
  refine V_cV2 (pc := 7) dX11_splice_7 kw875 calX11_troubleOf kw877 ks38 (L10_0 H0) rfl (by decide) (Nat.le_of_ble_eq_true rfl) (ctX11_troubleOf H0) ?_
  refine V_istore_n (pc := 10) (lv1 := [(3, _), (0, _), (1, _), (2, _)]) dX11_splice_10 rfl (by decide) rfl ?_
  refine V_iload_n (pc := 11) 0 dX11_splice_11 rfl rfl ?_
  refine V_if_eq (pc := 12) (tgt := 21) dX11_splice_12 (by decide) (fun c5 => ?_) (fun c5 => ?_)
  · have h := ite_p c5 h
    refine V_aload_n (pc := 21) 1 dX11_splice_21 rfl rfl ?_
    refine V_getR (pc := 22) (c := 10) (k := 2) dX11_splice_22 (by decide) (by decide) kw356 rfl rfl (L10_0 H0) (L10_r2 H0) ?_
    refine V_iload_n (pc := 25) 2 dX11_splice_25 rfl rfl ?_
    refine V_iload_n (pc := 26) 3 dX11_splice_26 rfl rfl ?_
    obtain ⟨x7, h6, h⟩ := bnd h
    refine V_cS3 (pc := 27) dX11_splice_27 kw890 calX10_pinsThere kw891 (by decide) (Nat.le_of_ble_eq_true rfl) (ctX10_pinsThere (L10_o2 H0) h6) ?_
    refine V_istore (pc := 30) (lv1 := [(4, _), (3, _), (0, _), (1, _), (2, _)]) dX11_splice_30 (by decide) rfl ?_
    refine V_aload_n (pc := 32) 2 dX11_splice_32 rfl rfl ?_
    refine V_iload (pc := 33) 0 dX11_splice_33 rfl ?_
    refine V_cS1 (pc := 35) dX11_splice_35 kw897 calX10_needsSplice kw898 (by decide) (Nat.le_of_ble_eq_true rfl) (ctX10_needsSplice) ?_
    refine V_ifB_eq (pc := 38) (tgt := 54) dX11_splice_38 (by decide) (fun c10 => ?_) (fun c10 => ?_)
    · have h := ite_f c10 h
      refine V_bipush (pc := 54) (x := (-2)) dX11_splice_54 (by decide) ?_
      refine V_cV1 (pc := 56) dX11_splice_56 kw720 calX11_answer kw722 ks29 (L10_0 H0) rfl (by decide) (Nat.le_of_ble_eq_true rfl) (ctX11_answer H0) ?_
      cases h
      exact V_ret (pc := 59) dX11_splice_59 ⟨rfl, _, rfl⟩ ⟨rfl, rfl, rfl⟩
    · have h := ite_p c10 h
      refine V_aload_n (pc := 41) 2 dX11_splice_41 rfl rfl ?_
      refine V_getR (pc := 42) (c := 10) (k := 2) dX11_splice_42 (by decide) (by decide) kw356 rfl rfl (L10_0 H0) (L10_r2 H0) ?_
      refine V_iload_n (pc := 45) 4 dX11_splice_45 rfl rfl ?_
      refine V_iload (pc := 46) 0 dX11_splice_46 rfl ?_
      obtain ⟨x14, h13, h⟩ := bnd h
      refine V_cS3 (pc := 48) dX11_splice_48 kw906 calX10_hubOf kw907 (by decide) (Nat.le_of_ble_eq_true rfl) (ctX10_hubOf (L10_o2 H0) h13) ?_
      refine V_goto (pc := 51) (tgt := 56) dX11_splice_51 (by decide) ?_
      refine V_cV1 (pc := 56) dX11_splice_56 kw720 calX11_answer kw722 ks29 (L10_0 H0) rfl (by decide) (Nat.le_of_ble_eq_true rfl) (ctX11_answer H0) ?_
      cases h
      exact V_ret (pc := 59) dX11_splice_59 ⟨rfl, _, rfl⟩ ⟨rfl, rfl, rfl⟩
  · have h := ite_n c5 h
    refine V_aload_n (pc := 15) 1 dX11_splice_15 rfl rfl ?_
    refine V_iload_n (pc := 16) 0 dX11_splice_16 rfl rfl ?_
    refine V_cV1 (pc := 17) dX11_splice_17 kw403 calX11_refuse kw405 ks1 (L10_0 H0) rfl (by decide) (Nat.le_of_ble_eq_true rfl) (ctX11_refuse H0) ?_
    cases h
    exact V_ret (pc := 20) dX11_splice_20 ⟨rfl, _, rfl⟩ ⟨rfl, rfl, rfl⟩
theorem wX0_dropOldest_2 {G : Gl} {σ : Sg} {r0 : Nat} {rr : Dt} (H0 : L0 σ r0) : ∀ (n : Nat) (v1 : Int32) (d : Dt), mX0_dropOldest_2 r0 n v1 d = some rr → V G yX0_dropOldest cX0_dropOldest 2 none 0 0 0 (PH [] σ rr) 2 [(0, .ref (gB G + r0)), (1, .int v1)] [] σ d := by
  intro n
  induction n with
  | zero =>
    intro v1 d
    intros
    rename_i h
    exact absurd h (by rw [mX0_dropOldest_2]; exact fun q => nomatch q)
  | succ n ih =>
    intro v1 d h
    rw [mX0_dropOldest_2] at h
    refine V_iload_n (pc := 2) 1 dX0_dropOldest_2 rfl rfl ?_
    refine V_bipush (pc := 3) (x := 10) dX0_dropOldest_3 (by decide) ?_
    refine V_icmp_ge (pc := 5) (tgt := 56) dX0_dropOldest_5 (by decide) (fun c1 => ?_) (fun c1 => ?_)
    · have h := ite_p c1 h
      refine V_aload_n (pc := 56) 0 dX0_dropOldest_56 rfl rfl ?_
      refine V_bipush (pc := 57) (x := 9) dX0_dropOldest_57 (by decide) ?_
      refine V_putI (pc := 59) (c := 0) (k := 0) dX0_dropOldest_59 (by decide) (by decide) kw300 rfl rfl rfl ⟨rfl, rfl⟩ (L0_0 H0) ?_
      cases h
      exact V_ret (pc := 62) dX0_dropOldest_62 ⟨rfl, rfl⟩ ⟨rfl, rfl, rfl⟩
    · have h := ite_n c1 h
      refine V_aload_n (pc := 8) 0 dX0_dropOldest_8 rfl rfl ?_
      refine V_getR (pc := 9) (c := 0) (k := 1) dX0_dropOldest_9 (by decide) (by decide) kw302 rfl rfl (L0_0 H0) (L0_r1 H0) ?_
      refine V_iload_n (pc := 12) 1 dX0_dropOldest_12 rfl rfl ?_
      refine V_iconst (pc := 13) (x := 1) dX0_dropOldest_13 (by decide) ?_
      refine V_isub (pc := 14) dX0_dropOldest_14 ?_
      refine V_aload_n (pc := 15) 0 dX0_dropOldest_15 rfl rfl ?_
      refine V_getR (pc := 16) (c := 0) (k := 1) dX0_dropOldest_16 (by decide) (by decide) kw302 rfl rfl (L0_0 H0) (L0_r1 H0) ?_
      refine V_iload_n (pc := 19) 1 dX0_dropOldest_19 rfl rfl ?_
      obtain ⟨b2, h⟩ := ite_o h
      refine V_iald (pc := 20) dX0_dropOldest_20 (L0_s1 H0) (inB_vp b2) ?_
      obtain ⟨b3, h⟩ := ite_o h
      refine V_iast (pc := 21) dX0_dropOldest_21 (L0_s1 H0) (inB_vp b3) ?_
      refine V_aload_n (pc := 22) 0 dX0_dropOldest_22 rfl rfl ?_
      refine V_getR (pc := 23) (c := 0) (k := 2) dX0_dropOldest_23 (by decide) (by decide) kw304 rfl rfl (L0_0 H0) (L0_r2 H0) ?_
      refine V_iload_n (pc := 26) 1 dX0_dropOldest_26 rfl rfl ?_
      refine V_iconst (pc := 27) (x := 1) dX0_dropOldest_27 (by decide) ?_
      refine V_isub (pc := 28) dX0_dropOldest_28 ?_
      refine V_aload_n (pc := 29) 0 dX0_dropOldest_29 rfl rfl ?_
      refine V_getR (pc := 30) (c := 0) (k := 2) dX0_dropOldest_30 (by decide) (by decide) kw304 rfl rfl (L0_0 H0) (L0_r2 H0) ?_
      refine V_iload_n (pc := 33) 1 dX0_dropOldest_33 rfl rfl ?_
      obtain ⟨b4, h⟩ := ite_o h
      refine V_iald (pc := 34) dX0_dropOldest_34 (L0_s2 H0) (inB_vp b4) ?_
      obtain ⟨b5, h⟩ := ite_o h
      refine V_iast (pc := 35) dX0_dropOldest_35 (L0_s2 H0) (inB_vp b5) ?_
      refine V_aload_n (pc := 36) 0 dX0_dropOldest_36 rfl rfl ?_
      refine V_getR (pc := 37) (c := 0) (k := 3) dX0_dropOldest_37 (by decide) (by decide) kw306 rfl rfl (L0_0 H0) (L0_r3 H0) ?_
      refine V_iload_n (pc := 40) 1 dX0_dropOldest_40 rfl rfl ?_
      refine V_iconst (pc := 41) (x := 1) dX0_dropOldest_41 (by decide) ?_
      refine V_isub (pc := 42) dX0_dropOldest_42 ?_
      refine V_aload_n (pc := 43) 0 dX0_dropOldest_43 rfl rfl ?_
      refine V_getR (pc := 44) (c := 0) (k := 3) dX0_dropOldest_44 (by decide) (by decide) kw306 rfl rfl (L0_0 H0) (L0_r3 H0) ?_
      refine V_iload_n (pc := 47) 1 dX0_dropOldest_47 rfl rfl ?_
      obtain ⟨b6, h⟩ := ite_o h
      refine V_iald (pc := 48) dX0_dropOldest_48 (L0_s3 H0) (inB_vp b6) ?_
      obtain ⟨b7, h⟩ := ite_o h
      refine V_iast (pc := 49) dX0_dropOldest_49 (L0_s3 H0) (inB_vp b7) ?_
      refine V_iinc (pc := 50) (lv1 := [(1, _), (0, _)]) (z := _ + (1 : Int32)) 1 dX0_dropOldest_50 rfl rfl (by decide) rfl ?_
      refine V_goto (pc := 53) (tgt := 2) dX0_dropOldest_53 (by decide) ?_
      exact V_sub [1, 0] rfl (ih (v1 + (1 : Int32)) (uI (uI (uI d (r0 + 1) (v1 - (1 : Int32)).toNatClampNeg (d.1 (r0 + 1) v1.toNatClampNeg)) (r0 + 2) (v1 - (1 : Int32)).toNatClampNeg ((uI d (r0 + 1) (v1 - (1 : Int32)).toNatClampNeg (d.1 (r0 + 1) v1.toNatClampNeg)).1 (r0 + 2) v1.toNatClampNeg)) (r0 + 3) (v1 - (1 : Int32)).toNatClampNeg ((uI (uI d (r0 + 1) (v1 - (1 : Int32)).toNatClampNeg (d.1 (r0 + 1) v1.toNatClampNeg)) (r0 + 2) (v1 - (1 : Int32)).toNatClampNeg ((uI d (r0 + 1) (v1 - (1 : Int32)).toNatClampNeg (d.1 (r0 + 1) v1.toNatClampNeg)).1 (r0 + 2) v1.toNatClampNeg)).1 (r0 + 3) v1.toNatClampNeg)) h)
theorem calX0_dropOldest : Cal yX0_dropOldest cX0_dropOldest 2 none 0 := ⟨kw1135, kw8, by decide +kernel⟩
theorem ctX0_dropOldest {G : Gl} {σ : Sg} {d : Dt} {r0 : Nat} {rr : Dt} (H0 : L0 σ r0) (h : mX0_dropOldest r0 d = some rr) : CTv G yX0_dropOldest cX0_dropOldest 2 none 0 [.ref (gB G + r0)] σ d [] rr := by
  refine CT_of pn_RX0 (Nat.le_of_ble_eq_true rfl) ?_
  rw [mX0_dropOldest] at h
  refine V_iconst (pc := 0) (x := 1) dX0_dropOldest_0 (by decide) ?_
  refine V_istore_n (pc := 1) (lv1 := [(1, _), (0, _)]) dX0_dropOldest_1 rfl (by decide) rfl ?_
  exact V_sub [1, 0] rfl (wX0_dropOldest_2 H0 FUEL (1 : Int32) d h)
