theorem calX11_refuse : Cal yX11_refuse cX11_refuse 2 (some .int) 1 := ⟨kw406, kw1, by decide +kernel⟩
theorem ctX11_refuse {G : Gl} {σ : Sg} {d : Dt} {r0 : Nat} {r0h : Nat} {r0p : Nat} {v1 : Int32} (H0 : L10 σ r0 r0h r0p) : CTv G yX11_refuse cX11_refuse 2 (some .int) 0 [.ref (gB G + r0), .int v1] σ d [.int (mX11_refuse r0 r0h r0p v1 d).1] (mX11_refuse r0 r0h r0p v1 d).2 := by
  refine CT_of pn_RX11 (Nat.le_of_ble_eq_true rfl) ?_
  generalize h : mX11_refuse r0 r0h r0p v1 d = rr
  rw [mX11_refuse] at h
  refine V_aload_n (pc := 0) 0 dX11_refuse_0 rfl rfl ?_
  refine V_iload_n (pc := 1) 1 dX11_refuse_1 rfl rfl ?_
  refine V_putI (pc := 2) (c := 10) (k := 9) dX11_refuse_2 (by decide) (by decide) kw363 rfl rfl rfl ⟨rfl, rfl⟩ (L10_0 H0) ?_
  refine V_iconst (pc := 5) (x := (-1)) dX11_refuse_5 (by decide) ?_
  subst h
  exact V_ret (pc := 6) dX11_refuse_6 ⟨rfl, _, rfl⟩ ⟨rfl, rfl, rfl⟩
theorem calX11_answer : Cal yX11_answer cX11_answer 2 (some .int) 1 := ⟨kw723, kw1, by decide +kernel⟩
theorem ctX11_answer {G : Gl} {σ : Sg} {d : Dt} {r0 : Nat} {r0h : Nat} {r0p : Nat} {v1 : Int32} (H0 : L10 σ r0 r0h r0p) : CTv G yX11_answer cX11_answer 2 (some .int) 0 [.ref (gB G + r0), .int v1] σ d [.int (mX11_answer r0 r0h r0p v1 d).1] (mX11_answer r0 r0h r0p v1 d).2 := by
  refine CT_of pn_RX11 (Nat.le_of_ble_eq_true rfl) ?_
  generalize h : mX11_answer r0 r0h r0p v1 d = rr
  rw [mX11_answer] at h
  refine V_aload_n (pc := 0) 0 dX11_answer_0 rfl rfl ?_
  refine V_iconst (pc := 1) (x := 0) dX11_answer_1 (by decide) ?_
  refine V_putI (pc := 2) (c := 10) (k := 9) dX11_answer_2 (by decide) (by decide) kw363 rfl rfl rfl ⟨rfl, rfl⟩ (L10_0 H0) ?_
  refine V_iload_n (pc := 5) 1 dX11_answer_5 rfl rfl ?_
  subst h
  exact V_ret (pc := 6) dX11_answer_6 ⟨rfl, _, rfl⟩ ⟨rfl, rfl, rfl⟩
theorem calX11_about : Cal yX11_about cX11_about 2 (some .int) 1 := ⟨kw735, kw1, by decide +kernel⟩
theorem ctX11_about {G : Gl} {σ : Sg} {d : Dt} {r0 : Nat} {r0h : Nat} {r0p : Nat} {v1 : Int32} (H0 : L10 σ r0 r0h r0p) : CTv G yX11_about cX11_about 2 (some .int) 1 [.ref (gB G + r0), .int v1] σ d [.int (mX11_about r0 r0h r0p v1 d).1] (mX11_about r0 r0h r0p v1 d).2 := by
  refine CT_of pn_RX11 (Nat.le_of_ble_eq_true rfl) ?_
  generalize h : mX11_about r0 r0h r0p v1 d = rr
  rw [mX11_about] at h
  refine V_aload_n (pc := 0) 0 dX11_about_0 rfl rfl ?_
  refine V_getI (pc := 1) (c := 10) (k := 4) dX11_about_1 (by decide) (by decide) kw358 rfl rfl (L10_0 H0) ?_
  refine V_if_ne (pc := 4) (tgt := 13) dX11_about_4 (by decide) (fun c1 => ?_) (fun c1 => ?_)
  · have h := ite_n c1 h
    refine V_iload_n (pc := 13) 1 dX11_about_13 rfl rfl ?_
    rcases Decidable.em (v1 = (0 : Int32)) with c2 | c2
    · have h := ite_p c2 h
      refine V_tcase (pc := 14) (tgt := 56) dX11_about_14 c2 (by decide) (by decide) rfl (by decide) ?_
      refine V_aload_n (pc := 56) 0 dX11_about_56 rfl rfl ?_
      refine V_aload_n (pc := 57) 0 dX11_about_57 rfl rfl ?_
      refine V_getR (pc := 58) (c := 10) (k := 2) dX11_about_58 (by decide) (by decide) kw356 rfl rfl (L10_0 H0) (L10_r2 H0) ?_
      refine V_getI (pc := 61) (c := 4) (k := 0) dX11_about_61 (by decide) (by decide) kw219 rfl rfl (L4_0 (L10_o2 H0)) ?_
      refine V_cV1 (pc := 64) dX11_about_64 kw720 calX11_answer kw722 ks29 (L10_0 H0) rfl (by decide) (Nat.le_of_ble_eq_true rfl) (ctX11_answer H0) ?_
      subst h
      exact V_ret (pc := 67) dX11_about_67 ⟨rfl, _, rfl⟩ ⟨rfl, rfl, rfl⟩
    · have h := ite_n c2 h
      rcases Decidable.em (v1 = (1 : Int32)) with c3 | c3
      · have h := ite_p c3 h
        refine V_tcase (pc := 14) (tgt := 68) dX11_about_14 c3 (by decide) (by decide) rfl (by decide) ?_
        refine V_aload_n (pc := 68) 0 dX11_about_68 rfl rfl ?_
        refine V_aload_n (pc := 69) 0 dX11_about_69 rfl rfl ?_
        refine V_getR (pc := 70) (c := 10) (k := 2) dX11_about_70 (by decide) (by decide) kw356 rfl rfl (L10_0 H0) (L10_r2 H0) ?_
        refine V_getI (pc := 73) (c := 4) (k := 1) dX11_about_73 (by decide) (by decide) kw223 rfl rfl (L4_0 (L10_o2 H0)) ?_
        refine V_cV1 (pc := 76) dX11_about_76 kw720 calX11_answer kw722 ks29 (L10_0 H0) rfl (by decide) (Nat.le_of_ble_eq_true rfl) (ctX11_answer H0) ?_
        subst h
        exact V_ret (pc := 79) dX11_about_79 ⟨rfl, _, rfl⟩ ⟨rfl, rfl, rfl⟩
      · have h := ite_n c3 h
        rcases Decidable.em (v1 = (2 : Int32)) with c4 | c4
        · have h := ite_p c4 h
          refine V_tcase (pc := 14) (tgt := 80) dX11_about_14 c4 (by decide) (by decide) rfl (by decide) ?_
          refine V_aload_n (pc := 80) 0 dX11_about_80 rfl rfl ?_
          refine V_aload_n (pc := 81) 0 dX11_about_81 rfl rfl ?_
          refine V_getR (pc := 82) (c := 10) (k := 2) dX11_about_82 (by decide) (by decide) kw356 rfl rfl (L10_0 H0) (L10_r2 H0) ?_
          refine V_getR (pc := 85) (c := 4) (k := 6) dX11_about_85 (by decide) (by decide) kw233 rfl rfl (L4_0 (L10_o2 H0)) (L4_r6 (L10_o2 H0)) ?_
          refine V_getI (pc := 88) (c := 9) (k := 0) dX11_about_88 (by decide) (by decide) kw49 rfl rfl (L9_0 (L4_o6 (L10_o2 H0))) ?_
          refine V_cV1 (pc := 91) dX11_about_91 kw720 calX11_answer kw722 ks29 (L10_0 H0) rfl (by decide) (Nat.le_of_ble_eq_true rfl) (ctX11_answer H0) ?_
          subst h
          exact V_ret (pc := 94) dX11_about_94 ⟨rfl, _, rfl⟩ ⟨rfl, rfl, rfl⟩
        · have h := ite_n c4 h
          rcases Decidable.em (v1 = (3 : Int32)) with c5 | c5
          · have h := ite_p c5 h
            refine V_tcase (pc := 14) (tgt := 95) dX11_about_14 c5 (by decide) (by decide) rfl (by decide) ?_
            refine V_aload_n (pc := 95) 0 dX11_about_95 rfl rfl ?_
            refine V_aload_n (pc := 96) 0 dX11_about_96 rfl rfl ?_
            refine V_getR (pc := 97) (c := 10) (k := 2) dX11_about_97 (by decide) (by decide) kw356 rfl rfl (L10_0 H0) (L10_r2 H0) ?_
            refine V_getI (pc := 100) (c := 4) (k := 2) dX11_about_100 (by decide) (by decide) kw227 rfl rfl (L4_0 (L10_o2 H0)) ?_
            refine V_cV1 (pc := 103) dX11_about_103 kw720 calX11_answer kw722 ks29 (L10_0 H0) rfl (by decide) (Nat.le_of_ble_eq_true rfl) (ctX11_answer H0) ?_
            subst h
            exact V_ret (pc := 106) dX11_about_106 ⟨rfl, _, rfl⟩ ⟨rfl, rfl, rfl⟩
          · have h := ite_n c5 h
            rcases Decidable.em (v1 = (4 : Int32)) with c6 | c6
            · have h := ite_p c6 h
              refine V_tcase (pc := 14) (tgt := 107) dX11_about_14 c6 (by decide) (by decide) rfl (by decide) ?_
              refine V_aload_n (pc := 107) 0 dX11_about_107 rfl rfl ?_
              refine V_aload_n (pc := 108) 0 dX11_about_108 rfl rfl ?_
              refine V_getR (pc := 109) (c := 10) (k := 2) dX11_about_109 (by decide) (by decide) kw356 rfl rfl (L10_0 H0) (L10_r2 H0) ?_
              refine V_getR (pc := 112) (c := 4) (k := 7) dX11_about_112 (by decide) (by decide) kw239 rfl rfl (L4_0 (L10_o2 H0)) (L4_r7 (L10_o2 H0)) ?_
              refine V_getI (pc := 115) (c := 6) (k := 0) dX11_about_115 (by decide) (by decide) kw95 rfl rfl (L6_0 (L4_o7 (L10_o2 H0))) ?_
              refine V_cV1 (pc := 118) dX11_about_118 kw720 calX11_answer kw722 ks29 (L10_0 H0) rfl (by decide) (Nat.le_of_ble_eq_true rfl) (ctX11_answer H0) ?_
              subst h
              exact V_ret (pc := 121) dX11_about_121 ⟨rfl, _, rfl⟩ ⟨rfl, rfl, rfl⟩
            · have h := ite_n c6 h
              rcases Decidable.em (v1 = (5 : Int32)) with c7 | c7
              · have h := ite_p c7 h
                refine V_tcase (pc := 14) (tgt := 122) dX11_about_14 c7 (by decide) (by decide) rfl (by decide) ?_
                refine V_aload_n (pc := 122) 0 dX11_about_122 rfl rfl ?_
                refine V_aload_n (pc := 123) 0 dX11_about_123 rfl rfl ?_
                refine V_getR (pc := 124) (c := 10) (k := 2) dX11_about_124 (by decide) (by decide) kw356 rfl rfl (L10_0 H0) (L10_r2 H0) ?_
                refine V_getR (pc := 127) (c := 4) (k := 8) dX11_about_127 (by decide) (by decide) kw244 rfl rfl (L4_0 (L10_o2 H0)) (L4_r8 (L10_o2 H0)) ?_
                refine V_getI (pc := 130) (c := 5) (k := 0) dX11_about_130 (by decide) (by decide) kw141 rfl rfl (L5_0 (L4_o8 (L10_o2 H0))) ?_
                refine V_cV1 (pc := 133) dX11_about_133 kw720 calX11_answer kw722 ks29 (L10_0 H0) rfl (by decide) (Nat.le_of_ble_eq_true rfl) (ctX11_answer H0) ?_
                subst h
                exact V_ret (pc := 136) dX11_about_136 ⟨rfl, _, rfl⟩ ⟨rfl, rfl, rfl⟩
              · have h := ite_n c7 h
                rcases Decidable.em (v1 = (6 : Int32)) with c8 | c8
                · have h := ite_p c8 h
                  refine V_tcase (pc := 14) (tgt := 137) dX11_about_14 c8 (by decide) (by decide) rfl (by decide) ?_
                  refine V_aload_n (pc := 137) 0 dX11_about_137 rfl rfl ?_
                  refine V_aload_n (pc := 138) 0 dX11_about_138 rfl rfl ?_
                  refine V_getR (pc := 139) (c := 10) (k := 2) dX11_about_139 (by decide) (by decide) kw356 rfl rfl (L10_0 H0) (L10_r2 H0) ?_
                  refine V_getR (pc := 142) (c := 4) (k := 9) dX11_about_142 (by decide) (by decide) kw249 rfl rfl (L4_0 (L10_o2 H0)) (L4_r9 (L10_o2 H0)) ?_
                  refine V_getI (pc := 145) (c := 1) (k := 0) dX11_about_145 (by decide) (by decide) kw203 rfl rfl (L1_0 (L4_o9 (L10_o2 H0))) ?_
                  refine V_cV1 (pc := 148) dX11_about_148 kw720 calX11_answer kw722 ks29 (L10_0 H0) rfl (by decide) (Nat.le_of_ble_eq_true rfl) (ctX11_answer H0) ?_
                  subst h
                  exact V_ret (pc := 151) dX11_about_151 ⟨rfl, _, rfl⟩ ⟨rfl, rfl, rfl⟩
                · have h := ite_n c8 h
                  refine V_tout (pc := 14) (tgt := 152) dX11_about_14 (sw7 c2 c3 c4 c5 c6 c7 c8) (by decide) ?_
                  refine V_aload_n (pc := 152) 0 dX11_about_152 rfl rfl ?_
                  refine V_iconst (pc := 153) (x := 1) dX11_about_153 (by decide) ?_
                  refine V_cV1 (pc := 154) dX11_about_154 kw403 calX11_refuse kw405 ks1 (L10_0 H0) rfl (by decide) (Nat.le_of_ble_eq_true rfl) (ctX11_refuse H0) ?_
                  subst h
                  exact V_ret (pc := 157) dX11_about_157 ⟨rfl, _, rfl⟩ ⟨rfl, rfl, rfl⟩
  · have h := ite_p c1 h
    refine V_aload_n (pc := 7) 0 dX11_about_7 rfl rfl ?_
    refine V_iconst (pc := 8) (x := 1) dX11_about_8 (by decide) ?_
    refine V_cV1 (pc := 9) dX11_about_9 kw403 calX11_refuse kw405 ks1 (L10_0 H0) rfl (by decide) (Nat.le_of_ble_eq_true rfl) (ctX11_refuse H0) ?_
    subst h
    exact V_ret (pc := 12) dX11_about_12 ⟨rfl, _, rfl⟩ ⟨rfl, rfl, rfl⟩
theorem calX11_isBuild : Cal yX11_isBuild cX11_isBuild 2 (some .boolean) 1 := ⟨kw1036, kw1, by decide +kernel⟩
theorem ctX11_isBuild {G : Gl} {σ : Sg} {d : Dt} {r0 : Nat} {r0h : Nat} {r0p : Nat} {v1 : Int32} (H0 : L10 σ r0 r0h r0p) : CTv G yX11_isBuild cX11_isBuild 2 (some .boolean) 0 [.ref (gB G + r0), .int v1] σ d [.int (b2i (mX11_isBuild r0 r0h r0p v1 d))] d := by
  refine CT_of pn_RX11 (Nat.le_of_ble_eq_true rfl) ?_
  generalize h : mX11_isBuild r0 r0h r0p v1 d = rr
  rw [mX11_isBuild] at h
  refine V_iload_n (pc := 0) 1 dX11_isBuild_0 rfl rfl ?_
  refine V_if_lt (pc := 1) (tgt := 22) dX11_isBuild_1 (by decide) (fun c1 => ?_) (fun c1 => ?_)
  · have h := ite_p c1 h
    refine V_iconst (pc := 22) (x := 0) dX11_isBuild_22 (by decide) ?_
    subst h
    exact V_ret (pc := 23) dX11_isBuild_23 ⟨rfl, _, rfl, rfl⟩ ⟨rfl, rfl, rfl⟩
  · have h := ite_n c1 h
    refine V_iload_n (pc := 4) 1 dX11_isBuild_4 rfl rfl ?_
    refine V_aload_n (pc := 5) 0 dX11_isBuild_5 rfl rfl ?_
    refine V_getR (pc := 6) (c := 10) (k := 2) dX11_isBuild_6 (by decide) (by decide) kw356 rfl rfl (L10_0 H0) (L10_r2 H0) ?_
    refine V_getR (pc := 9) (c := 4) (k := 9) dX11_isBuild_9 (by decide) (by decide) kw249 rfl rfl (L4_0 (L10_o2 H0)) (L4_r9 (L10_o2 H0)) ?_
    refine V_getI (pc := 12) (c := 1) (k := 0) dX11_isBuild_12 (by decide) (by decide) kw203 rfl rfl (L1_0 (L4_o9 (L10_o2 H0))) ?_
    refine V_icmp_ge (pc := 15) (tgt := 22) dX11_isBuild_15 (by decide) (fun c2 => ?_) (fun c2 => ?_)
    · have h := ite_p c2 h
      refine V_iconst (pc := 22) (x := 0) dX11_isBuild_22 (by decide) ?_
      subst h
      exact V_ret (pc := 23) dX11_isBuild_23 ⟨rfl, _, rfl, rfl⟩ ⟨rfl, rfl, rfl⟩
    · have h := ite_n c2 h
      refine V_iconst (pc := 18) (x := 1) dX11_isBuild_18 (by decide) ?_
      refine V_goto (pc := 19) (tgt := 23) dX11_isBuild_19 (by decide) ?_
      subst h
      exact V_ret (pc := 23) dX11_isBuild_23 ⟨rfl, _, rfl, rfl⟩ ⟨rfl, rfl, rfl⟩
theorem calX11_build : Cal yX11_build cX11_build 3 (some .int) 2 := ⟨kw1032, kw1, by decide +kernel⟩
theorem ctX11_build {G : Gl} {σ : Sg} {d : Dt} {r0 : Nat} {r0h : Nat} {r0p : Nat} {v1 : Int32} {v2 : Int32} {rr : Int32 × Dt} (H0 : L10 σ r0 r0h r0p) (h : mX11_build r0 r0h r0p v1 v2 d = some rr) : CTv G yX11_build cX11_build 3 (some .int) 1 [.ref (gB G + r0), .int v1, .int v2] σ d [.int rr.1] rr.2 := by
  refine CT_of pn_RX11 (Nat.le_of_ble_eq_true rfl) ?_
  rw [mX11_build] at h
  refine V_aload_n (pc := 0) 0 dX11_build_0 rfl rfl ?_
  refine V_iload_n (pc := 1) 1 dX11_build_1 rfl rfl ?_
  refine V_cV1 (pc := 2) dX11_build_2 kw1033 calX11_isBuild kw1035 ks43 (L10_0 H0) rfl (by decide) (Nat.le_of_ble_eq_true rfl) (ctX11_isBuild H0) ?_
  refine V_ifB_eq (pc := 5) (tgt := 17) dX11_build_5 (by decide) (fun c3 => ?_) (fun c3 => ?_)
  · have h := ite_f c3 h
    refine V_aload_n (pc := 17) 0 dX11_build_17 rfl rfl ?_
    refine V_iconst (pc := 18) (x := 1) dX11_build_18 (by decide) ?_
    refine V_cV1 (pc := 19) dX11_build_19 kw403 calX11_refuse kw405 ks1 (L10_0 H0) rfl (by decide) (Nat.le_of_ble_eq_true rfl) (ctX11_refuse H0) ?_
    cases h
    exact V_ret (pc := 22) dX11_build_22 ⟨rfl, _, rfl⟩ ⟨rfl, rfl, rfl⟩
  · have h := ite_p c3 h
    refine V_iload_n (pc := 8) 2 dX11_build_8 rfl rfl ?_
    refine V_if_lt (pc := 9) (tgt := 17) dX11_build_9 (by decide) (fun c6 => ?_) (fun c6 => ?_)
    · have h := ite_p c6 h
      refine V_aload_n (pc := 17) 0 dX11_build_17 rfl rfl ?_
      refine V_iconst (pc := 18) (x := 1) dX11_build_18 (by decide) ?_
      refine V_cV1 (pc := 19) dX11_build_19 kw403 calX11_refuse kw405 ks1 (L10_0 H0) rfl (by decide) (Nat.le_of_ble_eq_true rfl) (ctX11_refuse H0) ?_
      cases h
      exact V_ret (pc := 22) dX11_build_22 ⟨rfl, _, rfl⟩ ⟨rfl, rfl, rfl⟩
    · have h := ite_n c6 h
      refine V_iload_n (pc := 12) 2 dX11_build_12 rfl rfl ?_
      refine V_iconst (pc := 13) (x := 1) dX11_build_13 (by decide) ?_
      refine V_icmp_le (pc := 14) (tgt := 23) dX11_build_14 (by decide) (fun c9 => ?_) (fun c9 => ?_)
      · have h := ite_p c9 h
        refine V_aload_n (pc := 23) 0 dX11_build_23 rfl rfl ?_
        refine V_iload_n (pc := 24) 2 dX11_build_24 rfl rfl ?_
        refine V_if_ne (pc := 25) (tgt := 43) dX11_build_25 (by decide) (fun c10 => ?_) (fun c10 => ?_)
        · have h := ite_n c10 h
          refine V_aload_n (pc := 43) 0 dX11_build_43 rfl rfl ?_
          refine V_getR (pc := 44) (c := 10) (k := 2) dX11_build_44 (by decide) (by decide) kw356 rfl rfl (L10_0 H0) (L10_r2 H0) ?_
          refine V_getR (pc := 47) (c := 4) (k := 9) dX11_build_47 (by decide) (by decide) kw249 rfl rfl (L4_0 (L10_o2 H0)) (L4_r9 (L10_o2 H0)) ?_
          refine V_getR (pc := 50) (c := 1) (k := 2) dX11_build_50 (by decide) (by decide) kw210 rfl rfl (L1_0 (L4_o9 (L10_o2 H0))) (L1_r2 (L4_o9 (L10_o2 H0))) ?_
          refine V_iload_n (pc := 53) 1 dX11_build_53 rfl rfl ?_
          obtain ⟨b11, h⟩ := ite_o h
          refine V_iald (pc := 54) dX11_build_54 (L1_s2 (L4_o9 (L10_o2 H0))) (inB_vp b11) ?_
          refine V_cV1 (pc := 55) dX11_build_55 kw720 calX11_answer kw722 ks29 (L10_0 H0) rfl (by decide) (Nat.le_of_ble_eq_true rfl) (ctX11_answer H0) ?_
          cases h
          exact V_ret (pc := 58) dX11_build_58 ⟨rfl, _, rfl⟩ ⟨rfl, rfl, rfl⟩
        · have h := ite_p c10 h
          refine V_aload_n (pc := 28) 0 dX11_build_28 rfl rfl ?_
          refine V_getR (pc := 29) (c := 10) (k := 2) dX11_build_29 (by decide) (by decide) kw356 rfl rfl (L10_0 H0) (L10_r2 H0) ?_
          refine V_getR (pc := 32) (c := 4) (k := 9) dX11_build_32 (by decide) (by decide) kw249 rfl rfl (L4_0 (L10_o2 H0)) (L4_r9 (L10_o2 H0)) ?_
          refine V_getR (pc := 35) (c := 1) (k := 1) dX11_build_35 (by decide) (by decide) kw207 rfl rfl (L1_0 (L4_o9 (L10_o2 H0))) (L1_r1 (L4_o9 (L10_o2 H0))) ?_
          refine V_iload_n (pc := 38) 1 dX11_build_38 rfl rfl ?_
          obtain ⟨b14, h⟩ := ite_o h
          refine V_iald (pc := 39) dX11_build_39 (L1_s1 (L4_o9 (L10_o2 H0))) (inB_vp b14) ?_
          refine V_goto (pc := 40) (tgt := 55) dX11_build_40 (by decide) ?_
          refine V_cV1 (pc := 55) dX11_build_55 kw720 calX11_answer kw722 ks29 (L10_0 H0) rfl (by decide) (Nat.le_of_ble_eq_true rfl) (ctX11_answer H0) ?_
          cases h
          exact V_ret (pc := 58) dX11_build_58 ⟨rfl, _, rfl⟩ ⟨rfl, rfl, rfl⟩
      · have h := ite_n c9 h
        refine V_aload_n (pc := 17) 0 dX11_build_17 rfl rfl ?_
        refine V_iconst (pc := 18) (x := 1) dX11_build_18 (by decide) ?_
        refine V_cV1 (pc := 19) dX11_build_19 kw403 calX11_refuse kw405 ks1 (L10_0 H0) rfl (by decide) (Nat.le_of_ble_eq_true rfl) (ctX11_refuse H0) ?_
        cases h
        exact V_ret (pc := 22) dX11_build_22 ⟨rfl, _, rfl⟩ ⟨rfl, rfl, rfl⟩
theorem calX11_isNode : Cal yX11_isNode cX11_isNode 2 (some .boolean) 1 := ⟨kw748, kw1, by decide +kernel⟩
theorem ctX11_isNode {G : Gl} {σ : Sg} {d : Dt} {r0 : Nat} {r0h : Nat} {r0p : Nat} {v1 : Int32} (H0 : L10 σ r0 r0h r0p) : CTv G yX11_isNode cX11_isNode 2 (some .boolean) 0 [.ref (gB G + r0), .int v1] σ d [.int (b2i (mX11_isNode r0 r0h r0p v1 d))] d := by
  refine CT_of pn_RX11 (Nat.le_of_ble_eq_true rfl) ?_
  generalize h : mX11_isNode r0 r0h r0p v1 d = rr
  rw [mX11_isNode] at h
  refine V_iload_n (pc := 0) 1 dX11_isNode_0 rfl rfl ?_
  refine V_if_lt (pc := 1) (tgt := 22) dX11_isNode_1 (by decide) (fun c1 => ?_) (fun c1 => ?_)
  · have h := ite_p c1 h
    refine V_iconst (pc := 22) (x := 0) dX11_isNode_22 (by decide) ?_
    subst h
    exact V_ret (pc := 23) dX11_isNode_23 ⟨rfl, _, rfl, rfl⟩ ⟨rfl, rfl, rfl⟩
  · have h := ite_n c1 h
    refine V_iload_n (pc := 4) 1 dX11_isNode_4 rfl rfl ?_
    refine V_aload_n (pc := 5) 0 dX11_isNode_5 rfl rfl ?_
    refine V_getR (pc := 6) (c := 10) (k := 2) dX11_isNode_6 (by decide) (by decide) kw356 rfl rfl (L10_0 H0) (L10_r2 H0) ?_
    refine V_getR (pc := 9) (c := 4) (k := 6) dX11_isNode_9 (by decide) (by decide) kw233 rfl rfl (L4_0 (L10_o2 H0)) (L4_r6 (L10_o2 H0)) ?_
    refine V_getI (pc := 12) (c := 9) (k := 0) dX11_isNode_12 (by decide) (by decide) kw49 rfl rfl (L9_0 (L4_o6 (L10_o2 H0))) ?_
    refine V_icmp_ge (pc := 15) (tgt := 22) dX11_isNode_15 (by decide) (fun c2 => ?_) (fun c2 => ?_)
    · have h := ite_p c2 h
      refine V_iconst (pc := 22) (x := 0) dX11_isNode_22 (by decide) ?_
      subst h
      exact V_ret (pc := 23) dX11_isNode_23 ⟨rfl, _, rfl, rfl⟩ ⟨rfl, rfl, rfl⟩
    · have h := ite_n c2 h
      refine V_iconst (pc := 18) (x := 1) dX11_isNode_18 (by decide) ?_
      refine V_goto (pc := 19) (tgt := 23) dX11_isNode_19 (by decide) ?_
      subst h
      exact V_ret (pc := 23) dX11_isNode_23 ⟨rfl, _, rfl, rfl⟩ ⟨rfl, rfl, rfl⟩
theorem calX11_isBundle : Cal yX11_isBundle cX11_isBundle 2 (some .boolean) 1 := ⟨kw780, kw1, by decide +kernel⟩
theorem ctX11_isBundle {G : Gl} {σ : Sg} {d : Dt} {r0 : Nat} {r0h : Nat} {r0p : Nat} {v1 : Int32} (H0 : L10 σ r0 r0h r0p) : CTv G yX11_isBundle cX11_isBundle 2 (some .boolean) 1 [.ref (gB G + r0), .int v1] σ d [.int (b2i (mX11_isBundle r0 r0h r0p v1 d))] d := by
  refine CT_of pn_RX11 (Nat.le_of_ble_eq_true rfl) ?_
  generalize h : mX11_isBundle r0 r0h r0p v1 d = rr
  rw [mX11_isBundle] at h
  refine V_iload_n (pc := 0) 1 dX11_isBundle_0 rfl rfl ?_
  refine V_if_le (pc := 1) (tgt := 16) dX11_isBundle_1 (by decide) (fun c1 => ?_) (fun c1 => ?_)
  · have h := ite_p c1 h
    refine V_iconst (pc := 16) (x := 0) dX11_isBundle_16 (by decide) ?_
    subst h
    exact V_ret (pc := 17) dX11_isBundle_17 ⟨rfl, _, rfl, rfl⟩ ⟨rfl, rfl, rfl⟩
  · have h := ite_n c1 h
    refine V_aload_n (pc := 4) 0 dX11_isBundle_4 rfl rfl ?_
    refine V_iload_n (pc := 5) 1 dX11_isBundle_5 rfl rfl ?_
    refine V_cV1 (pc := 6) dX11_isBundle_6 kw745 calX11_isNode kw747 ks30 (L10_0 H0) rfl (by decide) (Nat.le_of_ble_eq_true rfl) (ctX11_isNode H0) ?_
    refine V_ifB_eq (pc := 9) (tgt := 16) dX11_isBundle_9 (by decide) (fun c4 => ?_) (fun c4 => ?_)
    · have h := ite_f c4 h
      refine V_iconst (pc := 16) (x := 0) dX11_isBundle_16 (by decide) ?_
      subst h
      exact V_ret (pc := 17) dX11_isBundle_17 ⟨rfl, _, rfl, rfl⟩ ⟨rfl, rfl, rfl⟩
    · have h := ite_p c4 h
      refine V_iconst (pc := 12) (x := 1) dX11_isBundle_12 (by decide) ?_
      refine V_goto (pc := 13) (tgt := 17) dX11_isBundle_13 (by decide) ?_
      subst h
      exact V_ret (pc := 17) dX11_isBundle_17 ⟨rfl, _, rfl, rfl⟩ ⟨rfl, rfl, rfl⟩
theorem calX11_troubleOf : Cal yX11_troubleOf cX11_troubleOf 3 (some .int) 2 := ⟨kw878, kw1, by decide +kernel⟩
theorem ctX11_troubleOf {G : Gl} {σ : Sg} {d : Dt} {r0 : Nat} {r0h : Nat} {r0p : Nat} {v1 : Int32} {v2 : Int32} (H0 : L10 σ r0 r0h r0p) : CTv G yX11_troubleOf cX11_troubleOf 3 (some .int) 0 [.ref (gB G + r0), .int v1, .int v2] σ d [.int (mX11_troubleOf r0 r0h r0p v1 v2 d)] d := by
  refine CT_of pn_RX11 (Nat.le_of_ble_eq_true rfl) ?_
  generalize h : mX11_troubleOf r0 r0h r0p v1 v2 d = rr
  rw [mX11_troubleOf] at h
  refine V_iload_n (pc := 0) 1 dX11_troubleOf_0 rfl rfl ?_
  refine V_if_ne (pc := 1) (tgt := 6) dX11_troubleOf_1 (by decide) (fun c1 => ?_) (fun c1 => ?_)
  · have h := ite_n c1 h
    refine V_iload_n (pc := 6) 2 dX11_troubleOf_6 rfl rfl ?_
    refine V_if_lt (pc := 7) (tgt := 23) dX11_troubleOf_7 (by decide) (fun c2 => ?_) (fun c2 => ?_)
    · have h := ite_p c2 h
      refine V_iconst (pc := 23) (x := 2) dX11_troubleOf_23 (by decide) ?_
      refine V_goto (pc := 24) (tgt := 28) dX11_troubleOf_24 (by decide) ?_
      subst h
      exact V_ret (pc := 28) dX11_troubleOf_28 ⟨rfl, _, rfl⟩ ⟨rfl, rfl, rfl⟩
    · have h := ite_n c2 h
      refine V_iload_n (pc := 10) 2 dX11_troubleOf_10 rfl rfl ?_
      refine V_iconst (pc := 11) (x := 1) dX11_troubleOf_11 (by decide) ?_
      refine V_aload_n (pc := 12) 0 dX11_troubleOf_12 rfl rfl ?_
      refine V_getR (pc := 13) (c := 10) (k := 2) dX11_troubleOf_13 (by decide) (by decide) kw356 rfl rfl (L10_0 H0) (L10_r2 H0) ?_
      refine V_getI (pc := 16) (c := 4) (k := 2) dX11_troubleOf_16 (by decide) (by decide) kw227 rfl rfl (L4_0 (L10_o2 H0)) ?_
      refine V_ishl (pc := 19) dX11_troubleOf_19 ?_
      refine V_icmp_lt (pc := 20) (tgt := 27) dX11_troubleOf_20 (by decide) (fun c3 => ?_) (fun c3 => ?_)
      · have h := ite_p c3 h
        refine V_iconst (pc := 27) (x := 0) dX11_troubleOf_27 (by decide) ?_
        subst h
        exact V_ret (pc := 28) dX11_troubleOf_28 ⟨rfl, _, rfl⟩ ⟨rfl, rfl, rfl⟩
      · have h := ite_n c3 h
        refine V_iconst (pc := 23) (x := 2) dX11_troubleOf_23 (by decide) ?_
        refine V_goto (pc := 24) (tgt := 28) dX11_troubleOf_24 (by decide) ?_
        subst h
        exact V_ret (pc := 28) dX11_troubleOf_28 ⟨rfl, _, rfl⟩ ⟨rfl, rfl, rfl⟩
  · have h := ite_p c1 h
    refine V_iconst (pc := 4) (x := 1) dX11_troubleOf_4 (by decide) ?_
    subst h
    exact V_ret (pc := 5) dX11_troubleOf_5 ⟨rfl, _, rfl⟩ ⟨rfl, rfl, rfl⟩
theorem calX10_has : Cal yX10_has cX10_has 2 (some .boolean) 2 := ⟨kw677, kw18, by decide +kernel⟩
theorem ctX10_has {G : Gl} {σ : Sg} {d : Dt} {v0 : Int32} {v1 : Int32} : CTv G yX10_has cX10_has 2 (some .boolean) 0 [.int v0, .int v1] σ d [.int (b2i (mX10_has v0 v1))] d := by
  refine CT_of pn_RX10 (Nat.le_of_ble_eq_true rfl) ?_
  generalize h : mX10_has v0 v1 = rr
  rw [mX10_has] at h
  refine V_iload_n (pc := 0) 0 dX10_has_0 rfl rfl ?_
  refine V_iload_n (pc := 1) 1 dX10_has_1 rfl rfl ?_
  refine V_ishr (pc := 2) dX10_has_2 ?_
  refine V_iconst (pc := 3) (x := 1) dX10_has_3 (by decide) ?_
  refine V_iand (pc := 4) dX10_has_4 ?_
  refine V_iconst (pc := 5) (x := 1) dX10_has_5 (by decide) ?_
  refine V_icmp_ne (pc := 6) (tgt := 13) dX10_has_6 (by decide) (fun c1 => ?_) (fun c1 => ?_)
  · have h := ite_n c1 h
    refine V_iconst (pc := 13) (x := 0) dX10_has_13 (by decide) ?_
    subst h
    exact V_ret (pc := 14) dX10_has_14 ⟨rfl, _, rfl, rfl⟩ ⟨rfl, rfl, rfl⟩
  · have h := ite_p c1 h
    refine V_iconst (pc := 9) (x := 1) dX10_has_9 (by decide) ?_
    refine V_goto (pc := 10) (tgt := 14) dX10_has_10 (by decide) ?_
    subst h
    exact V_ret (pc := 14) dX10_has_14 ⟨rfl, _, rfl, rfl⟩ ⟨rfl, rfl, rfl⟩
theorem calX10_isThere : Cal yX10_isThere cX10_isThere 3 (some .boolean) 3 := ⟨kw884, kw18, by decide +kernel⟩
theorem ctX10_isThere {G : Gl} {σ : Sg} {d : Dt} {v0 : Int32} {v1 : Int32} {v2 : Int32} : CTv G yX10_isThere cX10_isThere 3 (some .boolean) 1 [.int v0, .int v1, .int v2] σ d [.int (b2i (mX10_isThere v0 v1 v2))] d := by
  refine CT_of pn_RX10 (Nat.le_of_ble_eq_true rfl) ?_
  generalize h : mX10_isThere v0 v1 v2 = rr
  rw [mX10_isThere] at h
  refine V_iload_n (pc := 0) 0 dX10_isThere_0 rfl rfl ?_
  refine V_if_lt (pc := 1) (tgt := 22) dX10_isThere_1 (by decide) (fun c1 => ?_) (fun c1 => ?_)
  · have h := ite_p c1 h
    refine V_iconst (pc := 22) (x := 1) dX10_isThere_22 (by decide) ?_
    refine V_goto (pc := 23) (tgt := 27) dX10_isThere_23 (by decide) ?_
    subst h
    exact V_ret (pc := 27) dX10_isThere_27 ⟨rfl, _, rfl, rfl⟩ ⟨rfl, rfl, rfl⟩
  · have h := ite_n c1 h
    refine V_iload_n (pc := 4) 2 dX10_isThere_4 rfl rfl ?_
    refine V_iload_n (pc := 5) 0 dX10_isThere_5 rfl rfl ?_
    refine V_cS2 (pc := 6) dX10_isThere_6 kw885 calX10_has kw676 (by decide) (Nat.le_of_ble_eq_true rfl) (ctX10_has) ?_
    refine V_iload_n (pc := 9) 1 dX10_isThere_9 rfl rfl ?_
    refine V_iconst (pc := 10) (x := 1) dX10_isThere_10 (by decide) ?_
    refine V_icmp_ne (pc := 11) (tgt := 18) dX10_isThere_11 (by decide) (fun c4 => ?_) (fun c4 => ?_)
    · have h := ite_n c4 h
      refine V_iconst (pc := 18) (x := 0) dX10_isThere_18 (by decide) ?_
      refine V_icmp_ne (pc := 19) (tgt := 26) dX10_isThere_19 (by decide) (fun c5 => ?_) (fun c5 => ?_)
      · have h := ite_n c5 h
        refine V_iconst (pc := 26) (x := 0) dX10_isThere_26 (by decide) ?_
        subst h
        exact V_ret (pc := 27) dX10_isThere_27 ⟨rfl, _, rfl, rfl⟩ ⟨rfl, rfl, rfl⟩
      · have h := ite_p c5 h
        refine V_iconst (pc := 22) (x := 1) dX10_isThere_22 (by decide) ?_
        refine V_goto (pc := 23) (tgt := 27) dX10_isThere_23 (by decide) ?_
        subst h
        exact V_ret (pc := 27) dX10_isThere_27 ⟨rfl, _, rfl, rfl⟩ ⟨rfl, rfl, rfl⟩
    · have h := ite_p c4 h
      refine V_iconst (pc := 14) (x := 1) dX10_isThere_14 (by decide) ?_
      refine V_goto (pc := 15) (tgt := 19) dX10_isThere_15 (by decide) ?_
      refine V_icmp_ne (pc := 19) (tgt := 26) dX10_isThere_19 (by decide) (fun c6 => ?_) (fun c6 => ?_)
      · have h := ite_n c6 h
        refine V_iconst (pc := 26) (x := 0) dX10_isThere_26 (by decide) ?_
        subst h
        exact V_ret (pc := 27) dX10_isThere_27 ⟨rfl, _, rfl, rfl⟩ ⟨rfl, rfl, rfl⟩
      · have h := ite_p c6 h
        refine V_iconst (pc := 22) (x := 1) dX10_isThere_22 (by decide) ?_
        refine V_goto (pc := 23) (tgt := 27) dX10_isThere_23 (by decide) ?_
        subst h
        exact V_ret (pc := 27) dX10_isThere_27 ⟨rfl, _, rfl, rfl⟩ ⟨rfl, rfl, rfl⟩
theorem wX10_pinsThere_32 {G : Gl} {σ : Sg} {d : Dt} {r0 : Nat} {v1 : Int32} {v2 : Int32} {r3 : Nat} {rr : Int32} (H0 : L4 σ r0) (H3 : L5 σ r3) : ∀ (n : Nat) (v4 : Int32) (v5 : Int32), mX10_pinsThere_32 d r0 v1 v2 r3 n v4 v5 = some rr → V G yX10_pinsThere cX10_pinsThere 7 (some .int) 2 0 0 (PH [.int rr] σ d) 32 [(0, .ref (gB G + r0)), (1, .int v1), (2, .int v2), (3, .ref (gB G + r3)), (4, .int v4), (5, .int v5)] [] σ d := by
  intro n
  induction n with
  | zero =>
    intro v4 v5
    intros
    rename_i h
    exact absurd h (by rw [mX10_pinsThere_32]; exact fun q => nomatch q)
  | succ n ih =>
    intro v4 v5 h
    rw [mX10_pinsThere_32] at h
    refine V_iload (pc := 32) 5 dX10_pinsThere_32 rfl ?_
    refine V_aload_n (pc := 34) 3 dX10_pinsThere_34 rfl rfl ?_
    refine V_getR (pc := 35) (c := 5) (k := 3) dX10_pinsThere_35 (by decide) (by decide) kw153 rfl rfl (L5_0 H3) (L5_r3 H3) ?_
    refine V_iload_n (pc := 38) 2 dX10_pinsThere_38 rfl rfl ?_
    obtain ⟨b6, h⟩ := ite_o h
    refine V_iald (pc := 39) dX10_pinsThere_39 (L5_s3 H3) (inB_vp b6) ?_
    refine V_icmp_ge (pc := 40) (tgt := 96) dX10_pinsThere_40 (by decide) (fun c7 => ?_) (fun c7 => ?_)
    · have h := ite_p c7 h
      refine V_iload (pc := 96) 4 dX10_pinsThere_96 rfl ?_
      cases h
      exact V_ret (pc := 98) dX10_pinsThere_98 ⟨rfl, _, rfl⟩ ⟨rfl, rfl, rfl⟩
    · have h := ite_n c7 h
      refine V_aload_n (pc := 43) 3 dX10_pinsThere_43 rfl rfl ?_
      refine V_getR (pc := 44) (c := 5) (k := 7) dX10_pinsThere_44 (by decide) (by decide) kw166 rfl rfl (L5_0 H3) (L5_r7 H3) ?_
      refine V_iload_n (pc := 47) 2 dX10_pinsThere_47 rfl rfl ?_
      obtain ⟨b8, h⟩ := ite_o h
      refine V_aald (pc := 48) dX10_pinsThere_48 (⟨L5_s7 H3, L5_g7 H3⟩ : GR σ _ _ _).1 (inB_vp b8) ((⟨L5_s7 H3, L5_g7 H3⟩ : GR σ _ _ _).2 _ (inB_lt b8)).1 ?_
      refine V_iload (pc := 49) 5 dX10_pinsThere_49 rfl ?_
      obtain ⟨b9, h⟩ := ite_o h
      refine V_iald (pc := 51) dX10_pinsThere_51 ((⟨L5_s7 H3, L5_g7 H3⟩ : GR σ _ _ _).2 _ (inB_lt b8)).2 (inB_vp b9) ?_
      refine V_istore (pc := 52) (lv1 := [(6, _), (0, _), (1, _), (2, _), (3, _), (4, _), (5, _)]) dX10_pinsThere_52 (by decide) rfl ?_
      refine V_aload_n (pc := 54) 1 dX10_pinsThere_54 rfl rfl ?_
      refine V_getR (pc := 55) (c := 4) (k := 7) dX10_pinsThere_55 (by decide) (by decide) kw237 rfl rfl (L4_0 H0) (L4_r7 H0) ?_
      refine V_getR (pc := 58) (c := 6) (k := 5) dX10_pinsThere_58 (by decide) (by decide) kw110 rfl rfl (L6_0 (L4_o7 H0)) (L6_r5 (L4_o7 H0)) ?_
      refine V_iload (pc := 61) 0 dX10_pinsThere_61 rfl ?_
      obtain ⟨b10, h⟩ := ite_o h
      refine V_iald (pc := 63) dX10_pinsThere_63 (L6_s5 (L4_o7 H0)) (inB_vp b10) ?_
      refine V_aload_n (pc := 64) 1 dX10_pinsThere_64 rfl rfl ?_
      refine V_getR (pc := 65) (c := 4) (k := 7) dX10_pinsThere_65 (by decide) (by decide) kw237 rfl rfl (L4_0 H0) (L4_r7 H0) ?_
      refine V_getR (pc := 68) (c := 6) (k := 6) dX10_pinsThere_68 (by decide) (by decide) kw113 rfl rfl (L6_0 (L4_o7 H0)) (L6_r6 (L4_o7 H0)) ?_
      refine V_iload (pc := 71) 0 dX10_pinsThere_71 rfl ?_
      obtain ⟨b11, h⟩ := ite_o h
      refine V_iald (pc := 73) dX10_pinsThere_73 (L6_s6 (L4_o7 H0)) (inB_vp b11) ?_
      refine V_iload_n (pc := 74) 2 dX10_pinsThere_74 rfl rfl ?_
      refine V_cS3 (pc := 75) dX10_pinsThere_75 kw882 calX10_isThere kw883 (by decide) (Nat.le_of_ble_eq_true rfl) (ctX10_isThere) ?_
      refine V_ifB_eq (pc := 78) (tgt := 90) dX10_pinsThere_78 (by decide) (fun c14 => ?_) (fun c14 => ?_)
      · have h := ite_f c14 h
        refine V_iinc (pc := 90) (lv1 := [(5, _), (6, _), (0, _), (1, _), (2, _), (3, _), (4, _)]) (z := _ + (1 : Int32)) 6 dX10_pinsThere_90 rfl rfl (by decide) rfl ?_
        refine V_goto (pc := 93) (tgt := 32) dX10_pinsThere_93 (by decide) ?_
        exact V_sub [2, 3, 4, 5, 6, 0] rfl (ih v4 (v5 + (1 : Int32)) h)
      · have h := ite_p c14 h
        refine V_iload (pc := 81) 5 dX10_pinsThere_81 rfl ?_
        refine V_iconst (pc := 83) (x := 1) dX10_pinsThere_83 (by decide) ?_
        refine V_iload (pc := 84) 6 dX10_pinsThere_84 rfl ?_
        refine V_ishl (pc := 86) dX10_pinsThere_86 ?_
        refine V_ior (pc := 87) dX10_pinsThere_87 ?_
        refine V_istore (pc := 88) (lv1 := [(4, _), (6, _), (0, _), (1, _), (2, _), (3, _), (5, _)]) dX10_pinsThere_88 (by decide) rfl ?_
        refine V_iinc (pc := 90) (lv1 := [(5, _), (4, _), (6, _), (0, _), (1, _), (2, _), (3, _)]) (z := _ + (1 : Int32)) 6 dX10_pinsThere_90 rfl rfl (by decide) rfl ?_
        refine V_goto (pc := 93) (tgt := 32) dX10_pinsThere_93 (by decide) ?_
        exact V_sub [3, 4, 5, 6, 1, 0] rfl (ih (v4 ||| ((1 : Int32) <<< (v5 &&& 31))) (v5 + (1 : Int32)) h)
theorem calX10_pinsThere : Cal yX10_pinsThere cX10_pinsThere 7 (some .int) 3 := ⟨kw892, kw18, by decide +kernel⟩
theorem ctX10_pinsThere {G : Gl} {σ : Sg} {d : Dt} {r0 : Nat} {v1 : Int32} {v2 : Int32} {rr : Int32} (H0 : L4 σ r0) (h : mX10_pinsThere r0 v1 v2 d = some rr) : CTv G yX10_pinsThere cX10_pinsThere 7 (some .int) 2 [.ref (gB G + r0), .int v1, .int v2] σ d [.int rr] d := by
  refine CT_of pn_RX10 (Nat.le_of_ble_eq_true rfl) ?_
  rw [mX10_pinsThere] at h
  refine V_aload_n (pc := 0) 0 dX10_pinsThere_0 rfl rfl ?_
  refine V_getR (pc := 1) (c := 4) (k := 8) dX10_pinsThere_1 (by decide) (by decide) kw245 rfl rfl (L4_0 H0) (L4_r8 H0) ?_
  refine V_astore_n (pc := 4) (lv1 := [(3, _), (0, _), (1, _), (2, _)]) dX10_pinsThere_4 rfl (by decide) rfl ?_
  refine V_aload_n (pc := 5) 0 dX10_pinsThere_5 rfl rfl ?_
  refine V_getR (pc := 6) (c := 5) (k := 4) dX10_pinsThere_6 (by decide) (by decide) kw156 rfl rfl (L5_0 (L4_o8 H0)) (L5_r4 (L4_o8 H0)) ?_
  refine V_iload_n (pc := 9) 3 dX10_pinsThere_9 rfl rfl ?_
  obtain ⟨b1, h⟩ := ite_o h
  refine V_iald (pc := 10) dX10_pinsThere_10 (L5_s4 (L4_o8 H0)) (inB_vp b1) ?_
  refine V_aload_n (pc := 11) 0 dX10_pinsThere_11 rfl rfl ?_
  refine V_getR (pc := 12) (c := 5) (k := 5) dX10_pinsThere_12 (by decide) (by decide) kw159 rfl rfl (L5_0 (L4_o8 H0)) (L5_r5 (L4_o8 H0)) ?_
  refine V_iload_n (pc := 15) 3 dX10_pinsThere_15 rfl rfl ?_
  obtain ⟨b2, h⟩ := ite_o h
  refine V_iald (pc := 16) dX10_pinsThere_16 (L5_s5 (L4_o8 H0)) (inB_vp b2) ?_
  refine V_iload_n (pc := 17) 2 dX10_pinsThere_17 rfl rfl ?_
  refine V_cS3 (pc := 18) dX10_pinsThere_18 kw882 calX10_isThere kw883 (by decide) (Nat.le_of_ble_eq_true rfl) (ctX10_isThere) ?_
  refine V_ifB_ne (pc := 21) (tgt := 26) dX10_pinsThere_21 (by decide) (fun c5 => ?_) (fun c5 => ?_)
  · have h := ite_p c5 h
    refine V_iconst (pc := 26) (x := 0) dX10_pinsThere_26 (by decide) ?_
    refine V_istore (pc := 27) (lv1 := [(4, _), (3, _), (0, _), (1, _), (2, _)]) dX10_pinsThere_27 (by decide) rfl ?_
    refine V_iconst (pc := 29) (x := 0) dX10_pinsThere_29 (by decide) ?_
    refine V_istore (pc := 30) (lv1 := [(5, _), (4, _), (3, _), (0, _), (1, _), (2, _)]) dX10_pinsThere_30 (by decide) rfl ?_
    exact V_sub [3, 4, 5, 2, 1, 0] rfl (wX10_pinsThere_32 H0 (L4_o8 H0) FUEL (0 : Int32) (0 : Int32) h)
  · have h := ite_f c5 h
    refine V_iconst (pc := 24) (x := 0) dX10_pinsThere_24 (by decide) ?_
    cases h
    exact V_ret (pc := 25) dX10_pinsThere_25 ⟨rfl, _, rfl⟩ ⟨rfl, rfl, rfl⟩
theorem calJ6_bitCount_0f7a4 : Cal yJ6_bitCount_0f7a4 cJ6_bitCount_0f7a4 1 (some .int) 1 := ⟨kw902, kw19, by decide +kernel⟩
theorem ctJ6_bitCount_0f7a4 {G : Gl} {σ : Sg} {d : Dt} {v0 : Int32} : CTv G yJ6_bitCount_0f7a4 cJ6_bitCount_0f7a4 1 (some .int) 0 [.int v0] σ d [.int (mJ6_bitCount_0f7a4 v0)] d := by
  refine CT_of pn_RJ6 (Nat.le_of_ble_eq_true rfl) ?_
  generalize h : mJ6_bitCount_0f7a4 v0 = rr
  rw [mJ6_bitCount_0f7a4] at h
  refine V_iload_n (pc := 0) 0 dJ6_bitCount_0f7a4_0 rfl rfl ?_
  refine V_iload_n (pc := 1) 0 dJ6_bitCount_0f7a4_1 rfl rfl ?_
  refine V_iconst (pc := 2) (x := 1) dJ6_bitCount_0f7a4_2 (by decide) ?_
  refine V_iushr (pc := 3) dJ6_bitCount_0f7a4_3 ?_
  refine V_ldcw (pc := 4) dJ6_bitCount_0f7a4_4 kw903 ?_
  refine V_iand (pc := 7) dJ6_bitCount_0f7a4_7 ?_
  refine V_isub (pc := 8) dJ6_bitCount_0f7a4_8 ?_
  refine V_istore_n (pc := 9) (lv1 := [(0, _)]) dJ6_bitCount_0f7a4_9 rfl (by decide) rfl ?_
  refine V_iload_n (pc := 10) 0 dJ6_bitCount_0f7a4_10 rfl rfl ?_
  refine V_ldcw (pc := 11) dJ6_bitCount_0f7a4_11 kw904 ?_
  refine V_iand (pc := 14) dJ6_bitCount_0f7a4_14 ?_
  refine V_iload_n (pc := 15) 0 dJ6_bitCount_0f7a4_15 rfl rfl ?_
  refine V_iconst (pc := 16) (x := 2) dJ6_bitCount_0f7a4_16 (by decide) ?_
  refine V_iushr (pc := 17) dJ6_bitCount_0f7a4_17 ?_
  refine V_ldcw (pc := 18) dJ6_bitCount_0f7a4_18 kw904 ?_
  refine V_iand (pc := 21) dJ6_bitCount_0f7a4_21 ?_
  refine V_iadd (pc := 22) dJ6_bitCount_0f7a4_22 ?_
  refine V_istore_n (pc := 23) (lv1 := [(0, _)]) dJ6_bitCount_0f7a4_23 rfl (by decide) rfl ?_
  refine V_iload_n (pc := 24) 0 dJ6_bitCount_0f7a4_24 rfl rfl ?_
  refine V_iload_n (pc := 25) 0 dJ6_bitCount_0f7a4_25 rfl rfl ?_
  refine V_iconst (pc := 26) (x := 4) dJ6_bitCount_0f7a4_26 (by decide) ?_
  refine V_iushr (pc := 27) dJ6_bitCount_0f7a4_27 ?_
  refine V_iadd (pc := 28) dJ6_bitCount_0f7a4_28 ?_
  refine V_ldcw (pc := 29) dJ6_bitCount_0f7a4_29 kw905 ?_
  refine V_iand (pc := 32) dJ6_bitCount_0f7a4_32 ?_
  refine V_istore_n (pc := 33) (lv1 := [(0, _)]) dJ6_bitCount_0f7a4_33 rfl (by decide) rfl ?_
  refine V_iload_n (pc := 34) 0 dJ6_bitCount_0f7a4_34 rfl rfl ?_
  refine V_iload_n (pc := 35) 0 dJ6_bitCount_0f7a4_35 rfl rfl ?_
  refine V_bipush (pc := 36) (x := 8) dJ6_bitCount_0f7a4_36 (by decide) ?_
  refine V_iushr (pc := 38) dJ6_bitCount_0f7a4_38 ?_
  refine V_iadd (pc := 39) dJ6_bitCount_0f7a4_39 ?_
  refine V_istore_n (pc := 40) (lv1 := [(0, _)]) dJ6_bitCount_0f7a4_40 rfl (by decide) rfl ?_
  refine V_iload_n (pc := 41) 0 dJ6_bitCount_0f7a4_41 rfl rfl ?_
  refine V_iload_n (pc := 42) 0 dJ6_bitCount_0f7a4_42 rfl rfl ?_
  refine V_bipush (pc := 43) (x := 16) dJ6_bitCount_0f7a4_43 (by decide) ?_
  refine V_iushr (pc := 45) dJ6_bitCount_0f7a4_45 ?_
  refine V_iadd (pc := 46) dJ6_bitCount_0f7a4_46 ?_
  refine V_istore_n (pc := 47) (lv1 := [(0, _)]) dJ6_bitCount_0f7a4_47 rfl (by decide) rfl ?_
  refine V_iload_n (pc := 48) 0 dJ6_bitCount_0f7a4_48 rfl rfl ?_
  refine V_bipush (pc := 49) (x := 63) dJ6_bitCount_0f7a4_49 (by decide) ?_
  refine V_iand (pc := 51) dJ6_bitCount_0f7a4_51 ?_
  subst h
  exact V_ret (pc := 52) dJ6_bitCount_0f7a4_52 ⟨rfl, _, rfl⟩ ⟨rfl, rfl, rfl⟩
theorem calX10_countFor : Cal yX10_countFor cX10_countFor 2 (some .int) 1 := ⟨kw923, kw18, by decide +kernel⟩
theorem ctX10_countFor {G : Gl} {σ : Sg} {d : Dt} {v0 : Int32} : CTv G yX10_countFor cX10_countFor 2 (some .int) 1 [.int v0] σ d [.int (mX10_countFor v0)] d := by
  refine CT_of pn_RX10 (Nat.le_of_ble_eq_true rfl) ?_
  generalize h : mX10_countFor v0 = rr
  rw [mX10_countFor] at h
  refine V_iload_n (pc := 0) 0 dX10_countFor_0 rfl rfl ?_
  refine V_cS1 (pc := 1) dX10_countFor_1 kw900 calJ6_bitCount_0f7a4 kw901 (by decide) (Nat.le_of_ble_eq_true rfl) (ctJ6_bitCount_0f7a4) ?_
  refine V_istore_n (pc := 4) (lv1 := [(1, _), (0, _)]) dX10_countFor_4 rfl (by decide) rfl ?_
  refine V_iload_n (pc := 5) 0 dX10_countFor_5 rfl rfl ?_
  refine V_iconst (pc := 6) (x := 2) dX10_countFor_6 (by decide) ?_
  refine V_icmp_ge (pc := 7) (tgt := 14) dX10_countFor_7 (by decide) (fun c3 => ?_) (fun c3 => ?_)
  · have h := ite_p c3 h
    refine V_iload_n (pc := 14) 0 dX10_countFor_14 rfl rfl ?_
    refine V_iconst (pc := 15) (x := 2) dX10_countFor_15 (by decide) ?_
    refine V_icmp_ne (pc := 16) (tgt := 23) dX10_countFor_16 (by decide) (fun c4 => ?_) (fun c4 => ?_)
    · have h := ite_n c4 h
      refine V_iload_n (pc := 23) 0 dX10_countFor_23 rfl rfl ?_
      subst h
      exact V_ret (pc := 24) dX10_countFor_24 ⟨rfl, _, rfl⟩ ⟨rfl, rfl, rfl⟩
    · have h := ite_p c4 h
      refine V_iconst (pc := 19) (x := 1) dX10_countFor_19 (by decide) ?_
      refine V_goto (pc := 20) (tgt := 24) dX10_countFor_20 (by decide) ?_
      subst h
      exact V_ret (pc := 24) dX10_countFor_24 ⟨rfl, _, rfl⟩ ⟨rfl, rfl, rfl⟩
  · have h := ite_n c3 h
    refine V_iconst (pc := 10) (x := 0) dX10_countFor_10 (by decide) ?_
    refine V_goto (pc := 11) (tgt := 24) dX10_countFor_11 (by decide) ?_
    subst h
    exact V_ret (pc := 24) dX10_countFor_24 ⟨rfl, _, rfl⟩ ⟨rfl, rfl, rfl⟩
theorem calX10_needsSplice : Cal yX10_needsSplice cX10_needsSplice 1 (some .boolean) 1 := ⟨kw899, kw18, by decide +kernel⟩
theorem ctX10_needsSplice {G : Gl} {σ : Sg} {d : Dt} {v0 : Int32} : CTv G yX10_needsSplice cX10_needsSplice 1 (some .boolean) 1 [.int v0] σ d [.int (b2i (mX10_needsSplice v0))] d := by
  refine CT_of pn_RX10 (Nat.le_of_ble_eq_true rfl) ?_
  generalize h : mX10_needsSplice v0 = rr
  rw [mX10_needsSplice] at h
  refine V_iload_n (pc := 0) 0 dX10_needsSplice_0 rfl rfl ?_
  refine V_cS1 (pc := 1) dX10_needsSplice_1 kw900 calJ6_bitCount_0f7a4 kw901 (by decide) (Nat.le_of_ble_eq_true rfl) (ctJ6_bitCount_0f7a4) ?_
  refine V_iconst (pc := 4) (x := 2) dX10_needsSplice_4 (by decide) ?_
  refine V_icmp_le (pc := 5) (tgt := 12) dX10_needsSplice_5 (by decide) (fun c3 => ?_) (fun c3 => ?_)
  · have h := ite_p c3 h
    refine V_iconst (pc := 12) (x := 0) dX10_needsSplice_12 (by decide) ?_
    subst h
    exact V_ret (pc := 13) dX10_needsSplice_13 ⟨rfl, _, rfl, rfl⟩ ⟨rfl, rfl, rfl⟩
  · have h := ite_n c3 h
    refine V_iconst (pc := 8) (x := 1) dX10_needsSplice_8 (by decide) ?_
    refine V_goto (pc := 9) (tgt := 13) dX10_needsSplice_9 (by decide) ?_
    subst h
    exact V_ret (pc := 13) dX10_needsSplice_13 ⟨rfl, _, rfl, rfl⟩ ⟨rfl, rfl, rfl⟩
theorem wX10_firstNode_2 {G : Gl} {σ : Sg} {d : Dt} {r0 : Nat} {v1 : Int32} {v2 : Int32} {rr : Int32} (H0 : L4 σ r0) : ∀ (n : Nat) (v3 : Int32), mX10_firstNode_2 d r0 v1 v2 n v3 = some rr → V G yX10_firstNode cX10_firstNode 4 (some .int) 1 0 0 (PH [.int rr] σ d) 2 [(0, .ref (gB G + r0)), (1, .int v1), (2, .int v2), (3, .int v3)] [] σ d := by
  intro n
  induction n with
  | zero =>
    intro v3
    intros
    rename_i h
    exact absurd h (by rw [mX10_firstNode_2]; exact fun q => nomatch q)
  | succ n ih =>
    intro v3 h
    rw [mX10_firstNode_2] at h
    refine V_iload_n (pc := 2) 3 dX10_firstNode_2 rfl rfl ?_
    refine V_aload_n (pc := 3) 0 dX10_firstNode_3 rfl rfl ?_
    refine V_getR (pc := 4) (c := 4) (k := 8) dX10_firstNode_4 (by decide) (by decide) kw245 rfl rfl (L4_0 H0) (L4_r8 H0) ?_
    refine V_getR (pc := 7) (c := 5) (k := 3) dX10_firstNode_7 (by decide) (by decide) kw153 rfl rfl (L5_0 (L4_o8 H0)) (L5_r3 (L4_o8 H0)) ?_
    refine V_iload_n (pc := 10) 1 dX10_firstNode_10 rfl rfl ?_
    obtain ⟨b1, h⟩ := ite_o h
    refine V_iald (pc := 11) dX10_firstNode_11 (L5_s3 (L4_o8 H0)) (inB_vp b1) ?_
    refine V_icmp_ge (pc := 12) (tgt := 41) dX10_firstNode_12 (by decide) (fun c2 => ?_) (fun c2 => ?_)
    · have h := ite_p c2 h
      refine V_iconst (pc := 41) (x := 0) dX10_firstNode_41 (by decide) ?_
      cases h
      exact V_ret (pc := 42) dX10_firstNode_42 ⟨rfl, _, rfl⟩ ⟨rfl, rfl, rfl⟩
    · have h := ite_n c2 h
      refine V_iload_n (pc := 15) 2 dX10_firstNode_15 rfl rfl ?_
      refine V_iload_n (pc := 16) 3 dX10_firstNode_16 rfl rfl ?_
      refine V_cS2 (pc := 17) dX10_firstNode_17 kw885 calX10_has kw676 (by decide) (Nat.le_of_ble_eq_true rfl) (ctX10_has) ?_
      refine V_ifB_eq (pc := 20) (tgt := 35) dX10_firstNode_20 (by decide) (fun c5 => ?_) (fun c5 => ?_)
      · have h := ite_f c5 h
        refine V_iinc (pc := 35) (lv1 := [(3, _), (0, _), (1, _), (2, _)]) (z := _ + (1 : Int32)) 3 dX10_firstNode_35 rfl rfl (by decide) rfl ?_
        refine V_goto (pc := 38) (tgt := 2) dX10_firstNode_38 (by decide) ?_
        exact V_sub [1, 2, 3, 0] rfl (ih (v3 + (1 : Int32)) h)
      · have h := ite_p c5 h
        refine V_aload_n (pc := 23) 0 dX10_firstNode_23 rfl rfl ?_
        refine V_getR (pc := 24) (c := 4) (k := 8) dX10_firstNode_24 (by decide) (by decide) kw245 rfl rfl (L4_0 H0) (L4_r8 H0) ?_
        refine V_getR (pc := 27) (c := 5) (k := 9) dX10_firstNode_27 (by decide) (by decide) kw172 rfl rfl (L5_0 (L4_o8 H0)) (L5_r9 (L4_o8 H0)) ?_
        refine V_iload_n (pc := 30) 1 dX10_firstNode_30 rfl rfl ?_
        obtain ⟨b6, h⟩ := ite_o h
        refine V_aald (pc := 31) dX10_firstNode_31 (⟨L5_s9 (L4_o8 H0), L5_g9 (L4_o8 H0)⟩ : GR σ _ _ _).1 (inB_vp b6) ((⟨L5_s9 (L4_o8 H0), L5_g9 (L4_o8 H0)⟩ : GR σ _ _ _).2 _ (inB_lt b6)).1 ?_
        refine V_iload_n (pc := 32) 3 dX10_firstNode_32 rfl rfl ?_
        obtain ⟨b7, h⟩ := ite_o h
        refine V_iald (pc := 33) dX10_firstNode_33 ((⟨L5_s9 (L4_o8 H0), L5_g9 (L4_o8 H0)⟩ : GR σ _ _ _).2 _ (inB_lt b6)).2 (inB_vp b7) ?_
        cases h
        exact V_ret (pc := 34) dX10_firstNode_34 ⟨rfl, _, rfl⟩ ⟨rfl, rfl, rfl⟩
theorem calX10_firstNode : Cal yX10_firstNode cX10_firstNode 4 (some .int) 3 := ⟨kw912, kw18, by decide +kernel⟩
theorem ctX10_firstNode {G : Gl} {σ : Sg} {d : Dt} {r0 : Nat} {v1 : Int32} {v2 : Int32} {rr : Int32} (H0 : L4 σ r0) (h : mX10_firstNode r0 v1 v2 d = some rr) : CTv G yX10_firstNode cX10_firstNode 4 (some .int) 1 [.ref (gB G + r0), .int v1, .int v2] σ d [.int rr] d := by
  refine CT_of pn_RX10 (Nat.le_of_ble_eq_true rfl) ?_
  rw [mX10_firstNode] at h
  refine V_iconst (pc := 0) (x := 0) dX10_firstNode_0 (by decide) ?_
  refine V_istore_n (pc := 1) (lv1 := [(3, _), (0, _), (1, _), (2, _)]) dX10_firstNode_1 rfl (by decide) rfl ?_
  exact V_sub [1, 2, 3, 0] rfl (wX10_firstNode_2 H0 FUEL (0 : Int32) h)
theorem wX10_reachOf_6 {G : Gl} {σ : Sg} {d : Dt} {r0 : Nat} {v1 : Int32} {v2 : Int32} {v3 : Int32} {rr : Int32} (H0 : L4 σ r0) : ∀ (n : Nat) (v4 : Int32) (v5 : Int32), mX10_reachOf_6 d r0 v1 v2 v3 n v4 v5 = some rr → V G yX10_reachOf cX10_reachOf 6 (some .int) 1 0 0 (PH [.int rr] σ d) 6 [(0, .ref (gB G + r0)), (1, .int v1), (2, .int v2), (3, .int v3), (4, .int v4), (5, .int v5)] [] σ d := by
  intro n
  induction n with
  | zero =>
    intro v4 v5
    intros
    rename_i h
    exact absurd h (by rw [mX10_reachOf_6]; exact fun q => nomatch q)
  | succ n ih =>
    intro v4 v5 h
    rw [mX10_reachOf_6] at h
    refine V_iload (pc := 6) 5 dX10_reachOf_6 rfl ?_
    refine V_aload_n (pc := 8) 0 dX10_reachOf_8 rfl rfl ?_
    refine V_getR (pc := 9) (c := 4) (k := 8) dX10_reachOf_9 (by decide) (by decide) kw245 rfl rfl (L4_0 H0) (L4_r8 H0) ?_
    refine V_getR (pc := 12) (c := 5) (k := 3) dX10_reachOf_12 (by decide) (by decide) kw153 rfl rfl (L5_0 (L4_o8 H0)) (L5_r3 (L4_o8 H0)) ?_
    refine V_iload_n (pc := 15) 1 dX10_reachOf_15 rfl rfl ?_
    obtain ⟨b1, h⟩ := ite_o h
    refine V_iald (pc := 16) dX10_reachOf_16 (L5_s3 (L4_o8 H0)) (inB_vp b1) ?_
    refine V_icmp_ge (pc := 17) (tgt := 62) dX10_reachOf_17 (by decide) (fun c2 => ?_) (fun c2 => ?_)
    · have h := ite_p c2 h
      refine V_iload (pc := 62) 4 dX10_reachOf_62 rfl ?_
      cases h
      exact V_ret (pc := 64) dX10_reachOf_64 ⟨rfl, _, rfl⟩ ⟨rfl, rfl, rfl⟩
    · have h := ite_n c2 h
      refine V_iload_n (pc := 20) 2 dX10_reachOf_20 rfl rfl ?_
      refine V_iload (pc := 21) 5 dX10_reachOf_21 rfl ?_
      refine V_cS2 (pc := 23) dX10_reachOf_23 kw885 calX10_has kw676 (by decide) (Nat.le_of_ble_eq_true rfl) (ctX10_has) ?_
      refine V_ifB_eq (pc := 26) (tgt := 56) dX10_reachOf_26 (by decide) (fun c5 => ?_) (fun c5 => ?_)
      · have h := ite_f c5 h
        refine V_iinc (pc := 56) (lv1 := [(5, _), (0, _), (1, _), (2, _), (3, _), (4, _)]) (z := _ + (1 : Int32)) 5 dX10_reachOf_56 rfl rfl (by decide) rfl ?_
        refine V_goto (pc := 59) (tgt := 6) dX10_reachOf_59 (by decide) ?_
        exact V_sub [1, 2, 3, 4, 5, 0] rfl (ih v4 (v5 + (1 : Int32)) h)
      · have h := ite_p c5 h
        refine V_iload (pc := 29) 4 dX10_reachOf_29 rfl ?_
        refine V_aload_n (pc := 31) 0 dX10_reachOf_31 rfl rfl ?_
        refine V_getR (pc := 32) (c := 4) (k := 6) dX10_reachOf_32 (by decide) (by decide) kw234 rfl rfl (L4_0 H0) (L4_r6 H0) ?_
        refine V_getR (pc := 35) (c := 9) (k := 7) dX10_reachOf_35 (by decide) (by decide) kw64 rfl rfl (L9_0 (L4_o6 H0)) (L9_r7 (L4_o6 H0)) ?_
        refine V_iload_n (pc := 38) 3 dX10_reachOf_38 rfl rfl ?_
        obtain ⟨b6, h⟩ := ite_o h
        refine V_aald (pc := 39) dX10_reachOf_39 (⟨L9_s7 (L4_o6 H0), L9_g7 (L4_o6 H0)⟩ : GR σ _ _ _).1 (inB_vp b6) ((⟨L9_s7 (L4_o6 H0), L9_g7 (L4_o6 H0)⟩ : GR σ _ _ _).2 _ (inB_lt b6)).1 ?_
        refine V_aload_n (pc := 40) 0 dX10_reachOf_40 rfl rfl ?_
        refine V_getR (pc := 41) (c := 4) (k := 8) dX10_reachOf_41 (by decide) (by decide) kw245 rfl rfl (L4_0 H0) (L4_r8 H0) ?_
        refine V_getR (pc := 44) (c := 5) (k := 9) dX10_reachOf_44 (by decide) (by decide) kw172 rfl rfl (L5_0 (L4_o8 H0)) (L5_r9 (L4_o8 H0)) ?_
        refine V_iload_n (pc := 47) 1 dX10_reachOf_47 rfl rfl ?_
        obtain ⟨b7, h⟩ := ite_o h
        refine V_aald (pc := 48) dX10_reachOf_48 (⟨L5_s9 (L4_o8 H0), L5_g9 (L4_o8 H0)⟩ : GR σ _ _ _).1 (inB_vp b7) ((⟨L5_s9 (L4_o8 H0), L5_g9 (L4_o8 H0)⟩ : GR σ _ _ _).2 _ (inB_lt b7)).1 ?_
        refine V_iload (pc := 49) 5 dX10_reachOf_49 rfl ?_
        obtain ⟨b8, h⟩ := ite_o h
        refine V_iald (pc := 51) dX10_reachOf_51 ((⟨L5_s9 (L4_o8 H0), L5_g9 (L4_o8 H0)⟩ : GR σ _ _ _).2 _ (inB_lt b7)).2 (inB_vp b8) ?_
        obtain ⟨b9, h⟩ := ite_o h
        refine V_iald (pc := 52) dX10_reachOf_52 ((⟨L9_s7 (L4_o6 H0), L9_g7 (L4_o6 H0)⟩ : GR σ _ _ _).2 _ (inB_lt b6)).2 (inB_vp b9) ?_
        refine V_iadd (pc := 53) dX10_reachOf_53 ?_
        refine V_istore (pc := 54) (lv1 := [(4, _), (0, _), (1, _), (2, _), (3, _), (5, _)]) dX10_reachOf_54 (by decide) rfl ?_
        refine V_iinc (pc := 56) (lv1 := [(5, _), (4, _), (0, _), (1, _), (2, _), (3, _)]) (z := _ + (1 : Int32)) 5 dX10_reachOf_56 rfl rfl (by decide) rfl ?_
        refine V_goto (pc := 59) (tgt := 6) dX10_reachOf_59 (by decide) ?_
        exact V_sub [2, 3, 4, 5, 1, 0] rfl (ih (v4 + (d.1 ((r0 + 11) + v3.toNatClampNeg) (d.1 ((r0 + 62) + v1.toNatClampNeg) v5.toNatClampNeg).toNatClampNeg)) (v5 + (1 : Int32)) h)
theorem calX10_reachOf : Cal yX10_reachOf cX10_reachOf 6 (some .int) 4 := ⟨kw916, kw18, by decide +kernel⟩
theorem ctX10_reachOf {G : Gl} {σ : Sg} {d : Dt} {r0 : Nat} {v1 : Int32} {v2 : Int32} {v3 : Int32} {rr : Int32} (H0 : L4 σ r0) (h : mX10_reachOf r0 v1 v2 v3 d = some rr) : CTv G yX10_reachOf cX10_reachOf 6 (some .int) 1 [.ref (gB G + r0), .int v1, .int v2, .int v3] σ d [.int rr] d := by
  refine CT_of pn_RX10 (Nat.le_of_ble_eq_true rfl) ?_
  rw [mX10_reachOf] at h
  refine V_iconst (pc := 0) (x := 0) dX10_reachOf_0 (by decide) ?_
  refine V_istore (pc := 1) (lv1 := [(4, _), (0, _), (1, _), (2, _), (3, _)]) dX10_reachOf_1 (by decide) rfl ?_
  refine V_iconst (pc := 3) (x := 0) dX10_reachOf_3 (by decide) ?_
  refine V_istore (pc := 4) (lv1 := [(5, _), (4, _), (0, _), (1, _), (2, _), (3, _)]) dX10_reachOf_4 (by decide) rfl ?_
  exact V_sub [2, 3, 4, 5, 1, 0] rfl (wX10_reachOf_6 H0 FUEL (0 : Int32) (0 : Int32) h)
theorem wX10_hubOf_45 {G : Gl} {σ : Sg} {d : Dt} {r0 : Nat} {v1 : Int32} {v2 : Int32} {rr : Int32} (H0 : L4 σ r0) : ∀ (n : Nat) (v3 : Int32) (v4 : Int32) (v5 : Int32), mX10_hubOf_45 d r0 v1 v2 n v3 v4 v5 = some rr → V G yX10_hubOf cX10_hubOf 7 (some .int) 2 0 0 (PH [.int rr] σ d) 45 [(0, .ref (gB G + r0)), (1, .int v1), (2, .int v2), (3, .int v3), (4, .int v4), (5, .int v5)] [] σ d := by
  intro n
  induction n with
  | zero =>
    intro v3 v4 v5
    intros
    rename_i h
    exact absurd h (by rw [mX10_hubOf_45]; exact fun q => nomatch q)
  | succ n ih =>
    intro v3 v4 v5 h
    rw [mX10_hubOf_45] at h
    refine V_iload (pc := 45) 5 dX10_hubOf_45 rfl ?_
    refine V_aload_n (pc := 47) 0 dX10_hubOf_47 rfl rfl ?_
    refine V_getR (pc := 48) (c := 4) (k := 6) dX10_hubOf_48 (by decide) (by decide) kw234 rfl rfl (L4_0 H0) (L4_r6 H0) ?_
    refine V_getI (pc := 51) (c := 9) (k := 0) dX10_hubOf_51 (by decide) (by decide) kw50 rfl rfl (L9_0 (L4_o6 H0)) ?_
    refine V_icmp_ge (pc := 54) (tgt := 87) dX10_hubOf_54 (by decide) (fun c9 => ?_) (fun c9 => ?_)
    · have h := ite_p c9 h
      refine V_iload_n (pc := 87) 3 dX10_hubOf_87 rfl rfl ?_
      cases h
      exact V_ret (pc := 88) dX10_hubOf_88 ⟨rfl, _, rfl⟩ ⟨rfl, rfl, rfl⟩
    · have h := ite_n c9 h
      refine V_aload_n (pc := 57) 0 dX10_hubOf_57 rfl rfl ?_
      refine V_iload_n (pc := 58) 1 dX10_hubOf_58 rfl rfl ?_
      refine V_iload_n (pc := 59) 2 dX10_hubOf_59 rfl rfl ?_
      refine V_iload (pc := 60) 5 dX10_hubOf_60 rfl ?_
      obtain ⟨x11, h10, h⟩ := bnd h
      refine V_cS4 (pc := 62) dX10_hubOf_62 kw914 calX10_reachOf kw915 (by decide) (Nat.le_of_ble_eq_true rfl) (ctX10_reachOf H0 h10) ?_
      refine V_istore (pc := 65) (lv1 := [(6, _), (0, _), (1, _), (2, _), (3, _), (4, _), (5, _)]) dX10_hubOf_65 (by decide) rfl ?_
      refine V_iload (pc := 67) 0 dX10_hubOf_67 rfl ?_
      refine V_iload (pc := 69) 5 dX10_hubOf_69 rfl ?_
      refine V_icmp_ge (pc := 71) (tgt := 81) dX10_hubOf_71 (by decide) (fun c12 => ?_) (fun c12 => ?_)
      · have h := ite_p c12 h
        refine V_iinc (pc := 81) (lv1 := [(5, _), (6, _), (0, _), (1, _), (2, _), (3, _), (4, _)]) (z := _ + (1 : Int32)) 6 dX10_hubOf_81 rfl rfl (by decide) rfl ?_
        refine V_goto (pc := 84) (tgt := 45) dX10_hubOf_84 (by decide) ?_
        exact V_sub [2, 3, 4, 5, 6, 0] rfl (ih v3 v4 (v5 + (1 : Int32)) h)
      · have h := ite_n c12 h
        refine V_iload (pc := 74) 0 dX10_hubOf_74 rfl ?_
        refine V_istore (pc := 76) (lv1 := [(4, _), (6, _), (0, _), (1, _), (2, _), (3, _), (5, _)]) dX10_hubOf_76 (by decide) rfl ?_
        refine V_iload (pc := 78) 6 dX10_hubOf_78 rfl ?_
        refine V_istore_n (pc := 80) (lv1 := [(3, _), (4, _), (6, _), (0, _), (1, _), (2, _), (5, _)]) dX10_hubOf_80 rfl (by decide) rfl ?_
        refine V_iinc (pc := 81) (lv1 := [(5, _), (3, _), (4, _), (6, _), (0, _), (1, _), (2, _)]) (z := _ + (1 : Int32)) 6 dX10_hubOf_81 rfl rfl (by decide) rfl ?_
        refine V_goto (pc := 84) (tgt := 45) dX10_hubOf_84 (by decide) ?_
        exact V_sub [4, 5, 6, 1, 2, 0] rfl (ih v5 x11 (v5 + (1 : Int32)) h)
theorem calX10_hubOf : Cal yX10_hubOf cX10_hubOf 7 (some .int) 3 := ⟨kw908, kw18, by decide +kernel⟩
theorem ctX10_hubOf {G : Gl} {σ : Sg} {d : Dt} {r0 : Nat} {v1 : Int32} {v2 : Int32} {rr : Int32} (H0 : L4 σ r0) (h : mX10_hubOf r0 v1 v2 d = some rr) : CTv G yX10_hubOf cX10_hubOf 7 (some .int) 2 [.ref (gB G + r0), .int v1, .int v2] σ d [.int rr] d := by
  refine CT_of pn_RX10 (Nat.le_of_ble_eq_true rfl) ?_
  rw [mX10_hubOf] at h
  refine V_iload_n (pc := 0) 2 dX10_hubOf_0 rfl rfl ?_
  refine V_cS1 (pc := 1) dX10_hubOf_1 kw909 calX10_needsSplice kw898 (by decide) (Nat.le_of_ble_eq_true rfl) (ctX10_needsSplice) ?_
  refine V_ifB_ne (pc := 4) (tgt := 14) dX10_hubOf_4 (by decide) (fun c3 => ?_) (fun c3 => ?_)
  · have h := ite_p c3 h
    refine V_aload_n (pc := 14) 0 dX10_hubOf_14 rfl rfl ?_
    refine V_getR (pc := 15) (c := 4) (k := 8) dX10_hubOf_15 (by decide) (by decide) kw245 rfl rfl (L4_0 H0) (L4_r8 H0) ?_
    refine V_getR (pc := 18) (c := 5) (k := 6) dX10_hubOf_18 (by decide) (by decide) kw162 rfl rfl (L5_0 (L4_o8 H0)) (L5_r6 (L4_o8 H0)) ?_
    refine V_iload_n (pc := 21) 1 dX10_hubOf_21 rfl rfl ?_
    obtain ⟨b4, h⟩ := ite_o h
    refine V_iald (pc := 22) dX10_hubOf_22 (L5_s6 (L4_o8 H0)) (inB_vp b4) ?_
    refine V_if_lt (pc := 23) (tgt := 36) dX10_hubOf_23 (by decide) (fun c5 => ?_) (fun c5 => ?_)
    · have h := ite_p c5 h
      refine V_iconst (pc := 36) (x := 0) dX10_hubOf_36 (by decide) ?_
      refine V_istore_n (pc := 37) (lv1 := [(3, _), (0, _), (1, _), (2, _)]) dX10_hubOf_37 rfl (by decide) rfl ?_
      refine V_ldc (pc := 38) dX10_hubOf_38 kw913 ?_
      refine V_istore (pc := 40) (lv1 := [(4, _), (3, _), (0, _), (1, _), (2, _)]) dX10_hubOf_40 (by decide) rfl ?_
      refine V_iconst (pc := 42) (x := 0) dX10_hubOf_42 (by decide) ?_
      refine V_istore (pc := 43) (lv1 := [(5, _), (4, _), (3, _), (0, _), (1, _), (2, _)]) dX10_hubOf_43 (by decide) rfl ?_
      exact V_sub [3, 4, 5, 2, 1, 0] rfl (wX10_hubOf_45 H0 FUEL (0 : Int32) (2147483647 : Int32) (0 : Int32) h)
    · have h := ite_n c5 h
      refine V_aload_n (pc := 26) 0 dX10_hubOf_26 rfl rfl ?_
      refine V_getR (pc := 27) (c := 4) (k := 8) dX10_hubOf_27 (by decide) (by decide) kw245 rfl rfl (L4_0 H0) (L4_r8 H0) ?_
      refine V_getR (pc := 30) (c := 5) (k := 6) dX10_hubOf_30 (by decide) (by decide) kw162 rfl rfl (L5_0 (L4_o8 H0)) (L5_r6 (L4_o8 H0)) ?_
      refine V_iload_n (pc := 33) 1 dX10_hubOf_33 rfl rfl ?_
      obtain ⟨b6, h⟩ := ite_o h
      refine V_iald (pc := 34) dX10_hubOf_34 (L5_s6 (L4_o8 H0)) (inB_vp b6) ?_
      cases h
      exact V_ret (pc := 35) dX10_hubOf_35 ⟨rfl, _, rfl⟩ ⟨rfl, rfl, rfl⟩
  · have h := ite_f c3 h
    refine V_aload_n (pc := 7) 0 dX10_hubOf_7 rfl rfl ?_
    refine V_iload_n (pc := 8) 1 dX10_hubOf_8 rfl rfl ?_
    refine V_iload_n (pc := 9) 2 dX10_hubOf_9 rfl rfl ?_
    obtain ⟨x8, h7, h⟩ := bnd h
    refine V_cS3 (pc := 10) dX10_hubOf_10 kw910 calX10_firstNode kw911 (by decide) (Nat.le_of_ble_eq_true rfl) (ctX10_firstNode H0 h7) ?_
    cases h
    exact V_ret (pc := 13) dX10_hubOf_13 ⟨rfl, _, rfl⟩ ⟨rfl, rfl, rfl⟩
theorem calX9_isBeyond : Cal yX9_isBeyond cX9_isBeyond 3 (some .boolean) 2 := ⟨kw772, kw3, by decide +kernel⟩
theorem ctX9_isBeyond {G : Gl} {σ : Sg} {d : Dt} {r0 : Nat} {v1 : Int32} {v2 : Int32} {rr : Bool} (H0 : L9 σ r0) (h : mX9_isBeyond r0 v1 v2 d = some rr) : CTv G yX9_isBeyond cX9_isBeyond 3 (some .boolean) 0 [.ref (gB G + r0), .int v1, .int v2] σ d [.int (b2i rr)] d := by
  refine CT_of pn_RX9 (Nat.le_of_ble_eq_true rfl) ?_
  rw [mX9_isBeyond] at h
  refine V_aload_n (pc := 0) 0 dX9_isBeyond_0 rfl rfl ?_
  refine V_getR (pc := 1) (c := 9) (k := 6) dX9_isBeyond_1 (by decide) (by decide) kw62 rfl rfl (L9_0 H0) (L9_r6 H0) ?_
  refine V_iload_n (pc := 4) 1 dX9_isBeyond_4 rfl rfl ?_
  obtain ⟨b1, h⟩ := ite_o h
  refine V_iald (pc := 5) dX9_isBeyond_5 (L9_s6 H0) (inB_vp b1) ?_
  refine V_iload_n (pc := 6) 2 dX9_isBeyond_6 rfl rfl ?_
  refine V_ishr (pc := 7) dX9_isBeyond_7 ?_
  refine V_iconst (pc := 8) (x := 1) dX9_isBeyond_8 (by decide) ?_
  refine V_iand (pc := 9) dX9_isBeyond_9 ?_
  refine V_iconst (pc := 10) (x := 1) dX9_isBeyond_10 (by decide) ?_
  refine V_icmp_ne (pc := 11) (tgt := 18) dX9_isBeyond_11 (by decide) (fun c2 => ?_) (fun c2 => ?_)
  · have h := ite_n c2 h
    refine V_iconst (pc := 18) (x := 0) dX9_isBeyond_18 (by decide) ?_
    cases h
    exact V_ret (pc := 19) dX9_isBeyond_19 ⟨rfl, _, rfl, rfl⟩ ⟨rfl, rfl, rfl⟩
  · have h := ite_p c2 h
    refine V_iconst (pc := 14) (x := 1) dX9_isBeyond_14 (by decide) ?_
    refine V_goto (pc := 15) (tgt := 19) dX9_isBeyond_15 (by decide) ?_
    cases h
    exact V_ret (pc := 19) dX9_isBeyond_19 ⟨rfl, _, rfl, rfl⟩ ⟨rfl, rfl, rfl⟩
theorem calX9_parts : Cal yX9_parts cX9_parts 4 (some .boolean) 3 := ⟨kw963, kw3, by decide +kernel⟩
theorem ctX9_parts {G : Gl} {σ : Sg} {d : Dt} {r0 : Nat} {v1 : Int32} {v2 : Int32} {v3 : Int32} {rr : Bool} (H0 : L9 σ r0) (h : mX9_parts r0 v1 v2 v3 d = some rr) : CTv G yX9_parts cX9_parts 4 (some .boolean) 1 [.ref (gB G + r0), .int v1, .int v2, .int v3] σ d [.int (b2i rr)] d := by
  refine CT_of pn_RX9 (Nat.le_of_ble_eq_true rfl) ?_
  rw [mX9_parts] at h
  refine V_aload_n (pc := 0) 0 dX9_parts_0 rfl rfl ?_
  refine V_iload_n (pc := 1) 1 dX9_parts_1 rfl rfl ?_
  refine V_iload_n (pc := 2) 2 dX9_parts_2 rfl rfl ?_
  obtain ⟨x2, h1, h⟩ := bnd h
  refine V_cV2 (pc := 3) dX9_parts_3 kw769 calX9_isBeyond kw770 kw771 (L9_0 H0) rfl (by decide) (Nat.le_of_ble_eq_true rfl) (ctX9_isBeyond H0 h1) ?_
  refine V_aload_n (pc := 6) 0 dX9_parts_6 rfl rfl ?_
  refine V_iload_n (pc := 7) 1 dX9_parts_7 rfl rfl ?_
  refine V_iload_n (pc := 8) 3 dX9_parts_8 rfl rfl ?_
  obtain ⟨x4, h3, h⟩ := bnd h
  refine V_cV2 (pc := 9) dX9_parts_9 kw769 calX9_isBeyond kw770 kw771 (L9_0 H0) rfl (by decide) (Nat.le_of_ble_eq_true rfl) (ctX9_isBeyond H0 h3) ?_
  refine V_icmp_eq (pc := 12) (tgt := 19) dX9_parts_12 (by decide) (fun c5 => ?_) (fun c5 => ?_)
  · have h := ite_p c5 h
    refine V_iconst (pc := 19) (x := 0) dX9_parts_19 (by decide) ?_
    cases h
    exact V_ret (pc := 20) dX9_parts_20 ⟨rfl, _, rfl, rfl⟩ ⟨rfl, rfl, rfl⟩
  · have h := ite_n c5 h
    refine V_iconst (pc := 15) (x := 1) dX9_parts_15 (by decide) ?_
    refine V_goto (pc := 16) (tgt := 20) dX9_parts_16 (by decide) ?_
    cases h
    exact V_ret (pc := 20) dX9_parts_20 ⟨rfl, _, rfl, rfl⟩ ⟨rfl, rfl, rfl⟩
theorem wX10_runsThrough_33 {G : Gl} {σ : Sg} {d : Dt} {r0 : Nat} {v2 : Int32} {v3 : Int32} {v4 : Int32} {v5 : Int32} {rr : Int32} (H0 : L4 σ r0) : ∀ (n : Nat) (v6 : Int32) (v7 : Int32), mX10_runsThrough_33 d r0 v2 v3 v4 v5 n v6 v7 = some rr → V G yX10_runsThrough cX10_runsThrough 8 (some .int) 3 0 0 (PH [.int rr] σ d) 33 [(0, .ref (gB G + r0)), (2, .int v2), (3, .int v3), (4, .int v4), (5, .int v5), (6, .int v6), (7, .int v7)] [] σ d := by
  intro n
  induction n with
  | zero =>
    intro v6 v7
    intros
    rename_i h
    exact absurd h (by rw [mX10_runsThrough_33]; exact fun q => nomatch q)
  | succ n ih =>
    intro v6 v7 h
    rw [mX10_runsThrough_33] at h
    refine V_iload (pc := 33) 6 dX10_runsThrough_33 rfl ?_
    refine V_aload_n (pc := 35) 0 dX10_runsThrough_35 rfl rfl ?_
    refine V_getR (pc := 36) (c := 4) (k := 8) dX10_runsThrough_36 (by decide) (by decide) kw245 rfl rfl (L4_0 H0) (L4_r8 H0) ?_
    refine V_getR (pc := 39) (c := 5) (k := 3) dX10_runsThrough_39 (by decide) (by decide) kw153 rfl rfl (L5_0 (L4_o8 H0)) (L5_r3 (L4_o8 H0)) ?_
    refine V_iload_n (pc := 42) 1 dX10_runsThrough_42 rfl rfl ?_
    obtain ⟨b8, h⟩ := ite_o h
    refine V_iald (pc := 43) dX10_runsThrough_43 (L5_s3 (L4_o8 H0)) (inB_vp b8) ?_
    refine V_icmp_ge (pc := 44) (tgt := 91) dX10_runsThrough_44 (by decide) (fun c9 => ?_) (fun c9 => ?_)
    · have h := ite_p c9 h
      refine V_iload (pc := 91) 5 dX10_runsThrough_91 rfl ?_
      cases h
      exact V_ret (pc := 93) dX10_runsThrough_93 ⟨rfl, _, rfl⟩ ⟨rfl, rfl, rfl⟩
    · have h := ite_n c9 h
      refine V_iload (pc := 47) 3 dX10_runsThrough_47 rfl ?_
      refine V_iload (pc := 49) 6 dX10_runsThrough_49 rfl ?_
      refine V_cS2 (pc := 51) dX10_runsThrough_51 kw885 calX10_has kw676 (by decide) (Nat.le_of_ble_eq_true rfl) (ctX10_has) ?_
      refine V_ifB_eq (pc := 54) (tgt := 85) dX10_runsThrough_54 (by decide) (fun c12 => ?_) (fun c12 => ?_)
      · have h := ite_f c12 h
        refine V_iinc (pc := 85) (lv1 := [(7, _), (0, _), (2, _), (3, _), (4, _), (5, _), (6, _)]) (z := _ + (1 : Int32)) 6 dX10_runsThrough_85 rfl rfl (by decide) rfl ?_
        refine V_goto (pc := 88) (tgt := 33) dX10_runsThrough_88 (by decide) ?_
        exact V_sub [1, 2, 3, 4, 5, 6, 0] rfl (ih v6 (v7 + (1 : Int32)) h)
      · have h := ite_p c12 h
        refine V_aload_n (pc := 57) 0 dX10_runsThrough_57 rfl rfl ?_
        refine V_getR (pc := 58) (c := 4) (k := 6) dX10_runsThrough_58 (by decide) (by decide) kw234 rfl rfl (L4_0 H0) (L4_r6 H0) ?_
        refine V_iload_n (pc := 61) 2 dX10_runsThrough_61 rfl rfl ?_
        refine V_iload (pc := 62) 4 dX10_runsThrough_62 rfl ?_
        refine V_aload_n (pc := 64) 0 dX10_runsThrough_64 rfl rfl ?_
        refine V_getR (pc := 65) (c := 4) (k := 8) dX10_runsThrough_65 (by decide) (by decide) kw245 rfl rfl (L4_0 H0) (L4_r8 H0) ?_
        refine V_getR (pc := 68) (c := 5) (k := 9) dX10_runsThrough_68 (by decide) (by decide) kw172 rfl rfl (L5_0 (L4_o8 H0)) (L5_r9 (L4_o8 H0)) ?_
        refine V_iload_n (pc := 71) 1 dX10_runsThrough_71 rfl rfl ?_
        obtain ⟨b13, h⟩ := ite_o h
        refine V_aald (pc := 72) dX10_runsThrough_72 (⟨L5_s9 (L4_o8 H0), L5_g9 (L4_o8 H0)⟩ : GR σ _ _ _).1 (inB_vp b13) ((⟨L5_s9 (L4_o8 H0), L5_g9 (L4_o8 H0)⟩ : GR σ _ _ _).2 _ (inB_lt b13)).1 ?_
        refine V_iload (pc := 73) 6 dX10_runsThrough_73 rfl ?_
        obtain ⟨b14, h⟩ := ite_o h
        refine V_iald (pc := 75) dX10_runsThrough_75 ((⟨L5_s9 (L4_o8 H0), L5_g9 (L4_o8 H0)⟩ : GR σ _ _ _).2 _ (inB_lt b13)).2 (inB_vp b14) ?_
        obtain ⟨x16, h15, h⟩ := bnd h
        refine V_cV3 (pc := 76) dX10_runsThrough_76 kw960 calX9_parts kw961 kw962 (L9_0 (L4_o6 H0)) rfl (by decide) (Nat.le_of_ble_eq_true rfl) (ctX9_parts (L4_o6 H0) h15) ?_
        refine V_ifB_eq (pc := 79) (tgt := 85) dX10_runsThrough_79 (by decide) (fun c17 => ?_) (fun c17 => ?_)
        · have h := ite_f c17 h
          refine V_iinc (pc := 85) (lv1 := [(7, _), (0, _), (2, _), (3, _), (4, _), (5, _), (6, _)]) (z := _ + (1 : Int32)) 6 dX10_runsThrough_85 rfl rfl (by decide) rfl ?_
          refine V_goto (pc := 88) (tgt := 33) dX10_runsThrough_88 (by decide) ?_
          exact V_sub [1, 2, 3, 4, 5, 6, 0] rfl (ih v6 (v7 + (1 : Int32)) h)
        · have h := ite_p c17 h
          refine V_iinc (pc := 82) (lv1 := [(6, _), (0, _), (2, _), (3, _), (4, _), (5, _), (7, _)]) (z := _ + (1 : Int32)) 5 dX10_runsThrough_82 rfl rfl (by decide) rfl ?_
          refine V_iinc (pc := 85) (lv1 := [(7, _), (6, _), (0, _), (2, _), (3, _), (4, _), (5, _)]) (z := _ + (1 : Int32)) 6 dX10_runsThrough_85 rfl rfl (by decide) rfl ?_
          refine V_goto (pc := 88) (tgt := 33) dX10_runsThrough_88 (by decide) ?_
          exact V_sub [2, 3, 4, 5, 6, 1, 0] rfl (ih (v6 + (1 : Int32)) (v7 + (1 : Int32)) h)
theorem calX10_runsThrough : Cal yX10_runsThrough cX10_runsThrough 8 (some .int) 4 := ⟨kw959, kw18, by decide +kernel⟩
theorem ctX10_runsThrough {G : Gl} {σ : Sg} {d : Dt} {r0 : Nat} {v1 : Int32} {v2 : Int32} {v3 : Int32} {rr : Int32} (H0 : L4 σ r0) (h : mX10_runsThrough r0 v1 v2 v3 d = some rr) : CTv G yX10_runsThrough cX10_runsThrough 8 (some .int) 3 [.ref (gB G + r0), .int v1, .int v2, .int v3] σ d [.int rr] d := by
  refine CT_of pn_RX10 (Nat.le_of_ble_eq_true rfl) ?_
  rw [mX10_runsThrough] at h
  refine V_aload_n (pc := 0) 0 dX10_runsThrough_0 rfl rfl ?_
  refine V_iload_n (pc := 1) 1 dX10_runsThrough_1 rfl rfl ?_
  refine V_iload_n (pc := 2) 2 dX10_runsThrough_2 rfl rfl ?_
  obtain ⟨x2, h1, h⟩ := bnd h
  refine V_cS3 (pc := 3) dX10_runsThrough_3 kw946 calX10_pinsThere kw891 (by decide) (Nat.le_of_ble_eq_true rfl) (ctX10_pinsThere H0 h1) ?_
  refine V_istore (pc := 6) (lv1 := [(4, _), (0, _), (1, _), (2, _), (3, _)]) dX10_runsThrough_6 (by decide) rfl ?_
  refine V_iload (pc := 8) 0 dX10_runsThrough_8 rfl ?_
  refine V_cS1 (pc := 10) dX10_runsThrough_10 kw933 calX10_countFor kw922 (by decide) (Nat.le_of_ble_eq_true rfl) (ctX10_countFor) ?_
  refine V_if_ne (pc := 13) (tgt := 18) dX10_runsThrough_13 (by decide) (fun c5 => ?_) (fun c5 => ?_)
  · have h := ite_n c5 h
    refine V_aload_n (pc := 18) 1 dX10_runsThrough_18 rfl rfl ?_
    refine V_iload_n (pc := 19) 3 dX10_runsThrough_19 rfl rfl ?_
    refine V_iload (pc := 20) 0 dX10_runsThrough_20 rfl ?_
    obtain ⟨x7, h6, h⟩ := bnd h
    refine V_cS3 (pc := 22) dX10_runsThrough_22 kw932 calX10_hubOf kw907 (by decide) (Nat.le_of_ble_eq_true rfl) (ctX10_hubOf H0 h6) ?_
    refine V_istore (pc := 25) (lv1 := [(5, _), (4, _), (0, _), (1, _), (2, _), (3, _)]) dX10_runsThrough_25 (by decide) rfl ?_
    refine V_iconst (pc := 27) (x := 0) dX10_runsThrough_27 (by decide) ?_
    refine V_istore (pc := 28) (lv1 := [(6, _), (5, _), (4, _), (0, _), (1, _), (2, _), (3, _)]) dX10_runsThrough_28 (by decide) rfl ?_
    refine V_iconst (pc := 30) (x := 0) dX10_runsThrough_30 (by decide) ?_
    refine V_istore (pc := 31) (lv1 := [(7, _), (6, _), (5, _), (4, _), (0, _), (1, _), (2, _), (3, _)]) dX10_runsThrough_31 (by decide) rfl ?_
    exact V_sub [4, 6, 7, 3, 2, 1, 0] rfl (wX10_runsThrough_33 H0 FUEL (0 : Int32) (0 : Int32) h)
  · have h := ite_p c5 h
    refine V_iconst (pc := 16) (x := 0) dX10_runsThrough_16 (by decide) ?_
    cases h
    exact V_ret (pc := 17) dX10_runsThrough_17 ⟨rfl, _, rfl⟩ ⟨rfl, rfl, rfl⟩
theorem wX10_countThrough_5 {G : Gl} {σ : Sg} {d : Dt} {r0 : Nat} {v1 : Int32} {v2 : Int32} {rr : Int32} (H0 : L4 σ r0) : ∀ (n : Nat) (v3 : Int32) (v4 : Int32), mX10_countThrough_5 d r0 v1 v2 n v3 v4 = some rr → V G yX10_countThrough cX10_countThrough 5 (some .int) 4 0 0 (PH [.int rr] σ d) 5 [(0, .ref (gB G + r0)), (1, .int v1), (2, .int v2), (3, .int v3), (4, .int v4)] [] σ d := by
  intro n
  induction n with
  | zero =>
    intro v3 v4
    intros
    rename_i h
    exact absurd h (by rw [mX10_countThrough_5]; exact fun q => nomatch q)
  | succ n ih =>
    intro v3 v4 h
    rw [mX10_countThrough_5] at h
    refine V_iload (pc := 5) 4 dX10_countThrough_5 rfl ?_
    refine V_aload_n (pc := 7) 0 dX10_countThrough_7 rfl rfl ?_
    refine V_getR (pc := 8) (c := 4) (k := 8) dX10_countThrough_8 (by decide) (by decide) kw245 rfl rfl (L4_0 H0) (L4_r8 H0) ?_
    refine V_getI (pc := 11) (c := 5) (k := 0) dX10_countThrough_11 (by decide) (by decide) kw143 rfl rfl (L5_0 (L4_o8 H0)) ?_
    refine V_icmp_ge (pc := 14) (tgt := 34) dX10_countThrough_14 (by decide) (fun c1 => ?_) (fun c1 => ?_)
    · have h := ite_p c1 h
      refine V_iload_n (pc := 34) 3 dX10_countThrough_34 rfl rfl ?_
      cases h
      exact V_ret (pc := 35) dX10_countThrough_35 ⟨rfl, _, rfl⟩ ⟨rfl, rfl, rfl⟩
    · have h := ite_n c1 h
      refine V_iload_n (pc := 17) 3 dX10_countThrough_17 rfl rfl ?_
      refine V_aload_n (pc := 18) 0 dX10_countThrough_18 rfl rfl ?_
      refine V_iload_n (pc := 19) 1 dX10_countThrough_19 rfl rfl ?_
      refine V_iload (pc := 20) 4 dX10_countThrough_20 rfl ?_
      refine V_iload_n (pc := 22) 2 dX10_countThrough_22 rfl rfl ?_
      obtain ⟨x3, h2, h⟩ := bnd h
      refine V_cS4 (pc := 23) dX10_countThrough_23 kw957 calX10_runsThrough kw958 (by decide) (Nat.le_of_ble_eq_true rfl) (ctX10_runsThrough H0 h2) ?_
      refine V_iadd (pc := 26) dX10_countThrough_26 ?_
      refine V_istore_n (pc := 27) (lv1 := [(3, _), (0, _), (1, _), (2, _), (4, _)]) dX10_countThrough_27 rfl (by decide) rfl ?_
      refine V_iinc (pc := 28) (lv1 := [(4, _), (3, _), (0, _), (1, _), (2, _)]) (z := _ + (1 : Int32)) 4 dX10_countThrough_28 rfl rfl (by decide) rfl ?_
      refine V_goto (pc := 31) (tgt := 5) dX10_countThrough_31 (by decide) ?_
      exact V_sub [2, 3, 4, 1, 0] rfl (ih (v3 + x3) (v4 + (1 : Int32)) h)
theorem calX10_countThrough : Cal yX10_countThrough cX10_countThrough 5 (some .int) 3 := ⟨kw956, kw18, by decide +kernel⟩
theorem ctX10_countThrough {G : Gl} {σ : Sg} {d : Dt} {r0 : Nat} {v1 : Int32} {v2 : Int32} {rr : Int32} (H0 : L4 σ r0) (h : mX10_countThrough r0 v1 v2 d = some rr) : CTv G yX10_countThrough cX10_countThrough 5 (some .int) 4 [.ref (gB G + r0), .int v1, .int v2] σ d [.int rr] d := by
  refine CT_of pn_RX10 (Nat.le_of_ble_eq_true rfl) ?_
  rw [mX10_countThrough] at h
  refine V_iconst (pc := 0) (x := 0) dX10_countThrough_0 (by decide) ?_
  refine V_istore_n (pc := 1) (lv1 := [(3, _), (0, _), (1, _), (2, _)]) dX10_countThrough_1 rfl (by decide) rfl ?_
  refine V_iconst (pc := 2) (x := 0) dX10_countThrough_2 (by decide) ?_
  refine V_istore (pc := 3) (lv1 := [(4, _), (3, _), (0, _), (1, _), (2, _)]) dX10_countThrough_3 (by decide) rfl ?_
  exact V_sub [2, 3, 4, 1, 0] rfl (wX10_countThrough_5 H0 FUEL (0 : Int32) (0 : Int32) h)
theorem wX10_bodyThrough_5 {G : Gl} {σ : Sg} {d : Dt} {r0 : Nat} {v1 : Int32} {v2 : Int32} {rr : Int32} (H0 : L4 σ r0) : ∀ (n : Nat) (v3 : Int32) (v4 : Int32), mX10_bodyThrough_5 d r0 v1 v2 n v3 v4 = some rr → V G yX10_bodyThrough cX10_bodyThrough 6 (some .int) 4 0 0 (PH [.int rr] σ d) 5 [(0, .ref (gB G + r0)), (1, .int v1), (2, .int v2), (3, .int v3), (4, .int v4)] [] σ d := by
  intro n
  induction n with
  | zero =>
    intro v3 v4
    intros
    rename_i h
    exact absurd h (by rw [mX10_bodyThrough_5]; exact fun q => nomatch q)
  | succ n ih =>
    intro v3 v4 h
    rw [mX10_bodyThrough_5] at h
    refine V_iload (pc := 5) 4 dX10_bodyThrough_5 rfl ?_
    refine V_aload_n (pc := 7) 0 dX10_bodyThrough_7 rfl rfl ?_
    refine V_getR (pc := 8) (c := 4) (k := 8) dX10_bodyThrough_8 (by decide) (by decide) kw245 rfl rfl (L4_0 H0) (L4_r8 H0) ?_
    refine V_getI (pc := 11) (c := 5) (k := 0) dX10_bodyThrough_11 (by decide) (by decide) kw143 rfl rfl (L5_0 (L4_o8 H0)) ?_
    refine V_icmp_ge (pc := 14) (tgt := 52) dX10_bodyThrough_14 (by decide) (fun c1 => ?_) (fun c1 => ?_)
    · have h := ite_p c1 h
      refine V_iload_n (pc := 52) 3 dX10_bodyThrough_52 rfl rfl ?_
      cases h
      exact V_ret (pc := 53) dX10_bodyThrough_53 ⟨rfl, _, rfl⟩ ⟨rfl, rfl, rfl⟩
    · have h := ite_n c1 h
      refine V_aload_n (pc := 17) 0 dX10_bodyThrough_17 rfl rfl ?_
      refine V_getR (pc := 18) (c := 4) (k := 8) dX10_bodyThrough_18 (by decide) (by decide) kw245 rfl rfl (L4_0 H0) (L4_r8 H0) ?_
      refine V_getR (pc := 21) (c := 5) (k := 2) dX10_bodyThrough_21 (by decide) (by decide) kw149 rfl rfl (L5_0 (L4_o8 H0)) (L5_r2 (L4_o8 H0)) ?_
      refine V_iload (pc := 24) 4 dX10_bodyThrough_24 rfl ?_
      obtain ⟨b2, h⟩ := ite_o h
      refine V_iald (pc := 26) dX10_bodyThrough_26 (L5_s2 (L4_o8 H0)) (inB_vp b2) ?_
      refine V_istore (pc := 27) (lv1 := [(5, _), (0, _), (1, _), (2, _), (3, _), (4, _)]) dX10_bodyThrough_27 (by decide) rfl ?_
      refine V_iload_n (pc := 29) 4 dX10_bodyThrough_29 rfl rfl ?_
      refine V_aload_n (pc := 30) 1 dX10_bodyThrough_30 rfl rfl ?_
      refine V_iload_n (pc := 31) 2 dX10_bodyThrough_31 rfl rfl ?_
      refine V_iload (pc := 32) 5 dX10_bodyThrough_32 rfl ?_
      refine V_iload_n (pc := 34) 3 dX10_bodyThrough_34 rfl rfl ?_
      obtain ⟨x4, h3, h⟩ := bnd h
      refine V_cS4 (pc := 35) dX10_bodyThrough_35 kw957 calX10_runsThrough kw958 (by decide) (Nat.le_of_ble_eq_true rfl) (ctX10_runsThrough H0 h3) ?_
      refine V_iload (pc := 38) 0 dX10_bodyThrough_38 rfl ?_
      refine V_imul (pc := 40) dX10_bodyThrough_40 ?_
      refine V_iload (pc := 41) 0 dX10_bodyThrough_41 rfl ?_
      refine V_imul (pc := 43) dX10_bodyThrough_43 ?_
      refine V_iadd (pc := 44) dX10_bodyThrough_44 ?_
      refine V_istore_n (pc := 45) (lv1 := [(3, _), (5, _), (0, _), (1, _), (2, _), (4, _)]) dX10_bodyThrough_45 rfl (by decide) rfl ?_
      refine V_iinc (pc := 46) (lv1 := [(4, _), (3, _), (5, _), (0, _), (1, _), (2, _)]) (z := _ + (1 : Int32)) 5 dX10_bodyThrough_46 rfl rfl (by decide) rfl ?_
      refine V_goto (pc := 49) (tgt := 5) dX10_bodyThrough_49 (by decide) ?_
      exact V_sub [3, 4, 5, 1, 0] rfl (ih (v3 + ((x4 * (d.1 (r0 + 34) v4.toNatClampNeg)) * (d.1 (r0 + 34) v4.toNatClampNeg))) (v4 + (1 : Int32)) h)
theorem calX10_bodyThrough : Cal yX10_bodyThrough cX10_bodyThrough 6 (some .int) 3 := ⟨kw966, kw18, by decide +kernel⟩
theorem ctX10_bodyThrough {G : Gl} {σ : Sg} {d : Dt} {r0 : Nat} {v1 : Int32} {v2 : Int32} {rr : Int32} (H0 : L4 σ r0) (h : mX10_bodyThrough r0 v1 v2 d = some rr) : CTv G yX10_bodyThrough cX10_bodyThrough 6 (some .int) 4 [.ref (gB G + r0), .int v1, .int v2] σ d [.int rr] d := by
  refine CT_of pn_RX10 (Nat.le_of_ble_eq_true rfl) ?_
  rw [mX10_bodyThrough] at h
  refine V_iconst (pc := 0) (x := 0) dX10_bodyThrough_0 (by decide) ?_
  refine V_istore_n (pc := 1) (lv1 := [(3, _), (0, _), (1, _), (2, _)]) dX10_bodyThrough_1 rfl (by decide) rfl ?_
  refine V_iconst (pc := 2) (x := 0) dX10_bodyThrough_2 (by decide) ?_
  refine V_istore (pc := 3) (lv1 := [(4, _), (3, _), (0, _), (1, _), (2, _)]) dX10_bodyThrough_3 (by decide) rfl ?_
  exact V_sub [2, 3, 4, 1, 0] rfl (wX10_bodyThrough_5 H0 FUEL (0 : Int32) (0 : Int32) h)
theorem wX10_roundOf_2 {G : Gl} {σ : Sg} {d : Dt} {v0 : Int32} {rr : Int32} : ∀ (n : Nat) (v1 : Int32), mX10_roundOf_2 v0 n v1 = some rr → V G yX10_roundOf cX10_roundOf 2 (some .int) 0 0 0 (PH [.int rr] σ d) 2 [(0, .int v0), (1, .int v1)] [] σ d := by
  intro n
  induction n with
  | zero =>
    intro v1
    intros
    rename_i h
    exact absurd h (by rw [mX10_roundOf_2]; exact fun q => nomatch q)
  | succ n ih =>
    intro v1 h
    rw [mX10_roundOf_2] at h
    refine V_iload_n (pc := 2) 1 dX10_roundOf_2 rfl rfl ?_
    refine V_iload_n (pc := 3) 0 dX10_roundOf_3 rfl rfl ?_
    refine V_icmp_gt (pc := 4) (tgt := 26) dX10_roundOf_4 (by decide) (fun c1 => ?_) (fun c1 => ?_)
    · have h := ite_p c1 h
      refine V_iload_n (pc := 26) 1 dX10_roundOf_26 rfl rfl ?_
      cases h
      exact V_ret (pc := 27) dX10_roundOf_27 ⟨rfl, _, rfl⟩ ⟨rfl, rfl, rfl⟩
    · have h := ite_n c1 h
      refine V_iload_n (pc := 7) 1 dX10_roundOf_7 rfl rfl ?_
      refine V_iload_n (pc := 8) 1 dX10_roundOf_8 rfl rfl ?_
      refine V_imul (pc := 9) dX10_roundOf_9 ?_
      refine V_bipush (pc := 10) (x := 10) dX10_roundOf_10 (by decide) ?_
      refine V_imul (pc := 12) dX10_roundOf_12 ?_
      refine V_bipush (pc := 13) (x := 12) dX10_roundOf_13 (by decide) ?_
      refine V_iload_n (pc := 15) 0 dX10_roundOf_15 rfl rfl ?_
      refine V_imul (pc := 16) dX10_roundOf_16 ?_
      refine V_icmp_ge (pc := 17) (tgt := 26) dX10_roundOf_17 (by decide) (fun c2 => ?_) (fun c2 => ?_)
      · have h := ite_p c2 h
        refine V_iload_n (pc := 26) 1 dX10_roundOf_26 rfl rfl ?_
        cases h
        exact V_ret (pc := 27) dX10_roundOf_27 ⟨rfl, _, rfl⟩ ⟨rfl, rfl, rfl⟩
      · have h := ite_n c2 h
        refine V_iinc (pc := 20) (lv1 := [(1, _), (0, _)]) (z := _ + (1 : Int32)) 1 dX10_roundOf_20 rfl rfl (by decide) rfl ?_
        refine V_goto (pc := 23) (tgt := 2) dX10_roundOf_23 (by decide) ?_
        exact V_sub [1, 0] rfl (ih (v1 + (1 : Int32)) h)
theorem calX10_roundOf : Cal yX10_roundOf cX10_roundOf 2 (some .int) 1 := ⟨kw969, kw18, by decide +kernel⟩
theorem ctX10_roundOf {G : Gl} {σ : Sg} {d : Dt} {v0 : Int32} {rr : Int32} (h : mX10_roundOf v0 = some rr) : CTv G yX10_roundOf cX10_roundOf 2 (some .int) 0 [.int v0] σ d [.int rr] d := by
  refine CT_of pn_RX10 (Nat.le_of_ble_eq_true rfl) ?_
  rw [mX10_roundOf] at h
  refine V_iconst (pc := 0) (x := 0) dX10_roundOf_0 (by decide) ?_
  refine V_istore_n (pc := 1) (lv1 := [(1, _), (0, _)]) dX10_roundOf_1 rfl (by decide) rfl ?_
  exact V_sub [1, 0] rfl (wX10_roundOf_2 FUEL (0 : Int32) h)
theorem wX11_bundle_23 {G : Gl} {σ : Sg} {d : Dt} {r0 : Nat} {r0h : Nat} {r0p : Nat} {v1 : Int32} {v2 : Int32} {v3 : Int32} {vs0 : Int32} {rs1 : Nat} {rs1h : Nat} {rs1p : Nat} {rr : Int32 × Dt} (H0 : L10 σ r0 r0h r0p) (Hs1 : L10 σ rs1 rs1h rs1p) (h : mX11_bundle_23 r0 r0h r0p v1 v2 v3 vs0 rs1 rs1h rs1p d = some rr) : V G yX11_bundle cX11_bundle 6 (some .int) 5 0 0 (PH [.int rr.1] σ rr.2) 23 [(0, .ref (gB G + r0)), (1, .int v1), (2, .int v2), (3, .int v3)] [.int vs0, .ref (gB G + rs1)] σ d := by
  rw [mX11_bundle_23] at h
  refine V_iload_n (pc := 23) 1 dX11_bundle_23 rfl rfl ?_
  refine V_cV2 (pc := 24) dX11_bundle_24 kw875 calX11_troubleOf kw877 ks38 (L10_0 Hs1) rfl (by decide) (Nat.le_of_ble_eq_true rfl) (ctX11_troubleOf Hs1) ?_
  refine V_istore (pc := 27) (lv1 := [(4, _), (0, _), (1, _), (2, _), (3, _)]) dX11_bundle_27 (by decide) rfl ?_
  refine V_iload (pc := 29) 0 dX11_bundle_29 rfl ?_
  refine V_if_eq (pc := 31) (tgt := 41) dX11_bundle_31 (by decide) (fun c8 => ?_) (fun c8 => ?_)
  · have h := ite_p c8 h
    refine V_iload_n (pc := 41) 4 dX11_bundle_41 rfl rfl ?_
    refine V_if_ne (pc := 42) (tgt := 59) dX11_bundle_42 (by decide) (fun c9 => ?_) (fun c9 => ?_)
    · have h := ite_n c9 h
      refine V_aload_n (pc := 59) 1 dX11_bundle_59 rfl rfl ?_
      refine V_getR (pc := 60) (c := 10) (k := 2) dX11_bundle_60 (by decide) (by decide) kw356 rfl rfl (L10_0 H0) (L10_r2 H0) ?_
      refine V_iload_n (pc := 63) 2 dX11_bundle_63 rfl rfl ?_
      refine V_iload_n (pc := 64) 3 dX11_bundle_64 rfl rfl ?_
      obtain ⟨x11, h10, h⟩ := bnd h
      refine V_cS3 (pc := 65) dX11_bundle_65 kw964 calX10_bodyThrough kw965 (by decide) (Nat.le_of_ble_eq_true rfl) (ctX10_bodyThrough (L10_o2 H0) h10) ?_
      refine V_istore (pc := 68) (lv1 := [(5, _), (4, _), (0, _), (1, _), (2, _), (3, _)]) dX11_bundle_68 (by decide) rfl ?_
      refine V_aload_n (pc := 70) 2 dX11_bundle_70 rfl rfl ?_
      refine V_iload_n (pc := 71) 5 dX11_bundle_71 rfl rfl ?_
      refine V_iconst (pc := 72) (x := 1) dX11_bundle_72 (by decide) ?_
      refine V_icmp_ne (pc := 73) (tgt := 81) dX11_bundle_73 (by decide) (fun c12 => ?_) (fun c12 => ?_)
      · have h := ite_n c12 h
        refine V_iload (pc := 81) 0 dX11_bundle_81 rfl ?_
        obtain ⟨x14, h13, h⟩ := bnd h
        refine V_cS1 (pc := 83) dX11_bundle_83 kw967 calX10_roundOf kw968 (by decide) (Nat.le_of_ble_eq_true rfl) (ctX10_roundOf h13) ?_
        refine V_cV1 (pc := 86) dX11_bundle_86 kw720 calX11_answer kw722 ks29 (L10_0 H0) rfl (by decide) (Nat.le_of_ble_eq_true rfl) (ctX11_answer H0) ?_
        cases h
        exact V_ret (pc := 89) dX11_bundle_89 ⟨rfl, _, rfl⟩ ⟨rfl, rfl, rfl⟩
      · have h := ite_p c12 h
        refine V_iload (pc := 76) 0 dX11_bundle_76 rfl ?_
        refine V_goto (pc := 78) (tgt := 86) dX11_bundle_78 (by decide) ?_
        refine V_cV1 (pc := 86) dX11_bundle_86 kw720 calX11_answer kw722 ks29 (L10_0 H0) rfl (by decide) (Nat.le_of_ble_eq_true rfl) (ctX11_answer H0) ?_
        cases h
        exact V_ret (pc := 89) dX11_bundle_89 ⟨rfl, _, rfl⟩ ⟨rfl, rfl, rfl⟩
    · have h := ite_p c9 h
      refine V_aload_n (pc := 45) 1 dX11_bundle_45 rfl rfl ?_
      refine V_aload_n (pc := 46) 1 dX11_bundle_46 rfl rfl ?_
      refine V_getR (pc := 47) (c := 10) (k := 2) dX11_bundle_47 (by decide) (by decide) kw356 rfl rfl (L10_0 H0) (L10_r2 H0) ?_
      refine V_iload_n (pc := 50) 2 dX11_bundle_50 rfl rfl ?_
      refine V_iload_n (pc := 51) 3 dX11_bundle_51 rfl rfl ?_
      obtain ⟨x20, h19, h⟩ := bnd h
      refine V_cS3 (pc := 52) dX11_bundle_52 kw954 calX10_countThrough kw955 (by decide) (Nat.le_of_ble_eq_true rfl) (ctX10_countThrough (L10_o2 H0) h19) ?_
      refine V_cV1 (pc := 55) dX11_bundle_55 kw720 calX11_answer kw722 ks29 (L10_0 H0) rfl (by decide) (Nat.le_of_ble_eq_true rfl) (ctX11_answer H0) ?_
      cases h
      exact V_ret (pc := 58) dX11_bundle_58 ⟨rfl, _, rfl⟩ ⟨rfl, rfl, rfl⟩
  · have h := ite_n c8 h
    refine V_aload_n (pc := 34) 1 dX11_bundle_34 rfl rfl ?_
    refine V_iload (pc := 35) 0 dX11_bundle_35 rfl ?_
    refine V_cV1 (pc := 37) dX11_bundle_37 kw403 calX11_refuse kw405 ks1 (L10_0 H0) rfl (by decide) (Nat.le_of_ble_eq_true rfl) (ctX11_refuse H0) ?_
    cases h
    exact V_ret (pc := 40) dX11_bundle_40 ⟨rfl, _, rfl⟩ ⟨rfl, rfl, rfl⟩
theorem calX11_bundle : Cal yX11_bundle cX11_bundle 6 (some .int) 3 := ⟨kw953, kw1, by decide +kernel⟩
theorem ctX11_bundle {G : Gl} {σ : Sg} {d : Dt} {r0 : Nat} {r0h : Nat} {r0p : Nat} {v1 : Int32} {v2 : Int32} {v3 : Int32} {rr : Int32 × Dt} (H0 : L10 σ r0 r0h r0p) (h : mX11_bundle r0 r0h r0p v1 v2 v3 d = some rr) : CTv G yX11_bundle cX11_bundle 6 (some .int) 5 [.ref (gB G + r0), .int v1, .int v2, .int v3] σ d [.int rr.1] rr.2 := by
  refine CT_of pn_RX11 (Nat.le_of_ble_eq_true rfl) ?_
  rw [mX11_bundle] at h
  refine V_aload_n (pc := 0) 0 dX11_bundle_0 rfl rfl ?_
  refine V_aload_n (pc := 1) 0 dX11_bundle_1 rfl rfl ?_
  refine V_iload_n (pc := 2) 2 dX11_bundle_2 rfl rfl ?_
  refine V_cV1 (pc := 3) dX11_bundle_3 kw777 calX11_isBundle kw779 ks32 (L10_0 H0) rfl (by decide) (Nat.le_of_ble_eq_true rfl) (ctX11_isBundle H0) ?_
  refine V_ifB_eq (pc := 6) (tgt := 22) dX11_bundle_6 (by decide) (fun c3 => ?_) (fun c3 => ?_)
  · have h := ite_f c3 h
    refine V_iconst (pc := 22) (x := 0) dX11_bundle_22 (by decide) ?_
    exact V_sub [0, 1, 2, 3] rfl (wX11_bundle_23 H0 H0 h)
  · have h := ite_p c3 h
    refine V_iload_n (pc := 9) 3 dX11_bundle_9 rfl rfl ?_
    refine V_if_lt (pc := 10) (tgt := 22) dX11_bundle_10 (by decide) (fun c4 => ?_) (fun c4 => ?_)
    · have h := ite_p c4 h
      refine V_iconst (pc := 22) (x := 0) dX11_bundle_22 (by decide) ?_
      exact V_sub [0, 1, 2, 3] rfl (wX11_bundle_23 H0 H0 h)
    · have h := ite_n c4 h
      refine V_iload_n (pc := 13) 3 dX11_bundle_13 rfl rfl ?_
      refine V_iconst (pc := 14) (x := 2) dX11_bundle_14 (by decide) ?_
      refine V_icmp_gt (pc := 15) (tgt := 22) dX11_bundle_15 (by decide) (fun c5 => ?_) (fun c5 => ?_)
      · have h := ite_p c5 h
        refine V_iconst (pc := 22) (x := 0) dX11_bundle_22 (by decide) ?_
        exact V_sub [0, 1, 2, 3] rfl (wX11_bundle_23 H0 H0 h)
      · have h := ite_n c5 h
        refine V_iconst (pc := 18) (x := 1) dX11_bundle_18 (by decide) ?_
        refine V_goto (pc := 19) (tgt := 23) dX11_bundle_19 (by decide) ?_
        exact V_sub [0, 1, 2, 3] rfl (wX11_bundle_23 H0 H0 h)
theorem calX11_troubleOfBuilds : Cal yX11_troubleOfBuilds cX11_troubleOfBuilds 3 (some .int) 2 := ⟨kw1044, kw1, by decide +kernel⟩
theorem ctX11_troubleOfBuilds {G : Gl} {σ : Sg} {d : Dt} {r0 : Nat} {r0h : Nat} {r0p : Nat} {v1 : Int32} {v2 : Int32} (H0 : L10 σ r0 r0h r0p) : CTv G yX11_troubleOfBuilds cX11_troubleOfBuilds 3 (some .int) 0 [.ref (gB G + r0), .int v1, .int v2] σ d [.int (mX11_troubleOfBuilds r0 r0h r0p v1 v2 d)] d := by
  refine CT_of pn_RX11 (Nat.le_of_ble_eq_true rfl) ?_
  generalize h : mX11_troubleOfBuilds r0 r0h r0p v1 v2 d = rr
  rw [mX11_troubleOfBuilds] at h
  refine V_iload_n (pc := 0) 1 dX11_troubleOfBuilds_0 rfl rfl ?_
  refine V_if_ne (pc := 1) (tgt := 6) dX11_troubleOfBuilds_1 (by decide) (fun c1 => ?_) (fun c1 => ?_)
  · have h := ite_n c1 h
    refine V_iload_n (pc := 6) 2 dX11_troubleOfBuilds_6 rfl rfl ?_
    refine V_iconst (pc := 7) (x := 1) dX11_troubleOfBuilds_7 (by decide) ?_
    refine V_icmp_lt (pc := 8) (tgt := 27) dX11_troubleOfBuilds_8 (by decide) (fun c2 => ?_) (fun c2 => ?_)
    · have h := ite_p c2 h
      refine V_iconst (pc := 27) (x := 2) dX11_troubleOfBuilds_27 (by decide) ?_
      refine V_goto (pc := 28) (tgt := 32) dX11_troubleOfBuilds_28 (by decide) ?_
      subst h
      exact V_ret (pc := 32) dX11_troubleOfBuilds_32 ⟨rfl, _, rfl⟩ ⟨rfl, rfl, rfl⟩
    · have h := ite_n c2 h
      refine V_iload_n (pc := 11) 2 dX11_troubleOfBuilds_11 rfl rfl ?_
      refine V_iconst (pc := 12) (x := 1) dX11_troubleOfBuilds_12 (by decide) ?_
      refine V_aload_n (pc := 13) 0 dX11_troubleOfBuilds_13 rfl rfl ?_
      refine V_getR (pc := 14) (c := 10) (k := 2) dX11_troubleOfBuilds_14 (by decide) (by decide) kw356 rfl rfl (L10_0 H0) (L10_r2 H0) ?_
      refine V_getR (pc := 17) (c := 4) (k := 9) dX11_troubleOfBuilds_17 (by decide) (by decide) kw249 rfl rfl (L4_0 (L10_o2 H0)) (L4_r9 (L10_o2 H0)) ?_
      refine V_getI (pc := 20) (c := 1) (k := 0) dX11_troubleOfBuilds_20 (by decide) (by decide) kw203 rfl rfl (L1_0 (L4_o9 (L10_o2 H0))) ?_
      refine V_ishl (pc := 23) dX11_troubleOfBuilds_23 ?_
      refine V_icmp_lt (pc := 24) (tgt := 31) dX11_troubleOfBuilds_24 (by decide) (fun c3 => ?_) (fun c3 => ?_)
      · have h := ite_p c3 h
        refine V_iconst (pc := 31) (x := 0) dX11_troubleOfBuilds_31 (by decide) ?_
        subst h
        exact V_ret (pc := 32) dX11_troubleOfBuilds_32 ⟨rfl, _, rfl⟩ ⟨rfl, rfl, rfl⟩
      · have h := ite_n c3 h
        refine V_iconst (pc := 27) (x := 2) dX11_troubleOfBuilds_27 (by decide) ?_
        refine V_goto (pc := 28) (tgt := 32) dX11_troubleOfBuilds_28 (by decide) ?_
        subst h
        exact V_ret (pc := 32) dX11_troubleOfBuilds_32 ⟨rfl, _, rfl⟩ ⟨rfl, rfl, rfl⟩
  · have h := ite_p c1 h
    refine V_iconst (pc := 4) (x := 1) dX11_troubleOfBuilds_4 (by decide) ?_
    subst h
    exact V_ret (pc := 5) dX11_troubleOfBuilds_5 ⟨rfl, _, rfl⟩ ⟨rfl, rfl, rfl⟩
theorem wX2_pinsFor_5 {G : Gl} {σ : Sg} {d : Dt} {r0 : Nat} {v1 : Int32} {v2 : Int32} {rr : Int32} (H0 : L4 σ r0) : ∀ (n : Nat) (v3 : Int32) (v4 : Int32), mX2_pinsFor_5 d r0 v1 v2 n v3 v4 = some rr → V G yX2_pinsFor cX2_pinsFor 6 (some .int) 3 0 0 (PH [.int rr] σ d) 5 [(0, .ref (gB G + r0)), (1, .int v1), (2, .int v2), (3, .int v3), (4, .int v4)] [] σ d := by
  intro n
  induction n with
  | zero =>
    intro v3 v4
    intros
    rename_i h
    exact absurd h (by rw [mX2_pinsFor_5]; exact fun q => nomatch q)
  | succ n ih =>
    intro v3 v4 h
    rw [mX2_pinsFor_5] at h
    refine V_iload (pc := 5) 4 dX2_pinsFor_5 rfl ?_
    refine V_aload_n (pc := 7) 0 dX2_pinsFor_7 rfl rfl ?_
    refine V_getR (pc := 8) (c := 4) (k := 9) dX2_pinsFor_8 (by decide) (by decide) kw248 rfl rfl (L4_0 H0) (L4_r9 H0) ?_
    refine V_getI (pc := 11) (c := 1) (k := 0) dX2_pinsFor_11 (by decide) (by decide) kw201 rfl rfl (L1_0 (L4_o9 H0)) ?_
    refine V_icmp_ge (pc := 14) (tgt := 66) dX2_pinsFor_14 (by decide) (fun c1 => ?_) (fun c1 => ?_)
    · have h := ite_p c1 h
      refine V_iload_n (pc := 66) 3 dX2_pinsFor_66 rfl rfl ?_
      cases h
      exact V_ret (pc := 67) dX2_pinsFor_67 ⟨rfl, _, rfl⟩ ⟨rfl, rfl, rfl⟩
    · have h := ite_n c1 h
      refine V_iload_n (pc := 17) 1 dX2_pinsFor_17 rfl rfl ?_
      refine V_iload (pc := 18) 4 dX2_pinsFor_18 rfl ?_
      refine V_cS2 (pc := 20) dX2_pinsFor_20 kw1051 calX10_has kw676 (by decide) (Nat.le_of_ble_eq_true rfl) (ctX10_has) ?_
      refine V_ifB_eq (pc := 23) (tgt := 60) dX2_pinsFor_23 (by decide) (fun c4 => ?_) (fun c4 => ?_)
      · have h := ite_f c4 h
        refine V_iinc (pc := 60) (lv1 := [(4, _), (0, _), (1, _), (2, _), (3, _)]) (z := _ + (1 : Int32)) 4 dX2_pinsFor_60 rfl rfl (by decide) rfl ?_
        refine V_goto (pc := 63) (tgt := 5) dX2_pinsFor_63 (by decide) ?_
        exact V_sub [1, 2, 3, 4, 0] rfl (ih v3 (v4 + (1 : Int32)) h)
      · have h := ite_p c4 h
        refine V_aload_n (pc := 26) 0 dX2_pinsFor_26 rfl rfl ?_
        refine V_aload_n (pc := 27) 0 dX2_pinsFor_27 rfl rfl ?_
        refine V_getR (pc := 28) (c := 4) (k := 9) dX2_pinsFor_28 (by decide) (by decide) kw248 rfl rfl (L4_0 H0) (L4_r9 H0) ?_
        refine V_getR (pc := 31) (c := 1) (k := 1) dX2_pinsFor_31 (by decide) (by decide) kw206 rfl rfl (L1_0 (L4_o9 H0)) (L1_r1 (L4_o9 H0)) ?_
        refine V_iload (pc := 34) 4 dX2_pinsFor_34 rfl ?_
        obtain ⟨b5, h⟩ := ite_o h
        refine V_iald (pc := 36) dX2_pinsFor_36 (L1_s1 (L4_o9 H0)) (inB_vp b5) ?_
        refine V_iload_n (pc := 37) 2 dX2_pinsFor_37 rfl rfl ?_
        obtain ⟨x7, h6, h⟩ := bnd h
        refine V_cS3 (pc := 38) dX2_pinsFor_38 kw1052 calX10_pinsThere kw891 (by decide) (Nat.le_of_ble_eq_true rfl) (ctX10_pinsThere H0 h6) ?_
        refine V_istore (pc := 41) (lv1 := [(5, _), (0, _), (1, _), (2, _), (3, _), (4, _)]) dX2_pinsFor_41 (by decide) rfl ?_
        refine V_iload_n (pc := 43) 4 dX2_pinsFor_43 rfl rfl ?_
        refine V_iload (pc := 44) 0 dX2_pinsFor_44 rfl ?_
        refine V_cS1 (pc := 46) dX2_pinsFor_46 kw1053 calX10_countFor kw922 (by decide) (Nat.le_of_ble_eq_true rfl) (ctX10_countFor) ?_
        refine V_if_le (pc := 49) (tgt := 57) dX2_pinsFor_49 (by decide) (fun c10 => ?_) (fun c10 => ?_)
        · have h := ite_p c10 h
          refine V_iconst (pc := 57) (x := 0) dX2_pinsFor_57 (by decide) ?_
          refine V_ior (pc := 58) dX2_pinsFor_58 ?_
          refine V_istore_n (pc := 59) (lv1 := [(3, _), (5, _), (0, _), (1, _), (2, _), (4, _)]) dX2_pinsFor_59 rfl (by decide) rfl ?_
          refine V_iinc (pc := 60) (lv1 := [(4, _), (3, _), (5, _), (0, _), (1, _), (2, _)]) (z := _ + (1 : Int32)) 5 dX2_pinsFor_60 rfl rfl (by decide) rfl ?_
          refine V_goto (pc := 63) (tgt := 5) dX2_pinsFor_63 (by decide) ?_
          exact V_sub [3, 4, 5, 1, 0] rfl (ih (v3 ||| (0 : Int32)) (v4 + (1 : Int32)) h)
        · have h := ite_n c10 h
          refine V_iload (pc := 52) 0 dX2_pinsFor_52 rfl ?_
          refine V_goto (pc := 54) (tgt := 58) dX2_pinsFor_54 (by decide) ?_
          refine V_ior (pc := 58) dX2_pinsFor_58 ?_
          refine V_istore_n (pc := 59) (lv1 := [(3, _), (5, _), (0, _), (1, _), (2, _), (4, _)]) dX2_pinsFor_59 rfl (by decide) rfl ?_
          refine V_iinc (pc := 60) (lv1 := [(4, _), (3, _), (5, _), (0, _), (1, _), (2, _)]) (z := _ + (1 : Int32)) 5 dX2_pinsFor_60 rfl rfl (by decide) rfl ?_
          refine V_goto (pc := 63) (tgt := 5) dX2_pinsFor_63 (by decide) ?_
          exact V_sub [3, 4, 5, 1, 0] rfl (ih (v3 ||| x7) (v4 + (1 : Int32)) h)
theorem calX2_pinsFor : Cal yX2_pinsFor cX2_pinsFor 6 (some .int) 3 := ⟨kw1050, kw10, by decide +kernel⟩
theorem ctX2_pinsFor {G : Gl} {σ : Sg} {d : Dt} {r0 : Nat} {v1 : Int32} {v2 : Int32} {rr : Int32} (H0 : L4 σ r0) (h : mX2_pinsFor r0 v1 v2 d = some rr) : CTv G yX2_pinsFor cX2_pinsFor 6 (some .int) 3 [.ref (gB G + r0), .int v1, .int v2] σ d [.int rr] d := by
  refine CT_of pn_RX2 (Nat.le_of_ble_eq_true rfl) ?_
  rw [mX2_pinsFor] at h
  refine V_iconst (pc := 0) (x := 0) dX2_pinsFor_0 (by decide) ?_
  refine V_istore_n (pc := 1) (lv1 := [(3, _), (0, _), (1, _), (2, _)]) dX2_pinsFor_1 rfl (by decide) rfl ?_
  refine V_iconst (pc := 2) (x := 0) dX2_pinsFor_2 (by decide) ?_
  refine V_istore (pc := 3) (lv1 := [(4, _), (3, _), (0, _), (1, _), (2, _)]) dX2_pinsFor_3 (by decide) rfl ?_
  exact V_sub [2, 3, 4, 1, 0] rfl (wX2_pinsFor_5 H0 FUEL (0 : Int32) (0 : Int32) h)
theorem wX10_lengthOf_36 {G : Gl} {σ : Sg} {d : Dt} {r0 : Nat} {v1 : Int32} {v2 : Int32} {vs0 : Int32} {rr : Int32} (H0 : L4 σ r0) (h : mX10_lengthOf_36 d r0 v1 v2 vs0 = some rr) : V G yX10_lengthOf cX10_lengthOf 5 (some .int) 3 0 0 (PH [.int rr] σ d) 36 [(0, .ref (gB G + r0)), (1, .int v1), (2, .int v2)] [.int vs0] σ d := by
  rw [mX10_lengthOf_36] at h
  refine V_istore (pc := 36) (lv1 := [(4, _), (0, _), (1, _), (2, _)]) dX10_lengthOf_36 (by decide) rfl ?_
  refine V_aload_n (pc := 38) 1 dX10_lengthOf_38 rfl rfl ?_
  refine V_iload_n (pc := 39) 2 dX10_lengthOf_39 rfl rfl ?_
  refine V_iload_n (pc := 40) 3 dX10_lengthOf_40 rfl rfl ?_
  refine V_aload_n (pc := 41) 1 dX10_lengthOf_41 rfl rfl ?_
  refine V_iload_n (pc := 42) 2 dX10_lengthOf_42 rfl rfl ?_
  refine V_iload_n (pc := 43) 3 dX10_lengthOf_43 rfl rfl ?_
  obtain ⟨x6, h5, h⟩ := bnd h
  refine V_cS3 (pc := 44) dX10_lengthOf_44 kw932 calX10_hubOf kw907 (by decide) (Nat.le_of_ble_eq_true rfl) (ctX10_hubOf H0 h5) ?_
  obtain ⟨x8, h7, h⟩ := bnd h
  refine V_cS4 (pc := 47) dX10_lengthOf_47 kw914 calX10_reachOf kw915 (by decide) (Nat.le_of_ble_eq_true rfl) (ctX10_reachOf H0 h7) ?_
  refine V_iload (pc := 50) 0 dX10_lengthOf_50 rfl ?_
  refine V_iadd (pc := 52) dX10_lengthOf_52 ?_
  cases h
  exact V_ret (pc := 53) dX10_lengthOf_53 ⟨rfl, _, rfl⟩ ⟨rfl, rfl, rfl⟩
theorem calX10_lengthOf : Cal yX10_lengthOf cX10_lengthOf 5 (some .int) 3 := ⟨kw949, kw18, by decide +kernel⟩
theorem ctX10_lengthOf {G : Gl} {σ : Sg} {d : Dt} {r0 : Nat} {v1 : Int32} {v2 : Int32} {rr : Int32} (H0 : L4 σ r0) (h : mX10_lengthOf r0 v1 v2 d = some rr) : CTv G yX10_lengthOf cX10_lengthOf 5 (some .int) 3 [.ref (gB G + r0), .int v1, .int v2] σ d [.int rr] d := by
  refine CT_of pn_RX10 (Nat.le_of_ble_eq_true rfl) ?_
  rw [mX10_lengthOf] at h
  refine V_iload_n (pc := 0) 2 dX10_lengthOf_0 rfl rfl ?_
  refine V_cS1 (pc := 1) dX10_lengthOf_1 kw933 calX10_countFor kw922 (by decide) (Nat.le_of_ble_eq_true rfl) (ctX10_countFor) ?_
  refine V_istore_n (pc := 4) (lv1 := [(3, _), (0, _), (1, _), (2, _)]) dX10_lengthOf_4 rfl (by decide) rfl ?_
  refine V_iload_n (pc := 5) 0 dX10_lengthOf_5 rfl rfl ?_
  refine V_if_ne (pc := 6) (tgt := 11) dX10_lengthOf_6 (by decide) (fun c3 => ?_) (fun c3 => ?_)
  · have h := ite_n c3 h
    refine V_iload_n (pc := 11) 0 dX10_lengthOf_11 rfl rfl ?_
    refine V_iconst (pc := 12) (x := 1) dX10_lengthOf_12 (by decide) ?_
    refine V_icmp_ne (pc := 13) (tgt := 25) dX10_lengthOf_13 (by decide) (fun c4 => ?_) (fun c4 => ?_)
    · have h := ite_n c4 h
      refine V_iload_n (pc := 25) 0 dX10_lengthOf_25 rfl rfl ?_
      refine V_aload_n (pc := 26) 1 dX10_lengthOf_26 rfl rfl ?_
      refine V_getI (pc := 27) (c := 4) (k := 0) dX10_lengthOf_27 (by decide) (by decide) kw220 rfl rfl (L4_0 H0) ?_
      refine V_aload_n (pc := 30) 1 dX10_lengthOf_30 rfl rfl ?_
      refine V_getI (pc := 31) (c := 4) (k := 1) dX10_lengthOf_31 (by decide) (by decide) kw224 rfl rfl (L4_0 H0) ?_
      refine V_iadd (pc := 34) dX10_lengthOf_34 ?_
      refine V_imul (pc := 35) dX10_lengthOf_35 ?_
      exact V_sub [1, 2, 3] rfl (wX10_lengthOf_36 H0 h)
    · have h := ite_p c4 h
      refine V_iconst (pc := 16) (x := 2) dX10_lengthOf_16 (by decide) ?_
      refine V_aload_n (pc := 17) 1 dX10_lengthOf_17 rfl rfl ?_
      refine V_getI (pc := 18) (c := 4) (k := 0) dX10_lengthOf_18 (by decide) (by decide) kw220 rfl rfl (L4_0 H0) ?_
      refine V_imul (pc := 21) dX10_lengthOf_21 ?_
      refine V_goto (pc := 22) (tgt := 36) dX10_lengthOf_22 (by decide) ?_
      exact V_sub [1, 2, 3] rfl (wX10_lengthOf_36 H0 h)
  · have h := ite_p c3 h
    refine V_iconst (pc := 9) (x := 0) dX10_lengthOf_9 (by decide) ?_
    cases h
    exact V_ret (pc := 10) dX10_lengthOf_10 ⟨rfl, _, rfl⟩ ⟨rfl, rfl, rfl⟩
theorem wX2_lengthFor_4 {G : Gl} {σ : Sg} {d : Dt} {r0 : Nat} {v1 : Int32} {rr : Int32} (H0 : L4 σ r0) : ∀ (n : Nat) (v2 : Int32) (v3 : Int32), mX2_lengthFor_4 d r0 v1 n v2 v3 = some rr → V G yX2_lengthFor cX2_lengthFor 4 (some .int) 4 0 0 (PH [.int rr] σ d) 4 [(0, .ref (gB G + r0)), (1, .int v1), (2, .int v2), (3, .int v3)] [] σ d := by
  intro n
  induction n with
  | zero =>
    intro v2 v3
    intros
    rename_i h
    exact absurd h (by rw [mX2_lengthFor_4]; exact fun q => nomatch q)
  | succ n ih =>
    intro v2 v3 h
    rw [mX2_lengthFor_4] at h
    refine V_iload_n (pc := 4) 3 dX2_lengthFor_4 rfl rfl ?_
    refine V_aload_n (pc := 5) 0 dX2_lengthFor_5 rfl rfl ?_
    refine V_getR (pc := 6) (c := 4) (k := 8) dX2_lengthFor_6 (by decide) (by decide) kw246 rfl rfl (L4_0 H0) (L4_r8 H0) ?_
    refine V_getI (pc := 9) (c := 5) (k := 0) dX2_lengthFor_9 (by decide) (by decide) kw142 rfl rfl (L5_0 (L4_o8 H0)) ?_
    refine V_icmp_ge (pc := 12) (tgt := 35) dX2_lengthFor_12 (by decide) (fun c1 => ?_) (fun c1 => ?_)
    · have h := ite_p c1 h
      refine V_iload_n (pc := 35) 2 dX2_lengthFor_35 rfl rfl ?_
      cases h
      exact V_ret (pc := 36) dX2_lengthFor_36 ⟨rfl, _, rfl⟩ ⟨rfl, rfl, rfl⟩
    · have h := ite_n c1 h
      refine V_iload_n (pc := 15) 2 dX2_lengthFor_15 rfl rfl ?_
      refine V_aload_n (pc := 16) 0 dX2_lengthFor_16 rfl rfl ?_
      refine V_iload_n (pc := 17) 3 dX2_lengthFor_17 rfl rfl ?_
      refine V_aload_n (pc := 18) 0 dX2_lengthFor_18 rfl rfl ?_
      refine V_iload_n (pc := 19) 1 dX2_lengthFor_19 rfl rfl ?_
      refine V_iload_n (pc := 20) 3 dX2_lengthFor_20 rfl rfl ?_
      obtain ⟨x3, h2, h⟩ := bnd h
      refine V_cS3 (pc := 21) dX2_lengthFor_21 kw1048 calX2_pinsFor kw1049 (by decide) (Nat.le_of_ble_eq_true rfl) (ctX2_pinsFor H0 h2) ?_
      obtain ⟨x5, h4, h⟩ := bnd h
      refine V_cS3 (pc := 24) dX2_lengthFor_24 kw1054 calX10_lengthOf kw948 (by decide) (Nat.le_of_ble_eq_true rfl) (ctX10_lengthOf H0 h4) ?_
      refine V_iadd (pc := 27) dX2_lengthFor_27 ?_
      refine V_istore_n (pc := 28) (lv1 := [(2, _), (0, _), (1, _), (3, _)]) dX2_lengthFor_28 rfl (by decide) rfl ?_
      refine V_iinc (pc := 29) (lv1 := [(3, _), (2, _), (0, _), (1, _)]) (z := _ + (1 : Int32)) 3 dX2_lengthFor_29 rfl rfl (by decide) rfl ?_
      refine V_goto (pc := 32) (tgt := 4) dX2_lengthFor_32 (by decide) ?_
      exact V_sub [2, 3, 1, 0] rfl (ih (v2 + x5) (v3 + (1 : Int32)) h)
theorem calX2_lengthFor : Cal yX2_lengthFor cX2_lengthFor 4 (some .int) 2 := ⟨kw1047, kw10, by decide +kernel⟩
theorem ctX2_lengthFor {G : Gl} {σ : Sg} {d : Dt} {r0 : Nat} {v1 : Int32} {rr : Int32} (H0 : L4 σ r0) (h : mX2_lengthFor r0 v1 d = some rr) : CTv G yX2_lengthFor cX2_lengthFor 4 (some .int) 4 [.ref (gB G + r0), .int v1] σ d [.int rr] d := by
  refine CT_of pn_RX2 (Nat.le_of_ble_eq_true rfl) ?_
  rw [mX2_lengthFor] at h
  refine V_iconst (pc := 0) (x := 0) dX2_lengthFor_0 (by decide) ?_
  refine V_istore_n (pc := 1) (lv1 := [(2, _), (0, _), (1, _)]) dX2_lengthFor_1 rfl (by decide) rfl ?_
  refine V_iconst (pc := 2) (x := 0) dX2_lengthFor_2 (by decide) ?_
  refine V_istore_n (pc := 3) (lv1 := [(3, _), (2, _), (0, _), (1, _)]) dX2_lengthFor_3 rfl (by decide) rfl ?_
  exact V_sub [2, 3, 1, 0] rfl (wX2_lengthFor_4 H0 FUEL (0 : Int32) (0 : Int32) h)
theorem calX11_common : Cal yX11_common cX11_common 3 (some .int) 1 := ⟨kw1040, kw1, by decide +kernel⟩
theorem ctX11_common {G : Gl} {σ : Sg} {d : Dt} {r0 : Nat} {r0h : Nat} {r0p : Nat} {v1 : Int32} {rr : Int32 × Dt} (H0 : L10 σ r0 r0h r0p) (h : mX11_common r0 r0h r0p v1 d = some rr) : CTv G yX11_common cX11_common 3 (some .int) 5 [.ref (gB G + r0), .int v1] σ d [.int rr.1] rr.2 := by
  refine CT_of pn_RX11 (Nat.le_of_ble_eq_true rfl) ?_
  rw [mX11_common] at h
  refine V_aload_n (pc := 0) 0 dX11_common_0 rfl rfl ?_
  refine V_aload_n (pc := 1) 0 dX11_common_1 rfl rfl ?_
  refine V_getI (pc := 2) (c := 10) (k := 4) dX11_common_2 (by decide) (by decide) kw358 rfl rfl (L10_0 H0) ?_
  refine V_iload_n (pc := 5) 1 dX11_common_5 rfl rfl ?_
  refine V_cV2 (pc := 6) dX11_common_6 kw1041 calX11_troubleOfBuilds kw1043 ks44 (L10_0 H0) rfl (by decide) (Nat.le_of_ble_eq_true rfl) (ctX11_troubleOfBuilds H0) ?_
  refine V_istore_n (pc := 9) (lv1 := [(2, _), (0, _), (1, _)]) dX11_common_9 rfl (by decide) rfl ?_
  refine V_iload_n (pc := 10) 0 dX11_common_10 rfl rfl ?_
  refine V_if_eq (pc := 11) (tgt := 22) dX11_common_11 (by decide) (fun c3 => ?_) (fun c3 => ?_)
  · have h := ite_p c3 h
    refine V_aload_n (pc := 22) 1 dX11_common_22 rfl rfl ?_
    refine V_aload_n (pc := 23) 1 dX11_common_23 rfl rfl ?_
    refine V_getR (pc := 24) (c := 10) (k := 2) dX11_common_24 (by decide) (by decide) kw356 rfl rfl (L10_0 H0) (L10_r2 H0) ?_
    refine V_iload_n (pc := 27) 2 dX11_common_27 rfl rfl ?_
    obtain ⟨x5, h4, h⟩ := bnd h
    refine V_cS2 (pc := 28) dX11_common_28 kw1045 calX2_lengthFor kw1046 (by decide) (Nat.le_of_ble_eq_true rfl) (ctX2_lengthFor (L10_o2 H0) h4) ?_
    refine V_cV1 (pc := 31) dX11_common_31 kw720 calX11_answer kw722 ks29 (L10_0 H0) rfl (by decide) (Nat.le_of_ble_eq_true rfl) (ctX11_answer H0) ?_
    cases h
    exact V_ret (pc := 34) dX11_common_34 ⟨rfl, _, rfl⟩ ⟨rfl, rfl, rfl⟩
  · have h := ite_n c3 h
    refine V_aload_n (pc := 14) 1 dX11_common_14 rfl rfl ?_
    refine V_iload_n (pc := 15) 0 dX11_common_15 rfl rfl ?_
    refine V_cV1 (pc := 16) dX11_common_16 kw403 calX11_refuse kw405 ks1 (L10_0 H0) rfl (by decide) (Nat.le_of_ble_eq_true rfl) (ctX11_refuse H0) ?_
    refine V_goto (pc := 19) (tgt := 34) dX11_common_19 (by decide) ?_
    cases h
    exact V_ret (pc := 34) dX11_common_34 ⟨rfl, _, rfl⟩ ⟨rfl, rfl, rfl⟩
theorem calX11_isNet : Cal yX11_isNet cX11_isNet 2 (some .boolean) 1 := ⟨kw862, kw1, by decide +kernel⟩
theorem ctX11_isNet {G : Gl} {σ : Sg} {d : Dt} {r0 : Nat} {r0h : Nat} {r0p : Nat} {v1 : Int32} (H0 : L10 σ r0 r0h r0p) : CTv G yX11_isNet cX11_isNet 2 (some .boolean) 0 [.ref (gB G + r0), .int v1] σ d [.int (b2i (mX11_isNet r0 r0h r0p v1 d))] d := by
  refine CT_of pn_RX11 (Nat.le_of_ble_eq_true rfl) ?_
  generalize h : mX11_isNet r0 r0h r0p v1 d = rr
  rw [mX11_isNet] at h
  refine V_iload_n (pc := 0) 1 dX11_isNet_0 rfl rfl ?_
  refine V_if_lt (pc := 1) (tgt := 22) dX11_isNet_1 (by decide) (fun c1 => ?_) (fun c1 => ?_)
  · have h := ite_p c1 h
    refine V_iconst (pc := 22) (x := 0) dX11_isNet_22 (by decide) ?_
    subst h
    exact V_ret (pc := 23) dX11_isNet_23 ⟨rfl, _, rfl, rfl⟩ ⟨rfl, rfl, rfl⟩
  · have h := ite_n c1 h
    refine V_iload_n (pc := 4) 1 dX11_isNet_4 rfl rfl ?_
    refine V_aload_n (pc := 5) 0 dX11_isNet_5 rfl rfl ?_
    refine V_getR (pc := 6) (c := 10) (k := 2) dX11_isNet_6 (by decide) (by decide) kw356 rfl rfl (L10_0 H0) (L10_r2 H0) ?_
    refine V_getR (pc := 9) (c := 4) (k := 8) dX11_isNet_9 (by decide) (by decide) kw244 rfl rfl (L4_0 (L10_o2 H0)) (L4_r8 (L10_o2 H0)) ?_
    refine V_getI (pc := 12) (c := 5) (k := 0) dX11_isNet_12 (by decide) (by decide) kw141 rfl rfl (L5_0 (L4_o8 (L10_o2 H0))) ?_
    refine V_icmp_ge (pc := 15) (tgt := 22) dX11_isNet_15 (by decide) (fun c2 => ?_) (fun c2 => ?_)
    · have h := ite_p c2 h
      refine V_iconst (pc := 22) (x := 0) dX11_isNet_22 (by decide) ?_
      subst h
      exact V_ret (pc := 23) dX11_isNet_23 ⟨rfl, _, rfl, rfl⟩ ⟨rfl, rfl, rfl⟩
    · have h := ite_n c2 h
      refine V_iconst (pc := 18) (x := 1) dX11_isNet_18 (by decide) ?_
      refine V_goto (pc := 19) (tgt := 23) dX11_isNet_19 (by decide) ?_
      subst h
      exact V_ret (pc := 23) dX11_isNet_23 ⟨rfl, _, rfl, rfl⟩ ⟨rfl, rfl, rfl⟩
theorem calX11_commonPins : Cal yX11_commonPins cX11_commonPins 4 (some .int) 2 := ⟨kw1058, kw1, by decide +kernel⟩
theorem ctX11_commonPins {G : Gl} {σ : Sg} {d : Dt} {r0 : Nat} {r0h : Nat} {r0p : Nat} {v1 : Int32} {v2 : Int32} {rr : Int32 × Dt} (H0 : L10 σ r0 r0h r0p) (h : mX11_commonPins r0 r0h r0p v1 v2 d = some rr) : CTv G yX11_commonPins cX11_commonPins 4 (some .int) 4 [.ref (gB G + r0), .int v1, .int v2] σ d [.int rr.1] rr.2 := by
  refine CT_of pn_RX11 (Nat.le_of_ble_eq_true rfl) ?_
  rw [mX11_commonPins] at h
  refine V_aload_n (pc := 0) 0 dX11_commonPins_0 rfl rfl ?_
  refine V_aload_n (pc := 1) 0 dX11_commonPins_1 rfl rfl ?_
  refine V_iload_n (pc := 2) 2 dX11_commonPins_2 rfl rfl ?_
  refine V_cV1 (pc := 3) dX11_commonPins_3 kw859 calX11_isNet kw861 ks36 (L10_0 H0) rfl (by decide) (Nat.le_of_ble_eq_true rfl) (ctX11_isNet H0) ?_
  refine V_iload_n (pc := 6) 1 dX11_commonPins_6 rfl rfl ?_
  refine V_cV2 (pc := 7) dX11_commonPins_7 kw1041 calX11_troubleOfBuilds kw1043 ks44 (L10_0 H0) rfl (by decide) (Nat.le_of_ble_eq_true rfl) (ctX11_troubleOfBuilds H0) ?_
  refine V_istore_n (pc := 10) (lv1 := [(3, _), (0, _), (1, _), (2, _)]) dX11_commonPins_10 rfl (by decide) rfl ?_
  refine V_iload_n (pc := 11) 0 dX11_commonPins_11 rfl rfl ?_
  refine V_if_eq (pc := 12) (tgt := 23) dX11_commonPins_12 (by decide) (fun c5 => ?_) (fun c5 => ?_)
  · have h := ite_p c5 h
    refine V_aload_n (pc := 23) 1 dX11_commonPins_23 rfl rfl ?_
    refine V_aload_n (pc := 24) 1 dX11_commonPins_24 rfl rfl ?_
    refine V_getR (pc := 25) (c := 10) (k := 2) dX11_commonPins_25 (by decide) (by decide) kw356 rfl rfl (L10_0 H0) (L10_r2 H0) ?_
    refine V_iload_n (pc := 28) 2 dX11_commonPins_28 rfl rfl ?_
    refine V_iload_n (pc := 29) 3 dX11_commonPins_29 rfl rfl ?_
    obtain ⟨x7, h6, h⟩ := bnd h
    refine V_cS3 (pc := 30) dX11_commonPins_30 kw1059 calX2_pinsFor kw1049 (by decide) (Nat.le_of_ble_eq_true rfl) (ctX2_pinsFor (L10_o2 H0) h6) ?_
    refine V_cV1 (pc := 33) dX11_commonPins_33 kw720 calX11_answer kw722 ks29 (L10_0 H0) rfl (by decide) (Nat.le_of_ble_eq_true rfl) (ctX11_answer H0) ?_
    cases h
    exact V_ret (pc := 36) dX11_commonPins_36 ⟨rfl, _, rfl⟩ ⟨rfl, rfl, rfl⟩
  · have h := ite_n c5 h
    refine V_aload_n (pc := 15) 1 dX11_commonPins_15 rfl rfl ?_
    refine V_iload_n (pc := 16) 0 dX11_commonPins_16 rfl rfl ?_
    refine V_cV1 (pc := 17) dX11_commonPins_17 kw403 calX11_refuse kw405 ks1 (L10_0 H0) rfl (by decide) (Nat.le_of_ble_eq_true rfl) (ctX11_refuse H0) ?_
    refine V_goto (pc := 20) (tgt := 36) dX11_commonPins_20 (by decide) ?_
    cases h
    exact V_ret (pc := 36) dX11_commonPins_36 ⟨rfl, _, rfl⟩ ⟨rfl, rfl, rfl⟩
theorem calX11_refuseNumber : Cal yX11_refuseNumber cX11_refuseNumber 2 (some .int) 1 := ⟨kw788, kw1, by decide +kernel⟩
theorem ctX11_refuseNumber {G : Gl} {σ : Sg} {d : Dt} {r0 : Nat} {r0h : Nat} {r0p : Nat} {v1 : Int32} (H0 : L10 σ r0 r0h r0p) : CTv G yX11_refuseNumber cX11_refuseNumber 2 (some .int) 0 [.ref (gB G + r0), .int v1] σ d [.int (mX11_refuseNumber r0 r0h r0p v1 d).1] (mX11_refuseNumber r0 r0h r0p v1 d).2 := by
  refine CT_of pn_RX11 (Nat.le_of_ble_eq_true rfl) ?_
  generalize h : mX11_refuseNumber r0 r0h r0p v1 d = rr
  rw [mX11_refuseNumber] at h
  refine V_aload_n (pc := 0) 0 dX11_refuseNumber_0 rfl rfl ?_
  refine V_iload_n (pc := 1) 1 dX11_refuseNumber_1 rfl rfl ?_
  refine V_putI (pc := 2) (c := 10) (k := 9) dX11_refuseNumber_2 (by decide) (by decide) kw363 rfl rfl rfl ⟨rfl, rfl⟩ (L10_0 H0) ?_
  refine V_ldcw (pc := 5) dX11_refuseNumber_5 kw789 ?_
  subst h
  exact V_ret (pc := 8) dX11_refuseNumber_8 ⟨rfl, _, rfl⟩ ⟨rfl, rfl, rfl⟩
theorem wX9_leastOf_4 {G : Gl} {σ : Sg} {d : Dt} {r0 : Nat} {r1 : Nat} {rr : Int32} (H0 : L9 σ r0) (H1 : σ.2.1 r1 = some (1, 14)) : ∀ (n : Nat) (v2 : Int32) (v3 : Int32), mX9_leastOf_4 d r0 r1 n v2 v3 = some rr → V G yX9_leastOf cX9_leastOf 4 (some .int) 3 0 0 (PH [.int rr] σ d) 4 [(0, .ref (gB G + r0)), (1, .ref (gB G + r1)), (2, .int v2), (3, .int v3)] [] σ d := by
  intro n
  induction n with
  | zero =>
    intro v2 v3
    intros
    rename_i h
    exact absurd h (by rw [mX9_leastOf_4]; exact fun q => nomatch q)
  | succ n ih =>
    intro v2 v3 h
    rw [mX9_leastOf_4] at h
    refine V_iload_n (pc := 4) 3 dX9_leastOf_4 rfl rfl ?_
    refine V_aload_n (pc := 5) 0 dX9_leastOf_5 rfl rfl ?_
    refine V_getI (pc := 6) (c := 9) (k := 0) dX9_leastOf_6 (by decide) (by decide) kw47 rfl rfl (L9_0 H0) ?_
    refine V_icmp_ge (pc := 9) (tgt := 26) dX9_leastOf_9 (by decide) (fun c1 => ?_) (fun c1 => ?_)
    · have h := ite_p c1 h
      refine V_iload_n (pc := 26) 2 dX9_leastOf_26 rfl rfl ?_
      cases h
      exact V_ret (pc := 27) dX9_leastOf_27 ⟨rfl, _, rfl⟩ ⟨rfl, rfl, rfl⟩
    · have h := ite_n c1 h
      refine V_iload_n (pc := 12) 2 dX9_leastOf_12 rfl rfl ?_
      refine V_aload_n (pc := 13) 1 dX9_leastOf_13 rfl rfl ?_
      refine V_iload_n (pc := 14) 3 dX9_leastOf_14 rfl rfl ?_
      obtain ⟨b2, h⟩ := ite_o h
      refine V_iald (pc := 15) dX9_leastOf_15 H1 (inB_vp b2) ?_
      refine V_mmin (pc := 16) dX9_leastOf_16 kw801 (by decide) (Nat.le_of_ble_eq_true rfl) ?_
      refine V_istore_n (pc := 19) (lv1 := [(2, _), (0, _), (1, _), (3, _)]) dX9_leastOf_19 rfl (by decide) rfl ?_
      refine V_iinc (pc := 20) (lv1 := [(3, _), (2, _), (0, _), (1, _)]) (z := _ + (1 : Int32)) 3 dX9_leastOf_20 rfl rfl (by decide) rfl ?_
      refine V_goto (pc := 23) (tgt := 4) dX9_leastOf_23 (by decide) ?_
      exact V_sub [2, 3, 1, 0] rfl (ih (mnI v2 (d.1 r1 v3.toNatClampNeg)) (v3 + (1 : Int32)) h)
theorem calX9_leastOf : Cal yX9_leastOf cX9_leastOf 4 (some .int) 1 := ⟨kw833, kw3, by decide +kernel⟩
theorem ctX9_leastOf {G : Gl} {σ : Sg} {d : Dt} {r0 : Nat} {r1 : Nat} {rr : Int32} (H0 : L9 σ r0) (H1 : σ.2.1 r1 = some (1, 14)) (h : mX9_leastOf r0 r1 d = some rr) : CTv G yX9_leastOf cX9_leastOf 4 (some .int) 3 [.ref (gB G + r0), .ref (gB G + r1)] σ d [.int rr] d := by
  refine CT_of pn_RX9 (Nat.le_of_ble_eq_true rfl) ?_
  rw [mX9_leastOf] at h
  refine V_iconst (pc := 0) (x := 0) dX9_leastOf_0 (by decide) ?_
  refine V_istore_n (pc := 1) (lv1 := [(2, _), (0, _), (1, _)]) dX9_leastOf_1 rfl (by decide) rfl ?_
  refine V_iconst (pc := 2) (x := 0) dX9_leastOf_2 (by decide) ?_
  refine V_istore_n (pc := 3) (lv1 := [(3, _), (2, _), (0, _), (1, _)]) dX9_leastOf_3 rfl (by decide) rfl ?_
  exact V_sub [2, 3, 1, 0] rfl (wX9_leastOf_4 H0 H1 FUEL (0 : Int32) (0 : Int32) h)
theorem wX9_greatestOf_4 {G : Gl} {σ : Sg} {d : Dt} {r0 : Nat} {r1 : Nat} {rr : Int32} (H0 : L9 σ r0) (H1 : σ.2.1 r1 = some (1, 14)) : ∀ (n : Nat) (v2 : Int32) (v3 : Int32), mX9_greatestOf_4 d r0 r1 n v2 v3 = some rr → V G yX9_greatestOf cX9_greatestOf 4 (some .int) 3 0 0 (PH [.int rr] σ d) 4 [(0, .ref (gB G + r0)), (1, .ref (gB G + r1)), (2, .int v2), (3, .int v3)] [] σ d := by
  intro n
  induction n with
  | zero =>
    intro v2 v3
    intros
    rename_i h
    exact absurd h (by rw [mX9_greatestOf_4]; exact fun q => nomatch q)
  | succ n ih =>
    intro v2 v3 h
    rw [mX9_greatestOf_4] at h
    refine V_iload_n (pc := 4) 3 dX9_greatestOf_4 rfl rfl ?_
    refine V_aload_n (pc := 5) 0 dX9_greatestOf_5 rfl rfl ?_
    refine V_getI (pc := 6) (c := 9) (k := 0) dX9_greatestOf_6 (by decide) (by decide) kw47 rfl rfl (L9_0 H0) ?_
    refine V_icmp_ge (pc := 9) (tgt := 26) dX9_greatestOf_9 (by decide) (fun c1 => ?_) (fun c1 => ?_)
    · have h := ite_p c1 h
      refine V_iload_n (pc := 26) 2 dX9_greatestOf_26 rfl rfl ?_
      cases h
      exact V_ret (pc := 27) dX9_greatestOf_27 ⟨rfl, _, rfl⟩ ⟨rfl, rfl, rfl⟩
    · have h := ite_n c1 h
      refine V_iload_n (pc := 12) 2 dX9_greatestOf_12 rfl rfl ?_
      refine V_aload_n (pc := 13) 1 dX9_greatestOf_13 rfl rfl ?_
      refine V_iload_n (pc := 14) 3 dX9_greatestOf_14 rfl rfl ?_
      obtain ⟨b2, h⟩ := ite_o h
      refine V_iald (pc := 15) dX9_greatestOf_15 H1 (inB_vp b2) ?_
      refine V_mmax (pc := 16) dX9_greatestOf_16 kw802 (by decide) (Nat.le_of_ble_eq_true rfl) ?_
      refine V_istore_n (pc := 19) (lv1 := [(2, _), (0, _), (1, _), (3, _)]) dX9_greatestOf_19 rfl (by decide) rfl ?_
      refine V_iinc (pc := 20) (lv1 := [(3, _), (2, _), (0, _), (1, _)]) (z := _ + (1 : Int32)) 3 dX9_greatestOf_20 rfl rfl (by decide) rfl ?_
      refine V_goto (pc := 23) (tgt := 4) dX9_greatestOf_23 (by decide) ?_
      exact V_sub [2, 3, 1, 0] rfl (ih (mxI v2 (d.1 r1 v3.toNatClampNeg)) (v3 + (1 : Int32)) h)
theorem calX9_greatestOf : Cal yX9_greatestOf cX9_greatestOf 4 (some .int) 1 := ⟨kw837, kw3, by decide +kernel⟩
theorem ctX9_greatestOf {G : Gl} {σ : Sg} {d : Dt} {r0 : Nat} {r1 : Nat} {rr : Int32} (H0 : L9 σ r0) (H1 : σ.2.1 r1 = some (1, 14)) (h : mX9_greatestOf r0 r1 d = some rr) : CTv G yX9_greatestOf cX9_greatestOf 4 (some .int) 3 [.ref (gB G + r0), .ref (gB G + r1)] σ d [.int rr] d := by
  refine CT_of pn_RX9 (Nat.le_of_ble_eq_true rfl) ?_
  rw [mX9_greatestOf] at h
  refine V_iconst (pc := 0) (x := 0) dX9_greatestOf_0 (by decide) ?_
  refine V_istore_n (pc := 1) (lv1 := [(2, _), (0, _), (1, _)]) dX9_greatestOf_1 rfl (by decide) rfl ?_
  refine V_iconst (pc := 2) (x := 0) dX9_greatestOf_2 (by decide) ?_
  refine V_istore_n (pc := 3) (lv1 := [(3, _), (2, _), (0, _), (1, _)]) dX9_greatestOf_3 rfl (by decide) rfl ?_
  exact V_sub [2, 3, 1, 0] rfl (wX9_greatestOf_4 H0 H1 FUEL (0 : Int32) (0 : Int32) h)
theorem calX11_extent : Cal yX11_extent cX11_extent 3 (some .int) 1 := ⟨kw829, kw1, by decide +kernel⟩
theorem ctX11_extent {G : Gl} {σ : Sg} {d : Dt} {r0 : Nat} {r0h : Nat} {r0p : Nat} {v1 : Int32} {rr : Int32 × Dt} (H0 : L10 σ r0 r0h r0p) (h : mX11_extent r0 r0h r0p v1 d = some rr) : CTv G yX11_extent cX11_extent 3 (some .int) 4 [.ref (gB G + r0), .int v1] σ d [.int rr.1] rr.2 := by
  refine CT_of pn_RX11 (Nat.le_of_ble_eq_true rfl) ?_
  rw [mX11_extent] at h
  refine V_aload_n (pc := 0) 0 dX11_extent_0 rfl rfl ?_
  refine V_getI (pc := 1) (c := 10) (k := 4) dX11_extent_1 (by decide) (by decide) kw358 rfl rfl (L10_0 H0) ?_
  refine V_if_ne (pc := 4) (tgt := 13) dX11_extent_4 (by decide) (fun c1 => ?_) (fun c1 => ?_)
  · have h := ite_n c1 h
    refine V_aload_n (pc := 13) 0 dX11_extent_13 rfl rfl ?_
    refine V_getR (pc := 14) (c := 10) (k := 2) dX11_extent_14 (by decide) (by decide) kw356 rfl rfl (L10_0 H0) (L10_r2 H0) ?_
    refine V_getR (pc := 17) (c := 4) (k := 6) dX11_extent_17 (by decide) (by decide) kw233 rfl rfl (L4_0 (L10_o2 H0)) (L4_r6 (L10_o2 H0)) ?_
    refine V_astore_n (pc := 20) (lv1 := [(2, _), (0, _), (1, _)]) dX11_extent_20 rfl (by decide) rfl ?_
    refine V_iload_n (pc := 21) 2 dX11_extent_21 rfl rfl ?_
    rcases Decidable.em (v1 = (0 : Int32)) with c2 | c2
    · have h := ite_p c2 h
      refine V_tcase (pc := 22) (tgt := 52) dX11_extent_22 c2 (by decide) (by decide) rfl (by decide) ?_
      refine V_aload_n (pc := 52) 1 dX11_extent_52 rfl rfl ?_
      refine V_aload_n (pc := 53) 0 dX11_extent_53 rfl rfl ?_
      refine V_aload_n (pc := 54) 0 dX11_extent_54 rfl rfl ?_
      refine V_getR (pc := 55) (c := 9) (k := 4) dX11_extent_55 (by decide) (by decide) kw59 rfl rfl (L9_0 (L4_o6 (L10_o2 H0))) (L9_r4 (L4_o6 (L10_o2 H0))) ?_
      obtain ⟨x21, h20, h⟩ := bnd h
      refine V_cV1 (pc := 58) dX11_extent_58 kw830 calX9_leastOf kw831 kw832 (L9_0 (L4_o6 (L10_o2 H0))) rfl (by decide) (Nat.le_of_ble_eq_true rfl) (ctX9_leastOf (L4_o6 (L10_o2 H0)) (L9_s4 (L4_o6 (L10_o2 H0))) h20) ?_
      refine V_cV1 (pc := 61) dX11_extent_61 kw720 calX11_answer kw722 ks29 (L10_0 H0) rfl (by decide) (Nat.le_of_ble_eq_true rfl) (ctX11_answer H0) ?_
      cases h
      exact V_ret (pc := 64) dX11_extent_64 ⟨rfl, _, rfl⟩ ⟨rfl, rfl, rfl⟩
    · have h := ite_n c2 h
      rcases Decidable.em (v1 = (1 : Int32)) with c3 | c3
      · have h := ite_p c3 h
        refine V_tcase (pc := 22) (tgt := 65) dX11_extent_22 c3 (by decide) (by decide) rfl (by decide) ?_
        refine V_aload_n (pc := 65) 1 dX11_extent_65 rfl rfl ?_
        refine V_aload_n (pc := 66) 0 dX11_extent_66 rfl rfl ?_
        refine V_aload_n (pc := 67) 0 dX11_extent_67 rfl rfl ?_
        refine V_getR (pc := 68) (c := 9) (k := 4) dX11_extent_68 (by decide) (by decide) kw59 rfl rfl (L9_0 (L4_o6 (L10_o2 H0))) (L9_r4 (L4_o6 (L10_o2 H0))) ?_
        obtain ⟨x17, h16, h⟩ := bnd h
        refine V_cV1 (pc := 71) dX11_extent_71 kw834 calX9_greatestOf kw835 kw836 (L9_0 (L4_o6 (L10_o2 H0))) rfl (by decide) (Nat.le_of_ble_eq_true rfl) (ctX9_greatestOf (L4_o6 (L10_o2 H0)) (L9_s4 (L4_o6 (L10_o2 H0))) h16) ?_
        refine V_cV1 (pc := 74) dX11_extent_74 kw720 calX11_answer kw722 ks29 (L10_0 H0) rfl (by decide) (Nat.le_of_ble_eq_true rfl) (ctX11_answer H0) ?_
        cases h
        exact V_ret (pc := 77) dX11_extent_77 ⟨rfl, _, rfl⟩ ⟨rfl, rfl, rfl⟩
      · have h := ite_n c3 h
        rcases Decidable.em (v1 = (2 : Int32)) with c4 | c4
        · have h := ite_p c4 h
          refine V_tcase (pc := 22) (tgt := 78) dX11_extent_22 c4 (by decide) (by decide) rfl (by decide) ?_
          refine V_aload_n (pc := 78) 1 dX11_extent_78 rfl rfl ?_
          refine V_aload_n (pc := 79) 0 dX11_extent_79 rfl rfl ?_
          refine V_aload_n (pc := 80) 0 dX11_extent_80 rfl rfl ?_
          refine V_getR (pc := 81) (c := 9) (k := 5) dX11_extent_81 (by decide) (by decide) kw61 rfl rfl (L9_0 (L4_o6 (L10_o2 H0))) (L9_r5 (L4_o6 (L10_o2 H0))) ?_
          obtain ⟨x13, h12, h⟩ := bnd h
          refine V_cV1 (pc := 84) dX11_extent_84 kw830 calX9_leastOf kw831 kw832 (L9_0 (L4_o6 (L10_o2 H0))) rfl (by decide) (Nat.le_of_ble_eq_true rfl) (ctX9_leastOf (L4_o6 (L10_o2 H0)) (L9_s5 (L4_o6 (L10_o2 H0))) h12) ?_
          refine V_cV1 (pc := 87) dX11_extent_87 kw720 calX11_answer kw722 ks29 (L10_0 H0) rfl (by decide) (Nat.le_of_ble_eq_true rfl) (ctX11_answer H0) ?_
          cases h
          exact V_ret (pc := 90) dX11_extent_90 ⟨rfl, _, rfl⟩ ⟨rfl, rfl, rfl⟩
        · have h := ite_n c4 h
          rcases Decidable.em (v1 = (3 : Int32)) with c5 | c5
          · have h := ite_p c5 h
            refine V_tcase (pc := 22) (tgt := 91) dX11_extent_22 c5 (by decide) (by decide) rfl (by decide) ?_
            refine V_aload_n (pc := 91) 1 dX11_extent_91 rfl rfl ?_
            refine V_aload_n (pc := 92) 0 dX11_extent_92 rfl rfl ?_
            refine V_aload_n (pc := 93) 0 dX11_extent_93 rfl rfl ?_
            refine V_getR (pc := 94) (c := 9) (k := 5) dX11_extent_94 (by decide) (by decide) kw61 rfl rfl (L9_0 (L4_o6 (L10_o2 H0))) (L9_r5 (L4_o6 (L10_o2 H0))) ?_
            obtain ⟨x9, h8, h⟩ := bnd h
            refine V_cV1 (pc := 97) dX11_extent_97 kw834 calX9_greatestOf kw835 kw836 (L9_0 (L4_o6 (L10_o2 H0))) rfl (by decide) (Nat.le_of_ble_eq_true rfl) (ctX9_greatestOf (L4_o6 (L10_o2 H0)) (L9_s5 (L4_o6 (L10_o2 H0))) h8) ?_
            refine V_cV1 (pc := 100) dX11_extent_100 kw720 calX11_answer kw722 ks29 (L10_0 H0) rfl (by decide) (Nat.le_of_ble_eq_true rfl) (ctX11_answer H0) ?_
            cases h
            exact V_ret (pc := 103) dX11_extent_103 ⟨rfl, _, rfl⟩ ⟨rfl, rfl, rfl⟩
          · have h := ite_n c5 h
            refine V_tout (pc := 22) (tgt := 104) dX11_extent_22 (sw4 c2 c3 c4 c5) (by decide) ?_
            refine V_aload_n (pc := 104) 1 dX11_extent_104 rfl rfl ?_
            refine V_iconst (pc := 105) (x := 1) dX11_extent_105 (by decide) ?_
            refine V_cV1 (pc := 106) dX11_extent_106 kw785 calX11_refuseNumber kw787 ks33 (L10_0 H0) rfl (by decide) (Nat.le_of_ble_eq_true rfl) (ctX11_refuseNumber H0) ?_
            cases h
            exact V_ret (pc := 109) dX11_extent_109 ⟨rfl, _, rfl⟩ ⟨rfl, rfl, rfl⟩
  · have h := ite_p c1 h
    refine V_aload_n (pc := 7) 0 dX11_extent_7 rfl rfl ?_
    refine V_iconst (pc := 8) (x := 1) dX11_extent_8 (by decide) ?_
    refine V_cV1 (pc := 9) dX11_extent_9 kw785 calX11_refuseNumber kw787 ks33 (L10_0 H0) rfl (by decide) (Nat.le_of_ble_eq_true rfl) (ctX11_refuseNumber H0) ?_
    cases h
    exact V_ret (pc := 12) dX11_extent_12 ⟨rfl, _, rfl⟩ ⟨rfl, rfl, rfl⟩
theorem calX11_isFamilyCount : Cal yX11_isFamilyCount cX11_isFamilyCount 2 (some .boolean) 1 := ⟨kw1079, kw1, by decide +kernel⟩
theorem ctX11_isFamilyCount {G : Gl} {σ : Sg} {d : Dt} {r0 : Nat} {r0h : Nat} {r0p : Nat} {v1 : Int32} (H0 : L10 σ r0 r0h r0p) : CTv G yX11_isFamilyCount cX11_isFamilyCount 2 (some .boolean) 0 [.ref (gB G + r0), .int v1] σ d [.int (b2i (mX11_isFamilyCount r0 r0h r0p v1))] d := by
  refine CT_of pn_RX11 (Nat.le_of_ble_eq_true rfl) ?_
  generalize h : mX11_isFamilyCount r0 r0h r0p v1 = rr
  rw [mX11_isFamilyCount] at h
  refine V_iload_n (pc := 0) 1 dX11_isFamilyCount_0 rfl rfl ?_
  refine V_iconst (pc := 1) (x := 1) dX11_isFamilyCount_1 (by decide) ?_
  refine V_icmp_lt (pc := 2) (tgt := 14) dX11_isFamilyCount_2 (by decide) (fun c1 => ?_) (fun c1 => ?_)
  · have h := ite_p c1 h
    refine V_iconst (pc := 14) (x := 0) dX11_isFamilyCount_14 (by decide) ?_
    subst h
    exact V_ret (pc := 15) dX11_isFamilyCount_15 ⟨rfl, _, rfl, rfl⟩ ⟨rfl, rfl, rfl⟩
  · have h := ite_n c1 h
    refine V_iload_n (pc := 5) 1 dX11_isFamilyCount_5 rfl rfl ?_
    refine V_iconst (pc := 6) (x := 5) dX11_isFamilyCount_6 (by decide) ?_
    refine V_icmp_gt (pc := 7) (tgt := 14) dX11_isFamilyCount_7 (by decide) (fun c2 => ?_) (fun c2 => ?_)
    · have h := ite_p c2 h
      refine V_iconst (pc := 14) (x := 0) dX11_isFamilyCount_14 (by decide) ?_
      subst h
      exact V_ret (pc := 15) dX11_isFamilyCount_15 ⟨rfl, _, rfl, rfl⟩ ⟨rfl, rfl, rfl⟩
    · have h := ite_n c2 h
      refine V_iconst (pc := 10) (x := 1) dX11_isFamilyCount_10 (by decide) ?_
      refine V_goto (pc := 11) (tgt := 15) dX11_isFamilyCount_11 (by decide) ?_
      subst h
      exact V_ret (pc := 15) dX11_isFamilyCount_15 ⟨rfl, _, rfl, rfl⟩ ⟨rfl, rfl, rfl⟩
theorem calX11_troubleOfFamilies : Cal yX11_troubleOfFamilies cX11_troubleOfFamilies 2 (some .int) 1 := ⟨kw1075, kw1, by decide +kernel⟩
theorem ctX11_troubleOfFamilies {G : Gl} {σ : Sg} {d : Dt} {r0 : Nat} {r0h : Nat} {r0p : Nat} {v1 : Int32} (H0 : L10 σ r0 r0h r0p) : CTv G yX11_troubleOfFamilies cX11_troubleOfFamilies 2 (some .int) 1 [.ref (gB G + r0), .int v1] σ d [.int (mX11_troubleOfFamilies r0 r0h r0p v1 d)] d := by
  refine CT_of pn_RX11 (Nat.le_of_ble_eq_true rfl) ?_
  generalize h : mX11_troubleOfFamilies r0 r0h r0p v1 d = rr
  rw [mX11_troubleOfFamilies] at h
  refine V_aload_n (pc := 0) 0 dX11_troubleOfFamilies_0 rfl rfl ?_
  refine V_getI (pc := 1) (c := 10) (k := 4) dX11_troubleOfFamilies_1 (by decide) (by decide) kw358 rfl rfl (L10_0 H0) ?_
  refine V_if_ne (pc := 4) (tgt := 9) dX11_troubleOfFamilies_4 (by decide) (fun c1 => ?_) (fun c1 => ?_)
  · have h := ite_n c1 h
    refine V_aload_n (pc := 9) 0 dX11_troubleOfFamilies_9 rfl rfl ?_
    refine V_iload_n (pc := 10) 1 dX11_troubleOfFamilies_10 rfl rfl ?_
    refine V_cV1 (pc := 11) dX11_troubleOfFamilies_11 kw1076 calX11_isFamilyCount kw1078 ks46 (L10_0 H0) rfl (by decide) (Nat.le_of_ble_eq_true rfl) (ctX11_isFamilyCount H0) ?_
    refine V_ifB_ne (pc := 14) (tgt := 19) dX11_troubleOfFamilies_14 (by decide) (fun c4 => ?_) (fun c4 => ?_)
    · have h := ite_p c4 h
      refine V_aload_n (pc := 19) 0 dX11_troubleOfFamilies_19 rfl rfl ?_
      refine V_getR (pc := 20) (c := 10) (k := 2) dX11_troubleOfFamilies_20 (by decide) (by decide) kw356 rfl rfl (L10_0 H0) (L10_r2 H0) ?_
      refine V_getR (pc := 23) (c := 4) (k := 9) dX11_troubleOfFamilies_23 (by decide) (by decide) kw249 rfl rfl (L4_0 (L10_o2 H0)) (L4_r9 (L10_o2 H0)) ?_
      refine V_getI (pc := 26) (c := 1) (k := 0) dX11_troubleOfFamilies_26 (by decide) (by decide) kw203 rfl rfl (L1_0 (L4_o9 (L10_o2 H0))) ?_
      refine V_if_ne (pc := 29) (tgt := 36) dX11_troubleOfFamilies_29 (by decide) (fun c5 => ?_) (fun c5 => ?_)
      · have h := ite_n c5 h
        refine V_iconst (pc := 36) (x := 0) dX11_troubleOfFamilies_36 (by decide) ?_
        subst h
        exact V_ret (pc := 37) dX11_troubleOfFamilies_37 ⟨rfl, _, rfl⟩ ⟨rfl, rfl, rfl⟩
      · have h := ite_p c5 h
        refine V_iconst (pc := 32) (x := 5) dX11_troubleOfFamilies_32 (by decide) ?_
        refine V_goto (pc := 33) (tgt := 37) dX11_troubleOfFamilies_33 (by decide) ?_
        subst h
        exact V_ret (pc := 37) dX11_troubleOfFamilies_37 ⟨rfl, _, rfl⟩ ⟨rfl, rfl, rfl⟩
    · have h := ite_f c4 h
      refine V_iconst (pc := 17) (x := 2) dX11_troubleOfFamilies_17 (by decide) ?_
      subst h
      exact V_ret (pc := 18) dX11_troubleOfFamilies_18 ⟨rfl, _, rfl⟩ ⟨rfl, rfl, rfl⟩
  · have h := ite_p c1 h
    refine V_iconst (pc := 7) (x := 1) dX11_troubleOfFamilies_7 (by decide) ?_
    subst h
    exact V_ret (pc := 8) dX11_troubleOfFamilies_8 ⟨rfl, _, rfl⟩ ⟨rfl, rfl, rfl⟩
theorem wX2_harnessesOf_4 {G : Gl} {σ : Sg} {d : Dt} {r0 : Nat} {v1 : Int32} {rr : Int32} (H0 : L4 σ r0) : ∀ (n : Nat) (v2 : Int32) (v3 : Int32), mX2_harnessesOf_4 d r0 v1 n v2 v3 = some rr → V G yX2_harnessesOf cX2_harnessesOf 4 (some .int) 1 0 0 (PH [.int rr] σ d) 4 [(0, .ref (gB G + r0)), (1, .int v1), (2, .int v2), (3, .int v3)] [] σ d := by
  intro n
  induction n with
  | zero =>
    intro v2 v3
    intros
    rename_i h
    exact absurd h (by rw [mX2_harnessesOf_4]; exact fun q => nomatch q)
  | succ n ih =>
    intro v2 v3 h
    rw [mX2_harnessesOf_4] at h
    refine V_iload_n (pc := 4) 3 dX2_harnessesOf_4 rfl rfl ?_
    refine V_aload_n (pc := 5) 0 dX2_harnessesOf_5 rfl rfl ?_
    refine V_getR (pc := 6) (c := 4) (k := 9) dX2_harnessesOf_6 (by decide) (by decide) kw248 rfl rfl (L4_0 H0) (L4_r9 H0) ?_
    refine V_getI (pc := 9) (c := 1) (k := 0) dX2_harnessesOf_9 (by decide) (by decide) kw201 rfl rfl (L1_0 (L4_o9 H0)) ?_
    refine V_icmp_ge (pc := 12) (tgt := 41) dX2_harnessesOf_12 (by decide) (fun c1 => ?_) (fun c1 => ?_)
    · have h := ite_p c1 h
      refine V_iload_n (pc := 41) 2 dX2_harnessesOf_41 rfl rfl ?_
      cases h
      exact V_ret (pc := 42) dX2_harnessesOf_42 ⟨rfl, _, rfl⟩ ⟨rfl, rfl, rfl⟩
    · have h := ite_n c1 h
      refine V_iload_n (pc := 15) 1 dX2_harnessesOf_15 rfl rfl ?_
      refine V_iload_n (pc := 16) 3 dX2_harnessesOf_16 rfl rfl ?_
      refine V_cS2 (pc := 17) dX2_harnessesOf_17 kw1051 calX10_has kw676 (by decide) (Nat.le_of_ble_eq_true rfl) (ctX10_has) ?_
      refine V_ifB_eq (pc := 20) (tgt := 35) dX2_harnessesOf_20 (by decide) (fun c4 => ?_) (fun c4 => ?_)
      · have h := ite_f c4 h
        refine V_iinc (pc := 35) (lv1 := [(3, _), (0, _), (1, _), (2, _)]) (z := _ + (1 : Int32)) 3 dX2_harnessesOf_35 rfl rfl (by decide) rfl ?_
        refine V_goto (pc := 38) (tgt := 4) dX2_harnessesOf_38 (by decide) ?_
        exact V_sub [1, 2, 3, 0] rfl (ih v2 (v3 + (1 : Int32)) h)
      · have h := ite_p c4 h
        refine V_iload_n (pc := 23) 2 dX2_harnessesOf_23 rfl rfl ?_
        refine V_aload_n (pc := 24) 0 dX2_harnessesOf_24 rfl rfl ?_
        refine V_getR (pc := 25) (c := 4) (k := 9) dX2_harnessesOf_25 (by decide) (by decide) kw248 rfl rfl (L4_0 H0) (L4_r9 H0) ?_
        refine V_getR (pc := 28) (c := 1) (k := 2) dX2_harnessesOf_28 (by decide) (by decide) kw209 rfl rfl (L1_0 (L4_o9 H0)) (L1_r2 (L4_o9 H0)) ?_
        refine V_iload_n (pc := 31) 3 dX2_harnessesOf_31 rfl rfl ?_
        obtain ⟨b5, h⟩ := ite_o h
        refine V_iald (pc := 32) dX2_harnessesOf_32 (L1_s2 (L4_o9 H0)) (inB_vp b5) ?_
        refine V_iadd (pc := 33) dX2_harnessesOf_33 ?_
        refine V_istore_n (pc := 34) (lv1 := [(2, _), (0, _), (1, _), (3, _)]) dX2_harnessesOf_34 rfl (by decide) rfl ?_
        refine V_iinc (pc := 35) (lv1 := [(3, _), (2, _), (0, _), (1, _)]) (z := _ + (1 : Int32)) 3 dX2_harnessesOf_35 rfl rfl (by decide) rfl ?_
        refine V_goto (pc := 38) (tgt := 4) dX2_harnessesOf_38 (by decide) ?_
        exact V_sub [2, 3, 1, 0] rfl (ih (v2 + (d.1 (r0 + 74) v3.toNatClampNeg)) (v3 + (1 : Int32)) h)
theorem calX2_harnessesOf : Cal yX2_harnessesOf cX2_harnessesOf 4 (some .int) 2 := ⟨kw1090, kw10, by decide +kernel⟩
theorem ctX2_harnessesOf {G : Gl} {σ : Sg} {d : Dt} {r0 : Nat} {v1 : Int32} {rr : Int32} (H0 : L4 σ r0) (h : mX2_harnessesOf r0 v1 d = some rr) : CTv G yX2_harnessesOf cX2_harnessesOf 4 (some .int) 1 [.ref (gB G + r0), .int v1] σ d [.int rr] d := by
  refine CT_of pn_RX2 (Nat.le_of_ble_eq_true rfl) ?_
  rw [mX2_harnessesOf] at h
  refine V_iconst (pc := 0) (x := 0) dX2_harnessesOf_0 (by decide) ?_
  refine V_istore_n (pc := 1) (lv1 := [(2, _), (0, _), (1, _)]) dX2_harnessesOf_1 rfl (by decide) rfl ?_
  refine V_iconst (pc := 2) (x := 0) dX2_harnessesOf_2 (by decide) ?_
  refine V_istore_n (pc := 3) (lv1 := [(3, _), (2, _), (0, _), (1, _)]) dX2_harnessesOf_3 rfl (by decide) rfl ?_
  exact V_sub [2, 3, 1, 0] rfl (wX2_harnessesOf_4 H0 FUEL (0 : Int32) (0 : Int32) h)
theorem wX2_weighGroups_2 {G : Gl} {σ : Sg} {r0 : Nat} {r1 : Nat} {rr : Dt} (H0 : L2 σ r0) (H1 : L4 σ r1) : ∀ (n : Nat) (v2 : Int32) (d : Dt), mX2_weighGroups_2 r0 r1 n v2 d = some rr → V G yX2_weighGroups cX2_weighGroups 3 none 5 0 0 (PH [] σ rr) 2 [(0, .ref (gB G + r0)), (1, .ref (gB G + r1)), (2, .int v2)] [] σ d := by
  intro n
  induction n with
  | zero =>
    intro v2 d
    intros
    rename_i h
    exact absurd h (by rw [mX2_weighGroups_2]; exact fun q => nomatch q)
  | succ n ih =>
    intro v2 d h
    rw [mX2_weighGroups_2] at h
    refine V_iload_n (pc := 2) 2 dX2_weighGroups_2 rfl rfl ?_
    refine V_iconst (pc := 3) (x := 1) dX2_weighGroups_3 (by decide) ?_
    refine V_aload_n (pc := 4) 1 dX2_weighGroups_4 rfl rfl ?_
    refine V_getR (pc := 5) (c := 4) (k := 9) dX2_weighGroups_5 (by decide) (by decide) kw248 rfl rfl (L4_0 H1) (L4_r9 H1) ?_
    refine V_getI (pc := 8) (c := 1) (k := 0) dX2_weighGroups_8 (by decide) (by decide) kw201 rfl rfl (L1_0 (L4_o9 H1)) ?_
    refine V_ishl (pc := 11) dX2_weighGroups_11 ?_
    refine V_icmp_ge (pc := 12) (tgt := 38) dX2_weighGroups_12 (by decide) (fun c1 => ?_) (fun c1 => ?_)
    · have h := ite_p c1 h
      cases h
      exact V_ret (pc := 38) dX2_weighGroups_38 ⟨rfl, rfl⟩ ⟨rfl, rfl, rfl⟩
    · have h := ite_n c1 h
      refine V_aload_n (pc := 15) 0 dX2_weighGroups_15 rfl rfl ?_
      refine V_getR (pc := 16) (c := 2) (k := 0) dX2_weighGroups_16 (by decide) (by decide) kw339 rfl rfl (L2_0 H0) (L2_r0 H0) ?_
      refine V_iload_n (pc := 19) 2 dX2_weighGroups_19 rfl rfl ?_
      refine V_aload_n (pc := 20) 1 dX2_weighGroups_20 rfl rfl ?_
      refine V_iload_n (pc := 21) 2 dX2_weighGroups_21 rfl rfl ?_
      obtain ⟨x3, h2, h⟩ := bnd h
      refine V_cS2 (pc := 22) dX2_weighGroups_22 kw1067 calX2_lengthFor kw1046 (by decide) (Nat.le_of_ble_eq_true rfl) (ctX2_lengthFor H1 h2) ?_
      refine V_aload_n (pc := 25) 1 dX2_weighGroups_25 rfl rfl ?_
      refine V_iload_n (pc := 26) 2 dX2_weighGroups_26 rfl rfl ?_
      obtain ⟨x5, h4, h⟩ := bnd h
      refine V_cS2 (pc := 27) dX2_weighGroups_27 kw1088 calX2_harnessesOf kw1089 (by decide) (Nat.le_of_ble_eq_true rfl) (ctX2_harnessesOf H1 h4) ?_
      refine V_imul (pc := 30) dX2_weighGroups_30 ?_
      obtain ⟨b6, h⟩ := ite_o h
      refine V_iast (pc := 31) dX2_weighGroups_31 (L2_s0 H0) (inB_vp b6) ?_
      refine V_iinc (pc := 32) (lv1 := [(2, _), (0, _), (1, _)]) (z := _ + (1 : Int32)) 2 dX2_weighGroups_32 rfl rfl (by decide) rfl ?_
      refine V_goto (pc := 35) (tgt := 2) dX2_weighGroups_35 (by decide) ?_
      exact V_sub [1, 2, 0] rfl (ih (v2 + (1 : Int32)) (uI d (r0 + 1) v2.toNatClampNeg (x3 * x5)) h)
theorem calX2_weighGroups : Cal yX2_weighGroups cX2_weighGroups 3 none 1 := ⟨kw1087, kw10, by decide +kernel⟩
theorem ctX2_weighGroups {G : Gl} {σ : Sg} {d : Dt} {r0 : Nat} {r1 : Nat} {rr : Dt} (H0 : L2 σ r0) (H1 : L4 σ r1) (h : mX2_weighGroups r0 r1 d = some rr) : CTv G yX2_weighGroups cX2_weighGroups 3 none 5 [.ref (gB G + r0), .ref (gB G + r1)] σ d [] rr := by
  refine CT_of pn_RX2 (Nat.le_of_ble_eq_true rfl) ?_
  rw [mX2_weighGroups] at h
  refine V_iconst (pc := 0) (x := 1) dX2_weighGroups_0 (by decide) ?_
  refine V_istore_n (pc := 1) (lv1 := [(2, _), (0, _), (1, _)]) dX2_weighGroups_1 rfl (by decide) rfl ?_
  exact V_sub [1, 2, 0] rfl (wX2_weighGroups_2 H0 H1 FUEL (1 : Int32) d h)
theorem wJ7_fill_53178_5 {G : Gl} {σ : Sg} {r0 : Nat} {v1 : Int32} {v3 : Int32} {rr : Dt} (H0 : σ.2.1 r0 = some (1, 5)) : ∀ (n : Nat) (v2 : Int32) (d : Dt), mJ7_fill_53178_5 r0 v1 v3 n v2 d = some rr → V G yJ7_fill_53178 cJ7_fill_53178 4 none 0 0 0 (PH [] σ rr) 5 [(0, .ref (gB G + r0)), (1, .int v1), (2, .int v2), (3, .int v3)] [] σ d := by
  intro n
  induction n with
  | zero =>
    intro v2 d
    intros
    rename_i h
    exact absurd h (by rw [mJ7_fill_53178_5]; exact fun q => nomatch q)
  | succ n ih =>
    intro v2 d h
    rw [mJ7_fill_53178_5] at h
    refine V_iload_n (pc := 5) 2 dJ7_fill_53178_5 rfl rfl ?_
    refine V_iload_n (pc := 6) 3 dJ7_fill_53178_6 rfl rfl ?_
    refine V_icmp_ge (pc := 7) (tgt := 20) dJ7_fill_53178_7 (by decide) (fun c1 => ?_) (fun c1 => ?_)
    · have h := ite_p c1 h
      cases h
      exact V_ret (pc := 20) dJ7_fill_53178_20 ⟨rfl, rfl⟩ ⟨rfl, rfl, rfl⟩
    · have h := ite_n c1 h
      refine V_aload_n (pc := 10) 0 dJ7_fill_53178_10 rfl rfl ?_
      refine V_iload_n (pc := 11) 2 dJ7_fill_53178_11 rfl rfl ?_
      refine V_iload_n (pc := 12) 1 dJ7_fill_53178_12 rfl rfl ?_
      obtain ⟨b2, h⟩ := ite_o h
      refine V_iast (pc := 13) dJ7_fill_53178_13 H0 (inB_vp b2) ?_
      refine V_iinc (pc := 14) (lv1 := [(2, _), (0, _), (1, _), (3, _)]) (z := _ + (1 : Int32)) 2 dJ7_fill_53178_14 rfl rfl (by decide) rfl ?_
      refine V_goto (pc := 17) (tgt := 5) dJ7_fill_53178_17 (by decide) ?_
      exact V_sub [1, 2, 0, 3] rfl (ih (v2 + (1 : Int32)) (uI d r0 v2.toNatClampNeg v1) h)
theorem calJ7_fill_53178 : Cal yJ7_fill_53178 cJ7_fill_53178 4 none 2 := ⟨kw1093, kw20, by decide +kernel⟩
theorem ctJ7_fill_53178 {G : Gl} {σ : Sg} {d : Dt} {r0 : Nat} {v1 : Int32} {rr : Dt} (H0 : σ.2.1 r0 = some (1, 5)) (h : mJ7_fill_53178 r0 v1 d = some rr) : CTv G yJ7_fill_53178 cJ7_fill_53178 4 none 0 [.ref (gB G + r0), .int v1] σ d [] rr := by
  refine CT_of pn_RJ7 (Nat.le_of_ble_eq_true rfl) ?_
  rw [mJ7_fill_53178] at h
  refine V_iconst (pc := 0) (x := 0) dJ7_fill_53178_0 (by decide) ?_
  refine V_istore_n (pc := 1) (lv1 := [(2, _), (0, _), (1, _)]) dJ7_fill_53178_1 rfl (by decide) rfl ?_
  refine V_aload_n (pc := 2) 1 dJ7_fill_53178_2 rfl rfl ?_
  refine V_alen (pc := 3) (t := 0) (z := 5) dJ7_fill_53178_3 H0 (by decide) ?_
  refine V_istore_n (pc := 4) (lv1 := [(3, _), (2, _), (0, _), (1, _)]) dJ7_fill_53178_4 rfl (by decide) rfl ?_
  exact V_sub [2, 3, 1, 0] rfl (wJ7_fill_53178_5 H0 FUEL (0 : Int32) d h)
theorem wX2_greatest_4 {G : Gl} {σ : Sg} {d : Dt} {r0 : Nat} {v1 : Int32} {rr : Int32} (H0 : σ.2.1 r0 = some (1, 5)) : ∀ (n : Nat) (v2 : Int32) (v3 : Int32), mX2_greatest_4 d r0 v1 n v2 v3 = some rr → V G yX2_greatest cX2_greatest 4 (some .int) 3 0 0 (PH [.int rr] σ d) 4 [(0, .ref (gB G + r0)), (1, .int v1), (2, .int v2), (3, .int v3)] [] σ d := by
  intro n
  induction n with
  | zero =>
    intro v2 v3
    intros
    rename_i h
    exact absurd h (by rw [mX2_greatest_4]; exact fun q => nomatch q)
  | succ n ih =>
    intro v2 v3 h
    rw [mX2_greatest_4] at h
    refine V_iload_n (pc := 4) 3 dX2_greatest_4 rfl rfl ?_
    refine V_iload_n (pc := 5) 1 dX2_greatest_5 rfl rfl ?_
    refine V_icmp_ge (pc := 6) (tgt := 23) dX2_greatest_6 (by decide) (fun c1 => ?_) (fun c1 => ?_)
    · have h := ite_p c1 h
      refine V_iload_n (pc := 23) 2 dX2_greatest_23 rfl rfl ?_
      cases h
      exact V_ret (pc := 24) dX2_greatest_24 ⟨rfl, _, rfl⟩ ⟨rfl, rfl, rfl⟩
    · have h := ite_n c1 h
      refine V_iload_n (pc := 9) 2 dX2_greatest_9 rfl rfl ?_
      refine V_aload_n (pc := 10) 0 dX2_greatest_10 rfl rfl ?_
      refine V_iload_n (pc := 11) 3 dX2_greatest_11 rfl rfl ?_
      obtain ⟨b2, h⟩ := ite_o h
      refine V_iald (pc := 12) dX2_greatest_12 H0 (inB_vp b2) ?_
      refine V_mmax (pc := 13) dX2_greatest_13 kw1102 (by decide) (Nat.le_of_ble_eq_true rfl) ?_
      refine V_istore_n (pc := 16) (lv1 := [(2, _), (0, _), (1, _), (3, _)]) dX2_greatest_16 rfl (by decide) rfl ?_
      refine V_iinc (pc := 17) (lv1 := [(3, _), (2, _), (0, _), (1, _)]) (z := _ + (1 : Int32)) 3 dX2_greatest_17 rfl rfl (by decide) rfl ?_
      refine V_goto (pc := 20) (tgt := 4) dX2_greatest_20 (by decide) ?_
      exact V_sub [2, 3, 1, 0] rfl (ih (mxI v2 (d.1 r0 v3.toNatClampNeg)) (v3 + (1 : Int32)) h)
theorem calX2_greatest : Cal yX2_greatest cX2_greatest 4 (some .int) 2 := ⟨kw1101, kw10, by decide +kernel⟩
theorem ctX2_greatest {G : Gl} {σ : Sg} {d : Dt} {r0 : Nat} {v1 : Int32} {rr : Int32} (H0 : σ.2.1 r0 = some (1, 5)) (h : mX2_greatest r0 v1 d = some rr) : CTv G yX2_greatest cX2_greatest 4 (some .int) 3 [.ref (gB G + r0), .int v1] σ d [.int rr] d := by
  refine CT_of pn_RX2 (Nat.le_of_ble_eq_true rfl) ?_
  rw [mX2_greatest] at h
  refine V_iconst (pc := 0) (x := 0) dX2_greatest_0 (by decide) ?_
  refine V_istore_n (pc := 1) (lv1 := [(2, _), (0, _), (1, _)]) dX2_greatest_1 rfl (by decide) rfl ?_
  refine V_iconst (pc := 2) (x := 0) dX2_greatest_2 (by decide) ?_
  refine V_istore_n (pc := 3) (lv1 := [(3, _), (2, _), (0, _), (1, _)]) dX2_greatest_3 rfl (by decide) rfl ?_
  exact V_sub [2, 3, 1, 0] rfl (wX2_greatest_4 H0 FUEL (0 : Int32) (0 : Int32) h)
theorem wX2_buildsIn_5 {G : Gl} {σ : Sg} {d : Dt} {r0 : Nat} {v1 : Int32} {v2 : Int32} {rr : Int32} (H0 : L2 σ r0) : ∀ (n : Nat) (v3 : Int32) (v4 : Int32), mX2_buildsIn_5 d r0 v1 v2 n v3 v4 = some rr → V G yX2_buildsIn cX2_buildsIn 5 (some .int) 0 0 0 (PH [.int rr] σ d) 5 [(0, .ref (gB G + r0)), (1, .int v1), (2, .int v2), (3, .int v3), (4, .int v4)] [] σ d := by
  intro n
  induction n with
  | zero =>
    intro v3 v4
    intros
    rename_i h
    exact absurd h (by rw [mX2_buildsIn_5]; exact fun q => nomatch q)
  | succ n ih =>
    intro v3 v4 h
    rw [mX2_buildsIn_5] at h
    refine V_iload (pc := 5) 4 dX2_buildsIn_5 rfl ?_
    refine V_iload_n (pc := 7) 2 dX2_buildsIn_7 rfl rfl ?_
    refine V_icmp_ge (pc := 8) (tgt := 35) dX2_buildsIn_8 (by decide) (fun c1 => ?_) (fun c1 => ?_)
    · have h := ite_p c1 h
      refine V_iload_n (pc := 35) 3 dX2_buildsIn_35 rfl rfl ?_
      cases h
      exact V_ret (pc := 36) dX2_buildsIn_36 ⟨rfl, _, rfl⟩ ⟨rfl, rfl, rfl⟩
    · have h := ite_n c1 h
      refine V_aload_n (pc := 11) 0 dX2_buildsIn_11 rfl rfl ?_
      refine V_getR (pc := 12) (c := 2) (k := 1) dX2_buildsIn_12 (by decide) (by decide) kw340 rfl rfl (L2_0 H0) (L2_r1 H0) ?_
      refine V_iload (pc := 15) 4 dX2_buildsIn_15 rfl ?_
      obtain ⟨b2, h⟩ := ite_o h
      refine V_iald (pc := 17) dX2_buildsIn_17 (L2_s1 H0) (inB_vp b2) ?_
      refine V_iload_n (pc := 18) 1 dX2_buildsIn_18 rfl rfl ?_
      refine V_icmp_ne (pc := 19) (tgt := 29) dX2_buildsIn_19 (by decide) (fun c3 => ?_) (fun c3 => ?_)
      · have h := ite_n c3 h
        refine V_iinc (pc := 29) (lv1 := [(4, _), (0, _), (1, _), (2, _), (3, _)]) (z := _ + (1 : Int32)) 4 dX2_buildsIn_29 rfl rfl (by decide) rfl ?_
        refine V_goto (pc := 32) (tgt := 5) dX2_buildsIn_32 (by decide) ?_
        exact V_sub [1, 2, 3, 4, 0] rfl (ih v3 (v4 + (1 : Int32)) h)
      · have h := ite_p c3 h
        refine V_iload_n (pc := 22) 3 dX2_buildsIn_22 rfl rfl ?_
        refine V_iconst (pc := 23) (x := 1) dX2_buildsIn_23 (by decide) ?_
        refine V_iload (pc := 24) 4 dX2_buildsIn_24 rfl ?_
        refine V_ishl (pc := 26) dX2_buildsIn_26 ?_
        refine V_ior (pc := 27) dX2_buildsIn_27 ?_
        refine V_istore_n (pc := 28) (lv1 := [(3, _), (0, _), (1, _), (2, _), (4, _)]) dX2_buildsIn_28 rfl (by decide) rfl ?_
        refine V_iinc (pc := 29) (lv1 := [(4, _), (3, _), (0, _), (1, _), (2, _)]) (z := _ + (1 : Int32)) 4 dX2_buildsIn_29 rfl rfl (by decide) rfl ?_
        refine V_goto (pc := 32) (tgt := 5) dX2_buildsIn_32 (by decide) ?_
        exact V_sub [2, 3, 4, 1, 0] rfl (ih (v3 ||| ((1 : Int32) <<< (v4 &&& 31))) (v4 + (1 : Int32)) h)
theorem calX2_buildsIn : Cal yX2_buildsIn cX2_buildsIn 5 (some .int) 2 := ⟨kw1106, kw10, by decide +kernel⟩
theorem ctX2_buildsIn {G : Gl} {σ : Sg} {d : Dt} {r0 : Nat} {v1 : Int32} {v2 : Int32} {rr : Int32} (H0 : L2 σ r0) (h : mX2_buildsIn r0 v1 v2 d = some rr) : CTv G yX2_buildsIn cX2_buildsIn 5 (some .int) 0 [.ref (gB G + r0), .int v1, .int v2] σ d [.int rr] d := by
  refine CT_of pn_RX2 (Nat.le_of_ble_eq_true rfl) ?_
  rw [mX2_buildsIn] at h
  refine V_iconst (pc := 0) (x := 0) dX2_buildsIn_0 (by decide) ?_
  refine V_istore_n (pc := 1) (lv1 := [(3, _), (0, _), (1, _), (2, _)]) dX2_buildsIn_1 rfl (by decide) rfl ?_
  refine V_iconst (pc := 2) (x := 0) dX2_buildsIn_2 (by decide) ?_
  refine V_istore (pc := 3) (lv1 := [(4, _), (3, _), (0, _), (1, _), (2, _)]) dX2_buildsIn_3 (by decide) rfl ?_
  exact V_sub [2, 3, 4, 1, 0] rfl (wX2_buildsIn_5 H0 FUEL (0 : Int32) (0 : Int32) h)
theorem wX2_keepIfLess_51 {G : Gl} {σ : Sg} {r0 : Nat} {v1 : Int32} {rr : Dt} (H0 : L2 σ r0) : ∀ (n : Nat) (v3 : Int32) (d : Dt), mX2_keepIfLess_51 r0 v1 n v3 d = some rr → V G yX2_keepIfLess cX2_keepIfLess 4 none 4 0 0 (PH [] σ rr) 51 [(0, .ref (gB G + r0)), (1, .int v1), (3, .int v3)] [] σ d := by
  intro n
  induction n with
  | zero =>
    intro v3 d
    intros
    rename_i h
    exact absurd h (by rw [mX2_keepIfLess_51]; exact fun q => nomatch q)
  | succ n ih =>
    intro v3 d h
    rw [mX2_keepIfLess_51] at h
    refine V_iload_n (pc := 51) 2 dX2_keepIfLess_51 rfl rfl ?_
    refine V_iload_n (pc := 52) 1 dX2_keepIfLess_52 rfl rfl ?_
    refine V_icmp_ge (pc := 53) (tgt := 74) dX2_keepIfLess_53 (by decide) (fun c8 => ?_) (fun c8 => ?_)
    · have h := ite_p c8 h
      cases h
      exact V_ret (pc := 74) dX2_keepIfLess_74 ⟨rfl, rfl⟩ ⟨rfl, rfl, rfl⟩
    · have h := ite_n c8 h
      refine V_aload_n (pc := 56) 0 dX2_keepIfLess_56 rfl rfl ?_
      refine V_getR (pc := 57) (c := 2) (k := 2) dX2_keepIfLess_57 (by decide) (by decide) kw341 rfl rfl (L2_0 H0) (L2_r2 H0) ?_
      refine V_iload_n (pc := 60) 2 dX2_keepIfLess_60 rfl rfl ?_
      refine V_aload_n (pc := 61) 0 dX2_keepIfLess_61 rfl rfl ?_
      refine V_getR (pc := 62) (c := 2) (k := 1) dX2_keepIfLess_62 (by decide) (by decide) kw340 rfl rfl (L2_0 H0) (L2_r1 H0) ?_
      refine V_iload_n (pc := 65) 2 dX2_keepIfLess_65 rfl rfl ?_
      obtain ⟨b9, h⟩ := ite_o h
      refine V_iald (pc := 66) dX2_keepIfLess_66 (L2_s1 H0) (inB_vp b9) ?_
      obtain ⟨b10, h⟩ := ite_o h
      refine V_iast (pc := 67) dX2_keepIfLess_67 (L2_s2 H0) (inB_vp b10) ?_
      refine V_iinc (pc := 68) (lv1 := [(3, _), (0, _), (1, _)]) (z := _ + (1 : Int32)) 2 dX2_keepIfLess_68 rfl rfl (by decide) rfl ?_
      refine V_goto (pc := 71) (tgt := 51) dX2_keepIfLess_71 (by decide) ?_
      exact V_sub [1, 2, 0] rfl (ih (v3 + (1 : Int32)) (uI d (r0 + 3) v3.toNatClampNeg (d.1 (r0 + 2) v3.toNatClampNeg)) h)
theorem wX2_keepIfLess_4 {G : Gl} {σ : Sg} {r0 : Nat} {v1 : Int32} {rr : Dt} (H0 : L2 σ r0) : ∀ (n : Nat) (v2 : Int32) (v3 : Int32) (d : Dt), mX2_keepIfLess_4 r0 v1 n v2 v3 d = some rr → V G yX2_keepIfLess cX2_keepIfLess 4 none 4 0 0 (PH [] σ rr) 4 [(0, .ref (gB G + r0)), (1, .int v1), (2, .int v2), (3, .int v3)] [] σ d := by
  intro n
  induction n with
  | zero =>
    intro v2 v3 d
    intros
    rename_i h
    exact absurd h (by rw [mX2_keepIfLess_4]; exact fun q => nomatch q)
  | succ n ih =>
    intro v2 v3 d h
    rw [mX2_keepIfLess_4] at h
    refine V_iload_n (pc := 4) 3 dX2_keepIfLess_4 rfl rfl ?_
    refine V_aload_n (pc := 5) 0 dX2_keepIfLess_5 rfl rfl ?_
    refine V_getR (pc := 6) (c := 2) (k := 1) dX2_keepIfLess_6 (by decide) (by decide) kw340 rfl rfl (L2_0 H0) (L2_r1 H0) ?_
    refine V_iload_n (pc := 9) 1 dX2_keepIfLess_9 rfl rfl ?_
    obtain ⟨x2, h1, h⟩ := bnd h
    refine V_cS2 (pc := 10) dX2_keepIfLess_10 kw1099 calX2_greatest kw1100 (by decide) (Nat.le_of_ble_eq_true rfl) (ctX2_greatest (L2_s1 H0) h1) ?_
    refine V_icmp_gt (pc := 13) (tgt := 36) dX2_keepIfLess_13 (by decide) (fun c3 => ?_) (fun c3 => ?_)
    · have h := ite_p c3 h
      refine V_iload_n (pc := 36) 2 dX2_keepIfLess_36 rfl rfl ?_
      refine V_aload_n (pc := 37) 0 dX2_keepIfLess_37 rfl rfl ?_
      refine V_getI (pc := 38) (c := 2) (k := 3) dX2_keepIfLess_38 (by decide) (by decide) kw343 rfl rfl (L2_0 H0) ?_
      refine V_icmp_ge (pc := 41) (tgt := 74) dX2_keepIfLess_41 (by decide) (fun c4 => ?_) (fun c4 => ?_)
      · have h := ite_p c4 h
        cases h
        exact V_ret (pc := 74) dX2_keepIfLess_74 ⟨rfl, rfl⟩ ⟨rfl, rfl, rfl⟩
      · have h := ite_n c4 h
        refine V_aload_n (pc := 44) 0 dX2_keepIfLess_44 rfl rfl ?_
        refine V_iload_n (pc := 45) 2 dX2_keepIfLess_45 rfl rfl ?_
        refine V_putI (pc := 46) (c := 2) (k := 3) dX2_keepIfLess_46 (by decide) (by decide) kw343 rfl rfl rfl ⟨rfl, rfl⟩ (L2_0 H0) ?_
        refine V_iconst (pc := 49) (x := 0) dX2_keepIfLess_49 (by decide) ?_
        refine V_istore_n (pc := 50) (lv1 := [(3, _), (0, _), (1, _), (2, _)]) dX2_keepIfLess_50 rfl (by decide) rfl ?_
        exact V_sub [1, 2, 0] rfl (wX2_keepIfLess_51 H0 FUEL (0 : Int32) (uI d r0 3 v2) h)
    · have h := ite_n c3 h
      refine V_iload_n (pc := 16) 2 dX2_keepIfLess_16 rfl rfl ?_
      refine V_aload_n (pc := 17) 0 dX2_keepIfLess_17 rfl rfl ?_
      refine V_getR (pc := 18) (c := 2) (k := 0) dX2_keepIfLess_18 (by decide) (by decide) kw339 rfl rfl (L2_0 H0) (L2_r0 H0) ?_
      refine V_aload_n (pc := 21) 0 dX2_keepIfLess_21 rfl rfl ?_
      refine V_iload_n (pc := 22) 3 dX2_keepIfLess_22 rfl rfl ?_
      refine V_iload_n (pc := 23) 1 dX2_keepIfLess_23 rfl rfl ?_
      obtain ⟨x6, h5, h⟩ := bnd h
      refine V_cV2 (pc := 24) dX2_keepIfLess_24 kw1103 calX2_buildsIn kw1105 ks49 (L2_0 H0) rfl (by decide) (Nat.le_of_ble_eq_true rfl) (ctX2_buildsIn H0 h5) ?_
      obtain ⟨b7, h⟩ := ite_o h
      refine V_iald (pc := 27) dX2_keepIfLess_27 (L2_s0 H0) (inB_vp b7) ?_
      refine V_iadd (pc := 28) dX2_keepIfLess_28 ?_
      refine V_istore_n (pc := 29) (lv1 := [(2, _), (0, _), (1, _), (3, _)]) dX2_keepIfLess_29 rfl (by decide) rfl ?_
      refine V_iinc (pc := 30) (lv1 := [(3, _), (2, _), (0, _), (1, _)]) (z := _ + (1 : Int32)) 3 dX2_keepIfLess_30 rfl rfl (by decide) rfl ?_
      refine V_goto (pc := 33) (tgt := 4) dX2_keepIfLess_33 (by decide) ?_
      exact V_sub [2, 3, 1, 0] rfl (ih (v2 + (d.1 (r0 + 1) x6.toNatClampNeg)) (v3 + (1 : Int32)) d h)
theorem calX2_keepIfLess : Cal yX2_keepIfLess cX2_keepIfLess 4 none 1 := ⟨kw1098, kw10, by decide +kernel⟩
theorem ctX2_keepIfLess {G : Gl} {σ : Sg} {d : Dt} {r0 : Nat} {v1 : Int32} {rr : Dt} (H0 : L2 σ r0) (h : mX2_keepIfLess r0 v1 d = some rr) : CTv G yX2_keepIfLess cX2_keepIfLess 4 none 4 [.ref (gB G + r0), .int v1] σ d [] rr := by
  refine CT_of pn_RX2 (Nat.le_of_ble_eq_true rfl) ?_
  rw [mX2_keepIfLess] at h
  refine V_iconst (pc := 0) (x := 0) dX2_keepIfLess_0 (by decide) ?_
  refine V_istore_n (pc := 1) (lv1 := [(2, _), (0, _), (1, _)]) dX2_keepIfLess_1 rfl (by decide) rfl ?_
  refine V_iconst (pc := 2) (x := 0) dX2_keepIfLess_2 (by decide) ?_
  refine V_istore_n (pc := 3) (lv1 := [(3, _), (2, _), (0, _), (1, _)]) dX2_keepIfLess_3 rfl (by decide) rfl ?_
  exact V_sub [2, 3, 1, 0] rfl (wX2_keepIfLess_4 H0 FUEL (0 : Int32) (0 : Int32) d h)
theorem wX2_nextRow_52 {G : Gl} {σ : Sg} {r0 : Nat} {v1 : Int32} {rr : Bool × Dt} (H0 : L2 σ r0) : ∀ (n : Nat) (v5 : Int32) (d : Dt), mX2_nextRow_52 r0 v1 n v5 d = some rr → V G yX2_nextRow cX2_nextRow 6 (some .boolean) 4 0 0 (PH [.int (b2i rr.1)] σ rr.2) 52 [(0, .ref (gB G + r0)), (1, .int v1), (5, .int v5)] [] σ d := by
  intro n
  induction n with
  | zero =>
    intro v5 d
    intros
    rename_i h
    exact absurd h (by rw [mX2_nextRow_52]; exact fun q => nomatch q)
  | succ n ih =>
    intro v5 d h
    rw [mX2_nextRow_52] at h
    refine V_iload (pc := 52) 2 dX2_nextRow_52 rfl ?_
    refine V_iload_n (pc := 54) 1 dX2_nextRow_54 rfl rfl ?_
    refine V_icmp_ge (pc := 55) (tgt := 72) dX2_nextRow_55 (by decide) (fun c8 => ?_) (fun c8 => ?_)
    · have h := ite_p c8 h
      refine V_iconst (pc := 72) (x := 1) dX2_nextRow_72 (by decide) ?_
      cases h
      exact V_ret (pc := 73) dX2_nextRow_73 ⟨rfl, _, rfl, rfl⟩ ⟨rfl, rfl, rfl⟩
    · have h := ite_n c8 h
      refine V_aload_n (pc := 58) 0 dX2_nextRow_58 rfl rfl ?_
      refine V_getR (pc := 59) (c := 2) (k := 1) dX2_nextRow_59 (by decide) (by decide) kw340 rfl rfl (L2_0 H0) (L2_r1 H0) ?_
      refine V_iload (pc := 62) 2 dX2_nextRow_62 rfl ?_
      refine V_iconst (pc := 64) (x := 0) dX2_nextRow_64 (by decide) ?_
      obtain ⟨b9, h⟩ := ite_o h
      refine V_iast (pc := 65) dX2_nextRow_65 (L2_s1 H0) (inB_vp b9) ?_
      refine V_iinc (pc := 66) (lv1 := [(5, _), (0, _), (1, _)]) (z := _ + (1 : Int32)) 2 dX2_nextRow_66 rfl rfl (by decide) rfl ?_
      refine V_goto (pc := 69) (tgt := 52) dX2_nextRow_69 (by decide) ?_
      exact V_sub [1, 2, 0] rfl (ih (v5 + (1 : Int32)) (uI d (r0 + 2) v5.toNatClampNeg (0 : Int32)) h)
theorem wX2_nextRow_4 {G : Gl} {σ : Sg} {r0 : Nat} {v1 : Int32} {v2 : Int32} {rr : Bool × Dt} (H0 : L2 σ r0) : ∀ (n : Nat) (v3 : Int32) (d : Dt), mX2_nextRow_4 r0 v1 v2 n v3 d = some rr → V G yX2_nextRow cX2_nextRow 6 (some .boolean) 4 0 0 (PH [.int (b2i rr.1)] σ rr.2) 4 [(0, .ref (gB G + r0)), (1, .int v1), (2, .int v2), (3, .int v3)] [] σ d := by
  intro n
  induction n with
  | zero =>
    intro v3 d
    intros
    rename_i h
    exact absurd h (by rw [mX2_nextRow_4]; exact fun q => nomatch q)
  | succ n ih =>
    intro v3 d h
    rw [mX2_nextRow_4] at h
    refine V_iload_n (pc := 4) 3 dX2_nextRow_4 rfl rfl ?_
    refine V_if_le (pc := 5) (tgt := 80) dX2_nextRow_5 (by decide) (fun c1 => ?_) (fun c1 => ?_)
    · have h := ite_p c1 h
      refine V_iconst (pc := 80) (x := 0) dX2_nextRow_80 (by decide) ?_
      cases h
      exact V_ret (pc := 81) dX2_nextRow_81 ⟨rfl, _, rfl, rfl⟩ ⟨rfl, rfl, rfl⟩
    · have h := ite_n c1 h
      refine V_aload_n (pc := 8) 0 dX2_nextRow_8 rfl rfl ?_
      refine V_getR (pc := 9) (c := 2) (k := 1) dX2_nextRow_9 (by decide) (by decide) kw340 rfl rfl (L2_0 H0) (L2_r1 H0) ?_
      refine V_iload_n (pc := 12) 3 dX2_nextRow_12 rfl rfl ?_
      obtain ⟨x3, h2, h⟩ := bnd h
      refine V_cS2 (pc := 13) dX2_nextRow_13 kw1099 calX2_greatest kw1100 (by decide) (Nat.le_of_ble_eq_true rfl) (ctX2_greatest (L2_s1 H0) h2) ?_
      refine V_iconst (pc := 16) (x := 1) dX2_nextRow_16 (by decide) ?_
      refine V_iadd (pc := 17) dX2_nextRow_17 ?_
      refine V_iload_n (pc := 18) 2 dX2_nextRow_18 rfl rfl ?_
      refine V_iconst (pc := 19) (x := 1) dX2_nextRow_19 (by decide) ?_
      refine V_isub (pc := 20) dX2_nextRow_20 ?_
      refine V_mmin (pc := 21) dX2_nextRow_21 kw1111 (by decide) (Nat.le_of_ble_eq_true rfl) ?_
      refine V_istore (pc := 24) (lv1 := [(4, _), (0, _), (1, _), (2, _), (3, _)]) dX2_nextRow_24 (by decide) rfl ?_
      refine V_aload_n (pc := 26) 1 dX2_nextRow_26 rfl rfl ?_
      refine V_getR (pc := 27) (c := 2) (k := 1) dX2_nextRow_27 (by decide) (by decide) kw340 rfl rfl (L2_0 H0) (L2_r1 H0) ?_
      refine V_iload_n (pc := 30) 4 dX2_nextRow_30 rfl rfl ?_
      obtain ⟨b4, h⟩ := ite_o h
      refine V_iald (pc := 31) dX2_nextRow_31 (L2_s1 H0) (inB_vp b4) ?_
      refine V_iload (pc := 32) 0 dX2_nextRow_32 rfl ?_
      refine V_icmp_ge (pc := 34) (tgt := 74) dX2_nextRow_34 (by decide) (fun c5 => ?_) (fun c5 => ?_)
      · have h := ite_p c5 h
        refine V_iinc (pc := 74) (lv1 := [(3, _), (4, _), (0, _), (1, _), (2, _)]) (z := _ + (-1 : Int32)) 4 dX2_nextRow_74 rfl rfl (by decide) rfl ?_
        refine V_goto (pc := 77) (tgt := 4) dX2_nextRow_77 (by decide) ?_
        exact V_sub [2, 3, 4, 0] rfl (ih (v3 + (-1 : Int32)) d h)
      · have h := ite_n c5 h
        refine V_aload_n (pc := 37) 1 dX2_nextRow_37 rfl rfl ?_
        refine V_getR (pc := 38) (c := 2) (k := 1) dX2_nextRow_38 (by decide) (by decide) kw340 rfl rfl (L2_0 H0) (L2_r1 H0) ?_
        refine V_iload_n (pc := 41) 4 dX2_nextRow_41 rfl rfl ?_
        refine V_dup2 (pc := 42) dX2_nextRow_42 rfl rfl ?_
        obtain ⟨b6, h⟩ := ite_o h
        refine V_iald (pc := 43) dX2_nextRow_43 (L2_s1 H0) (inB_vp b6) ?_
        refine V_iconst (pc := 44) (x := 1) dX2_nextRow_44 (by decide) ?_
        refine V_iadd (pc := 45) dX2_nextRow_45 ?_
        obtain ⟨b7, h⟩ := ite_o h
        refine V_iast (pc := 46) dX2_nextRow_46 (L2_s1 H0) (inB_vp b7) ?_
        refine V_iload_n (pc := 47) 4 dX2_nextRow_47 rfl rfl ?_
        refine V_iconst (pc := 48) (x := 1) dX2_nextRow_48 (by decide) ?_
        refine V_iadd (pc := 49) dX2_nextRow_49 ?_
        refine V_istore (pc := 50) (lv1 := [(5, _), (4, _), (0, _), (1, _), (2, _), (3, _)]) dX2_nextRow_50 (by decide) rfl ?_
        exact V_sub [2, 3, 0] rfl (wX2_nextRow_52 H0 FUEL (v3 + (1 : Int32)) (uI d (r0 + 2) v3.toNatClampNeg ((d.1 (r0 + 2) v3.toNatClampNeg) + (1 : Int32))) h)
theorem calX2_nextRow : Cal yX2_nextRow cX2_nextRow 6 (some .boolean) 2 := ⟨kw1110, kw10, by decide +kernel⟩
theorem ctX2_nextRow {G : Gl} {σ : Sg} {d : Dt} {r0 : Nat} {v1 : Int32} {v2 : Int32} {rr : Bool × Dt} (H0 : L2 σ r0) (h : mX2_nextRow r0 v1 v2 d = some rr) : CTv G yX2_nextRow cX2_nextRow 6 (some .boolean) 4 [.ref (gB G + r0), .int v1, .int v2] σ d [.int (b2i rr.1)] rr.2 := by
  refine CT_of pn_RX2 (Nat.le_of_ble_eq_true rfl) ?_
  rw [mX2_nextRow] at h
  refine V_iload_n (pc := 0) 1 dX2_nextRow_0 rfl rfl ?_
  refine V_iconst (pc := 1) (x := 1) dX2_nextRow_1 (by decide) ?_
  refine V_isub (pc := 2) dX2_nextRow_2 ?_
  refine V_istore_n (pc := 3) (lv1 := [(3, _), (0, _), (1, _), (2, _)]) dX2_nextRow_3 rfl (by decide) rfl ?_
  exact V_sub [1, 2, 3, 0] rfl (wX2_nextRow_4 H0 FUEL (v1 - (1 : Int32)) d h)
theorem wX2_find_33 {G : Gl} {σ : Sg} {r0 : Nat} {v2 : Int32} {v3 : Int32} {rr : Dt} (H0 : L2 σ r0) : ∀ (n : Nat) (v4 : Int32) (v5 : Int32) (d : Dt), mX2_find_33 r0 v2 v3 n v4 v5 d = some rr → V G yX2_find cX2_find 6 none 6 0 0 (PH [] σ rr) 33 [(0, .ref (gB G + r0)), (2, .int v2), (3, .int v3), (4, .int v4), (5, .int v5)] [] σ d := by
  intro n
  induction n with
  | zero =>
    intro v4 v5 d
    intros
    rename_i h
    exact absurd h (by rw [mX2_find_33]; exact fun q => nomatch q)
  | succ n ih =>
    intro v4 v5 d h
    rw [mX2_find_33] at h
    refine V_iload (pc := 33) 4 dX2_find_33 rfl ?_
    refine V_bipush (pc := 35) (x := 52) dX2_find_35 (by decide) ?_
    refine V_icmp_ge (pc := 37) (tgt := 64) dX2_find_37 (by decide) (fun c5 => ?_) (fun c5 => ?_)
    · have h := ite_p c5 h
      cases h
      exact V_ret (pc := 64) dX2_find_64 ⟨rfl, rfl⟩ ⟨rfl, rfl, rfl⟩
    · have h := ite_n c5 h
      refine V_iload (pc := 40) 3 dX2_find_40 rfl ?_
      refine V_if_eq (pc := 42) (tgt := 64) dX2_find_42 (by decide) (fun c6 => ?_) (fun c6 => ?_)
      · have h := ite_p c6 h
        cases h
        exact V_ret (pc := 64) dX2_find_64 ⟨rfl, rfl⟩ ⟨rfl, rfl, rfl⟩
      · have h := ite_n c6 h
        refine V_aload_n (pc := 45) 0 dX2_find_45 rfl rfl ?_
        refine V_iload_n (pc := 46) 2 dX2_find_46 rfl rfl ?_
        obtain ⟨x8, h7, h⟩ := bnd h
        refine V_cV1 (pc := 47) dX2_find_47 kw1095 calX2_keepIfLess kw1097 ks48 (L2_0 H0) rfl (by decide) (Nat.le_of_ble_eq_true rfl) (ctX2_keepIfLess H0 h7) ?_
        refine V_aload_n (pc := 50) 0 dX2_find_50 rfl rfl ?_
        refine V_iload_n (pc := 51) 2 dX2_find_51 rfl rfl ?_
        refine V_iload_n (pc := 52) 1 dX2_find_52 rfl rfl ?_
        obtain ⟨x10, h9, h⟩ := bnd h
        refine V_cV2 (pc := 53) dX2_find_53 kw1107 calX2_nextRow kw1109 ks50 (L2_0 H0) rfl (by decide) (Nat.le_of_ble_eq_true rfl) (ctX2_nextRow H0 h9) ?_
        refine V_istore (pc := 56) (lv1 := [(4, _), (0, _), (2, _), (3, _), (5, _)]) dX2_find_56 (by decide) rfl ?_
        refine V_iinc (pc := 58) (lv1 := [(5, _), (4, _), (0, _), (2, _), (3, _)]) (z := _ + (1 : Int32)) 4 dX2_find_58 rfl rfl (by decide) rfl ?_
        refine V_goto (pc := 61) (tgt := 33) dX2_find_61 (by decide) ?_
        exact V_sub [2, 3, 4, 1, 0] rfl (ih (b2i x10.1) (v5 + (1 : Int32)) x10.2 h)
theorem calX2_find : Cal yX2_find cX2_find 6 none 2 := ⟨kw1083, kw10, by decide +kernel⟩
theorem ctX2_find {G : Gl} {σ : Sg} {d : Dt} {r0 : Nat} {r1 : Nat} {v2 : Int32} {rr : Dt} (H0 : L2 σ r0) (H1 : L4 σ r1) (h : mX2_find r0 r1 v2 d = some rr) : CTv G yX2_find cX2_find 6 none 6 [.ref (gB G + r0), .ref (gB G + r1), .int v2] σ d [] rr := by
  refine CT_of pn_RX2 (Nat.le_of_ble_eq_true rfl) ?_
  rw [mX2_find] at h
  refine V_aload_n (pc := 0) 1 dX2_find_0 rfl rfl ?_
  refine V_getR (pc := 1) (c := 4) (k := 9) dX2_find_1 (by decide) (by decide) kw248 rfl rfl (L4_0 H1) (L4_r9 H1) ?_
  refine V_getI (pc := 4) (c := 1) (k := 0) dX2_find_4 (by decide) (by decide) kw201 rfl rfl (L1_0 (L4_o9 H1)) ?_
  refine V_istore_n (pc := 7) (lv1 := [(3, _), (0, _), (1, _), (2, _)]) dX2_find_7 rfl (by decide) rfl ?_
  refine V_aload_n (pc := 8) 1 dX2_find_8 rfl rfl ?_
  refine V_aload_n (pc := 9) 2 dX2_find_9 rfl rfl ?_
  obtain ⟨x2, h1, h⟩ := bnd h
  refine V_cV1 (pc := 10) dX2_find_10 kw1084 calX2_weighGroups kw1086 ks47 (L2_0 H0) rfl (by decide) (Nat.le_of_ble_eq_true rfl) (ctX2_weighGroups H0 H1 h1) ?_
  refine V_aload_n (pc := 13) 1 dX2_find_13 rfl rfl ?_
  refine V_getR (pc := 14) (c := 2) (k := 1) dX2_find_14 (by decide) (by decide) kw340 rfl rfl (L2_0 H0) (L2_r1 H0) ?_
  refine V_iconst (pc := 17) (x := 0) dX2_find_17 (by decide) ?_
  obtain ⟨x4, h3, h⟩ := bnd h
  refine V_cS2 (pc := 18) dX2_find_18 kw1091 calJ7_fill_53178 kw1092 (by decide) (Nat.le_of_ble_eq_true rfl) (ctJ7_fill_53178 (L2_s1 H0) h3) ?_
  refine V_aload_n (pc := 21) 1 dX2_find_21 rfl rfl ?_
  refine V_ldc (pc := 22) dX2_find_22 kw1094 ?_
  refine V_putI (pc := 24) (c := 2) (k := 3) dX2_find_24 (by decide) (by decide) kw343 rfl rfl rfl ⟨rfl, rfl⟩ (L2_0 H0) ?_
  refine V_iconst (pc := 27) (x := 1) dX2_find_27 (by decide) ?_
  refine V_istore (pc := 28) (lv1 := [(4, _), (3, _), (0, _), (1, _), (2, _)]) dX2_find_28 (by decide) rfl ?_
  refine V_iconst (pc := 30) (x := 0) dX2_find_30 (by decide) ?_
  refine V_istore (pc := 31) (lv1 := [(5, _), (4, _), (3, _), (0, _), (1, _), (2, _)]) dX2_find_31 (by decide) rfl ?_
  exact V_sub [3, 5, 2, 1, 0] rfl (wX2_find_33 H0 FUEL (1 : Int32) (0 : Int32) (uI x4 r0 3 (2147483647 : Int32)) h)
theorem calX11_families : Cal yX11_families cX11_families 3 (some .int) 1 := ⟨kw1071, kw1, by decide +kernel⟩
theorem ctX11_families {G : Gl} {σ : Sg} {d : Dt} {r0 : Nat} {r0h : Nat} {r0p : Nat} {v1 : Int32} {rr : Int32 × Dt} (H0 : L10 σ r0 r0h r0p) (h : mX11_families r0 r0h r0p v1 d = some rr) : CTv G yX11_families cX11_families 3 (some .int) 7 [.ref (gB G + r0), .int v1] σ d [.int rr.1] rr.2 := by
  refine CT_of pn_RX11 (Nat.le_of_ble_eq_true rfl) ?_
  rw [mX11_families] at h
  refine V_aload_n (pc := 0) 0 dX11_families_0 rfl rfl ?_
  refine V_iload_n (pc := 1) 1 dX11_families_1 rfl rfl ?_
  refine V_cV1 (pc := 2) dX11_families_2 kw1072 calX11_troubleOfFamilies kw1074 ks45 (L10_0 H0) rfl (by decide) (Nat.le_of_ble_eq_true rfl) (ctX11_troubleOfFamilies H0) ?_
  refine V_istore_n (pc := 5) (lv1 := [(2, _), (0, _), (1, _)]) dX11_families_5 rfl (by decide) rfl ?_
  refine V_iload_n (pc := 6) 0 dX11_families_6 rfl rfl ?_
  refine V_if_eq (pc := 7) (tgt := 16) dX11_families_7 (by decide) (fun c3 => ?_) (fun c3 => ?_)
  · have h := ite_p c3 h
    refine V_aload_n (pc := 16) 1 dX11_families_16 rfl rfl ?_
    refine V_getR (pc := 17) (c := 10) (k := 8) dX11_families_17 (by decide) (by decide) kw362 rfl rfl (L10_0 H0) (L10_r8 H0) ?_
    refine V_aload_n (pc := 20) 1 dX11_families_20 rfl rfl ?_
    refine V_getR (pc := 21) (c := 10) (k := 2) dX11_families_21 (by decide) (by decide) kw356 rfl rfl (L10_0 H0) (L10_r2 H0) ?_
    refine V_iload_n (pc := 24) 2 dX11_families_24 rfl rfl ?_
    obtain ⟨x5, h4, h⟩ := bnd h
    refine V_cV2 (pc := 25) dX11_families_25 kw1080 calX2_find kw1081 kw1082 (L2_0 (L10_o8 H0)) rfl (by decide) (Nat.le_of_ble_eq_true rfl) (ctX2_find (L10_o8 H0) (L10_o2 H0) h4) ?_
    refine V_aload_n (pc := 28) 1 dX11_families_28 rfl rfl ?_
    refine V_aload_n (pc := 29) 1 dX11_families_29 rfl rfl ?_
    refine V_getR (pc := 30) (c := 10) (k := 8) dX11_families_30 (by decide) (by decide) kw362 rfl rfl (L10_0 H0) (L10_r8 H0) ?_
    refine V_getI (pc := 33) (c := 2) (k := 3) dX11_families_33 (by decide) (by decide) kw344 rfl rfl (L2_0 (L10_o8 H0)) ?_
    refine V_cV1 (pc := 36) dX11_families_36 kw720 calX11_answer kw722 ks29 (L10_0 H0) rfl (by decide) (Nat.le_of_ble_eq_true rfl) (ctX11_answer H0) ?_
    cases h
    exact V_ret (pc := 39) dX11_families_39 ⟨rfl, _, rfl⟩ ⟨rfl, rfl, rfl⟩
  · have h := ite_n c3 h
    refine V_aload_n (pc := 10) 1 dX11_families_10 rfl rfl ?_
    refine V_iload_n (pc := 11) 0 dX11_families_11 rfl rfl ?_
    refine V_cV1 (pc := 12) dX11_families_12 kw403 calX11_refuse kw405 ks1 (L10_0 H0) rfl (by decide) (Nat.le_of_ble_eq_true rfl) (ctX11_refuse H0) ?_
    cases h
    exact V_ret (pc := 15) dX11_families_15 ⟨rfl, _, rfl⟩ ⟨rfl, rfl, rfl⟩
theorem calX11_far : Cal yX11_far cX11_far 3 (some .int) 2 := ⟨kw756, kw1, by decide +kernel⟩
theorem ctX11_far {G : Gl} {σ : Sg} {d : Dt} {r0 : Nat} {r0h : Nat} {r0p : Nat} {v1 : Int32} {v2 : Int32} {rr : Int32 × Dt} (H0 : L10 σ r0 r0h r0p) (h : mX11_far r0 r0h r0p v1 v2 d = some rr) : CTv G yX11_far cX11_far 3 (some .int) 1 [.ref (gB G + r0), .int v1, .int v2] σ d [.int rr.1] rr.2 := by
  refine CT_of pn_RX11 (Nat.le_of_ble_eq_true rfl) ?_
  rw [mX11_far] at h
  refine V_aload_n (pc := 0) 0 dX11_far_0 rfl rfl ?_
  refine V_iload_n (pc := 1) 1 dX11_far_1 rfl rfl ?_
  refine V_cV1 (pc := 2) dX11_far_2 kw745 calX11_isNode kw747 ks30 (L10_0 H0) rfl (by decide) (Nat.le_of_ble_eq_true rfl) (ctX11_isNode H0) ?_
  refine V_ifB_eq (pc := 5) (tgt := 16) dX11_far_5 (by decide) (fun c3 => ?_) (fun c3 => ?_)
  · have h := ite_f c3 h
    refine V_aload_n (pc := 16) 0 dX11_far_16 rfl rfl ?_
    refine V_iconst (pc := 17) (x := 1) dX11_far_17 (by decide) ?_
    refine V_cV1 (pc := 18) dX11_far_18 kw403 calX11_refuse kw405 ks1 (L10_0 H0) rfl (by decide) (Nat.le_of_ble_eq_true rfl) (ctX11_refuse H0) ?_
    cases h
    exact V_ret (pc := 21) dX11_far_21 ⟨rfl, _, rfl⟩ ⟨rfl, rfl, rfl⟩
  · have h := ite_p c3 h
    refine V_aload_n (pc := 8) 0 dX11_far_8 rfl rfl ?_
    refine V_iload_n (pc := 9) 2 dX11_far_9 rfl rfl ?_
    refine V_cV1 (pc := 10) dX11_far_10 kw745 calX11_isNode kw747 ks30 (L10_0 H0) rfl (by decide) (Nat.le_of_ble_eq_true rfl) (ctX11_isNode H0) ?_
    refine V_ifB_ne (pc := 13) (tgt := 22) dX11_far_13 (by decide) (fun c8 => ?_) (fun c8 => ?_)
    · have h := ite_p c8 h
      refine V_aload_n (pc := 22) 0 dX11_far_22 rfl rfl ?_
      refine V_aload_n (pc := 23) 0 dX11_far_23 rfl rfl ?_
      refine V_getR (pc := 24) (c := 10) (k := 2) dX11_far_24 (by decide) (by decide) kw356 rfl rfl (L10_0 H0) (L10_r2 H0) ?_
      refine V_getR (pc := 27) (c := 4) (k := 6) dX11_far_27 (by decide) (by decide) kw233 rfl rfl (L4_0 (L10_o2 H0)) (L4_r6 (L10_o2 H0)) ?_
      refine V_getR (pc := 30) (c := 9) (k := 7) dX11_far_30 (by decide) (by decide) kw65 rfl rfl (L9_0 (L4_o6 (L10_o2 H0))) (L9_r7 (L4_o6 (L10_o2 H0))) ?_
      refine V_iload_n (pc := 33) 1 dX11_far_33 rfl rfl ?_
      obtain ⟨b9, h⟩ := ite_o h
      refine V_aald (pc := 34) dX11_far_34 (⟨L9_s7 (L4_o6 (L10_o2 H0)), L9_g7 (L4_o6 (L10_o2 H0))⟩ : GR σ _ _ _).1 (inB_vp b9) ((⟨L9_s7 (L4_o6 (L10_o2 H0)), L9_g7 (L4_o6 (L10_o2 H0))⟩ : GR σ _ _ _).2 _ (inB_lt b9)).1 ?_
      refine V_iload_n (pc := 35) 2 dX11_far_35 rfl rfl ?_
      obtain ⟨b10, h⟩ := ite_o h
      refine V_iald (pc := 36) dX11_far_36 ((⟨L9_s7 (L4_o6 (L10_o2 H0)), L9_g7 (L4_o6 (L10_o2 H0))⟩ : GR σ _ _ _).2 _ (inB_lt b9)).2 (inB_vp b10) ?_
      refine V_cV1 (pc := 37) dX11_far_37 kw720 calX11_answer kw722 ks29 (L10_0 H0) rfl (by decide) (Nat.le_of_ble_eq_true rfl) (ctX11_answer H0) ?_
      cases h
      exact V_ret (pc := 40) dX11_far_40 ⟨rfl, _, rfl⟩ ⟨rfl, rfl, rfl⟩
    · have h := ite_f c8 h
      refine V_aload_n (pc := 16) 0 dX11_far_16 rfl rfl ?_
      refine V_iconst (pc := 17) (x := 1) dX11_far_17 (by decide) ?_
      refine V_cV1 (pc := 18) dX11_far_18 kw403 calX11_refuse kw405 ks1 (L10_0 H0) rfl (by decide) (Nat.le_of_ble_eq_true rfl) (ctX11_refuse H0) ?_
      cases h
      exact V_ret (pc := 21) dX11_far_21 ⟨rfl, _, rfl⟩ ⟨rfl, rfl, rfl⟩
theorem calX11_fault : Cal yX11_fault cX11_fault 1 (some .int) 0 := ⟨kw727, kw1, by decide +kernel⟩
theorem ctX11_fault {G : Gl} {σ : Sg} {d : Dt} {r0 : Nat} {r0h : Nat} {r0p : Nat} (H0 : L10 σ r0 r0h r0p) : CTv G yX11_fault cX11_fault 1 (some .int) 0 [.ref (gB G + r0)] σ d [.int (mX11_fault r0 r0h r0p d)] d := by
  refine CT_of pn_RX11 (Nat.le_of_ble_eq_true rfl) ?_
  generalize h : mX11_fault r0 r0h r0p d = rr
  rw [mX11_fault] at h
  refine V_aload_n (pc := 0) 0 dX11_fault_0 rfl rfl ?_
  refine V_getI (pc := 1) (c := 10) (k := 10) dX11_fault_1 (by decide) (by decide) kw364 rfl rfl (L10_0 H0) ?_
  subst h
  exact V_ret (pc := 4) dX11_fault_4 ⟨rfl, _, rfl⟩ ⟨rfl, rfl, rfl⟩
theorem wX11_putBytes_3 {G : Gl} {σ : Sg} {r0 : Nat} {r0h : Nat} {r0p : Nat} {v1 : Int32} {rr : Dt} (H0 : L10 σ r0 r0h r0p) : ∀ (n : Nat) (v2 : Int32) (d : Dt), mX11_putBytes_3 r0 r0h r0p v1 n v2 d = some rr → V G yX11_putBytes cX11_putBytes 3 none 0 0 0 (PH [] σ rr) 3 [(0, .ref (gB G + r0)), (1, .int v1), (2, .int v2)] [] σ d := by
  intro n
  induction n with
  | zero =>
    intro v2 d
    intros
    rename_i h
    exact absurd h (by rw [mX11_putBytes_3]; exact fun q => nomatch q)
  | succ n ih =>
    intro v2 d h
    rw [mX11_putBytes_3] at h
    refine V_iload_n (pc := 3) 2 dX11_putBytes_3 rfl rfl ?_
    refine V_if_lt (pc := 4) (tgt := 46) dX11_putBytes_4 (by decide) (fun c1 => ?_) (fun c1 => ?_)
    · have h := ite_p c1 h
      cases h
      exact V_ret (pc := 46) dX11_putBytes_46 ⟨rfl, rfl⟩ ⟨rfl, rfl, rfl⟩
    · have h := ite_n c1 h
      refine V_aload_n (pc := 7) 0 dX11_putBytes_7 rfl rfl ?_
      refine V_getI (pc := 8) (c := 10) (k := 1) dX11_putBytes_8 (by decide) (by decide) kw355 rfl rfl (L10_0 H0) ?_
      refine V_sipush (pc := 11) (x := 1000) dX11_putBytes_11 (by decide) ?_
      refine V_icmp_ge (pc := 14) (tgt := 40) dX11_putBytes_14 (by decide) (fun c2 => ?_) (fun c2 => ?_)
      · have h := ite_p c2 h
        refine V_iinc (pc := 40) (lv1 := [(2, _), (0, _), (1, _)]) (z := _ + (-8 : Int32)) 2 dX11_putBytes_40 rfl rfl (by decide) rfl ?_
        refine V_goto (pc := 43) (tgt := 3) dX11_putBytes_43 (by decide) ?_
        exact V_sub [1, 2, 0] rfl (ih (v2 + (-8 : Int32)) d h)
      · have h := ite_n c2 h
        refine V_aload_n (pc := 17) 0 dX11_putBytes_17 rfl rfl ?_
        refine V_getR (pc := 18) (c := 10) (k := 0) dX11_putBytes_18 (by decide) (by decide) kw354 rfl rfl (L10_0 H0) (L10_r0 H0) ?_
        refine V_aload_n (pc := 21) 0 dX11_putBytes_21 rfl rfl ?_
        refine V_getI (pc := 22) (c := 10) (k := 1) dX11_putBytes_22 (by decide) (by decide) kw355 rfl rfl (L10_0 H0) ?_
        refine V_iload_n (pc := 25) 1 dX11_putBytes_25 rfl rfl ?_
        refine V_iload_n (pc := 26) 2 dX11_putBytes_26 rfl rfl ?_
        refine V_ishr (pc := 27) dX11_putBytes_27 ?_
        refine V_i2b (pc := 28) dX11_putBytes_28 ?_
        obtain ⟨b3, h⟩ := ite_o h
        refine V_bast (pc := 29) dX11_putBytes_29 (L10_s0 H0) (inB_vp b3) ?_
        refine V_aload_n (pc := 30) 0 dX11_putBytes_30 rfl rfl ?_
        refine V_dup (pc := 31) dX11_putBytes_31 rfl ?_
        refine V_getI (pc := 32) (c := 10) (k := 1) dX11_putBytes_32 (by decide) (by decide) kw355 rfl rfl (L10_0 H0) ?_
        refine V_iconst (pc := 35) (x := 1) dX11_putBytes_35 (by decide) ?_
        refine V_iadd (pc := 36) dX11_putBytes_36 ?_
        refine V_putI (pc := 37) (c := 10) (k := 1) dX11_putBytes_37 (by decide) (by decide) kw355 rfl rfl rfl ⟨rfl, rfl⟩ (L10_0 H0) ?_
        refine V_iinc (pc := 40) (lv1 := [(2, _), (0, _), (1, _)]) (z := _ + (-8 : Int32)) 2 dX11_putBytes_40 rfl rfl (by decide) rfl ?_
        refine V_goto (pc := 43) (tgt := 3) dX11_putBytes_43 (by decide) ?_
        exact V_sub [1, 2, 0] rfl (ih (v2 + (-8 : Int32)) (uI (uI d (r0 + 1) (d.1 r0 1).toNatClampNeg ((v1 >>> (v2 &&& 31)).toInt8.toInt32).toInt8.toInt32) r0 1 (((uI d (r0 + 1) (d.1 r0 1).toNatClampNeg ((v1 >>> (v2 &&& 31)).toInt8.toInt32).toInt8.toInt32).1 r0 1) + (1 : Int32))) h)
theorem calX11_putBytes : Cal yX11_putBytes cX11_putBytes 3 none 1 := ⟨kw398, kw1, by decide +kernel⟩
theorem ctX11_putBytes {G : Gl} {σ : Sg} {d : Dt} {r0 : Nat} {r0h : Nat} {r0p : Nat} {v1 : Int32} {rr : Dt} (H0 : L10 σ r0 r0h r0p) (h : mX11_putBytes r0 r0h r0p v1 d = some rr) : CTv G yX11_putBytes cX11_putBytes 3 none 0 [.ref (gB G + r0), .int v1] σ d [] rr := by
  refine CT_of pn_RX11 (Nat.le_of_ble_eq_true rfl) ?_
  rw [mX11_putBytes] at h
  refine V_bipush (pc := 0) (x := 24) dX11_putBytes_0 (by decide) ?_
  refine V_istore_n (pc := 2) (lv1 := [(2, _), (0, _), (1, _)]) dX11_putBytes_2 rfl (by decide) rfl ?_
  exact V_sub [1, 2, 0] rfl (wX11_putBytes_3 H0 FUEL (24 : Int32) d h)
theorem calX11_feed : Cal yX11_feed cX11_feed 6 (some .int) 5 := ⟨kw394, kw1, by decide +kernel⟩
theorem ctX11_feed {G : Gl} {σ : Sg} {d : Dt} {r0 : Nat} {r0h : Nat} {r0p : Nat} {v1 : Int32} {v2 : Int32} {v3 : Int32} {v4 : Int32} {v5 : Int32} {rr : Int32 × Dt} (H0 : L10 σ r0 r0h r0p) (h : mX11_feed r0 r0h r0p v1 v2 v3 v4 v5 d = some rr) : CTv G yX11_feed cX11_feed 6 (some .int) 1 [.ref (gB G + r0), .int v1, .int v2, .int v3, .int v4, .int v5] σ d [.int rr.1] rr.2 := by
  refine CT_of pn_RX11 (Nat.le_of_ble_eq_true rfl) ?_
  rw [mX11_feed] at h
  refine V_aload_n (pc := 0) 0 dX11_feed_0 rfl rfl ?_
  refine V_getI (pc := 1) (c := 10) (k := 1) dX11_feed_1 (by decide) (by decide) kw355 rfl rfl (L10_0 H0) ?_
  refine V_sipush (pc := 4) (x := 980) dX11_feed_4 (by decide) ?_
  refine V_icmp_le (pc := 7) (tgt := 12) dX11_feed_7 (by decide) (fun c1 => ?_) (fun c1 => ?_)
  · have h := ite_p c1 h
    refine V_aload_n (pc := 12) 0 dX11_feed_12 rfl rfl ?_
    refine V_iload_n (pc := 13) 1 dX11_feed_13 rfl rfl ?_
    obtain ⟨x3, h2, h⟩ := bnd h
    refine V_cV1 (pc := 14) dX11_feed_14 kw395 calX11_putBytes kw397 ks0 (L10_0 H0) rfl (by decide) (Nat.le_of_ble_eq_true rfl) (ctX11_putBytes H0 h2) ?_
    refine V_aload_n (pc := 17) 0 dX11_feed_17 rfl rfl ?_
    refine V_iload_n (pc := 18) 2 dX11_feed_18 rfl rfl ?_
    obtain ⟨x5, h4, h⟩ := bnd h
    refine V_cV1 (pc := 19) dX11_feed_19 kw395 calX11_putBytes kw397 ks0 (L10_0 H0) rfl (by decide) (Nat.le_of_ble_eq_true rfl) (ctX11_putBytes H0 h4) ?_
    refine V_aload_n (pc := 22) 0 dX11_feed_22 rfl rfl ?_
    refine V_iload_n (pc := 23) 3 dX11_feed_23 rfl rfl ?_
    obtain ⟨x7, h6, h⟩ := bnd h
    refine V_cV1 (pc := 24) dX11_feed_24 kw395 calX11_putBytes kw397 ks0 (L10_0 H0) rfl (by decide) (Nat.le_of_ble_eq_true rfl) (ctX11_putBytes H0 h6) ?_
    refine V_aload_n (pc := 27) 0 dX11_feed_27 rfl rfl ?_
    refine V_iload (pc := 28) 4 dX11_feed_28 rfl ?_
    obtain ⟨x9, h8, h⟩ := bnd h
    refine V_cV1 (pc := 30) dX11_feed_30 kw395 calX11_putBytes kw397 ks0 (L10_0 H0) rfl (by decide) (Nat.le_of_ble_eq_true rfl) (ctX11_putBytes H0 h8) ?_
    refine V_aload_n (pc := 33) 0 dX11_feed_33 rfl rfl ?_
    refine V_iload (pc := 34) 5 dX11_feed_34 rfl ?_
    obtain ⟨x11, h10, h⟩ := bnd h
    refine V_cV1 (pc := 36) dX11_feed_36 kw395 calX11_putBytes kw397 ks0 (L10_0 H0) rfl (by decide) (Nat.le_of_ble_eq_true rfl) (ctX11_putBytes H0 h10) ?_
    refine V_aload_n (pc := 39) 0 dX11_feed_39 rfl rfl ?_
    refine V_getI (pc := 40) (c := 10) (k := 1) dX11_feed_40 (by decide) (by decide) kw355 rfl rfl (L10_0 H0) ?_
    cases h
    exact V_ret (pc := 43) dX11_feed_43 ⟨rfl, _, rfl⟩ ⟨rfl, rfl, rfl⟩
  · have h := ite_n c1 h
    refine V_iconst (pc := 10) (x := (-1)) dX11_feed_10 (by decide) ?_
    cases h
    exact V_ret (pc := 11) dX11_feed_11 ⟨rfl, _, rfl⟩ ⟨rfl, rfl, rfl⟩
theorem calX3_add : Cal yX3_add cX3_add 7 none 5 := ⟨kw1003, kw9, by decide +kernel⟩
theorem ctX3_add {G : Gl} {σ : Sg} {d : Dt} {r0 : Nat} {v1 : Int32} {v2 : Int32} {v3 : Int32} {v4 : Int32} {v5 : Int32} {rr : Dt} (H0 : L3 σ r0) (h : mX3_add r0 v1 v2 v3 v4 v5 d = some rr) : CTv G yX3_add cX3_add 7 none 0 [.ref (gB G + r0), .int v1, .int v2, .int v3, .int v4, .int v5] σ d [] rr := by
  refine CT_of pn_RX3 (Nat.le_of_ble_eq_true rfl) ?_
  rw [mX3_add] at h
  refine V_aload_n (pc := 0) 0 dX3_add_0 rfl rfl ?_
  refine V_getI (pc := 1) (c := 3) (k := 0) dX3_add_1 (by decide) (by decide) kw323 rfl rfl (L3_0 H0) ?_
  refine V_sipush (pc := 4) (x := 160) dX3_add_4 (by decide) ?_
  refine V_icmp_ge (pc := 7) (tgt := 78) dX3_add_7 (by decide) (fun c1 => ?_) (fun c1 => ?_)
  · have h := ite_p c1 h
    cases h
    exact V_ret (pc := 78) dX3_add_78 ⟨rfl, rfl⟩ ⟨rfl, rfl, rfl⟩
  · have h := ite_n c1 h
    refine V_aload_n (pc := 10) 0 dX3_add_10 rfl rfl ?_
    refine V_getI (pc := 11) (c := 3) (k := 0) dX3_add_11 (by decide) (by decide) kw323 rfl rfl (L3_0 H0) ?_
    refine V_iconst (pc := 14) (x := 5) dX3_add_14 (by decide) ?_
    refine V_imul (pc := 15) dX3_add_15 ?_
    refine V_istore (pc := 16) (lv1 := [(6, _), (0, _), (1, _), (2, _), (3, _), (4, _), (5, _)]) dX3_add_16 (by decide) rfl ?_
    refine V_aload_n (pc := 18) 1 dX3_add_18 rfl rfl ?_
    refine V_getR (pc := 19) (c := 3) (k := 1) dX3_add_19 (by decide) (by decide) kw324 rfl rfl (L3_0 H0) (L3_r1 H0) ?_
    refine V_iload (pc := 22) 0 dX3_add_22 rfl ?_
    refine V_iload_n (pc := 24) 2 dX3_add_24 rfl rfl ?_
    obtain ⟨b2, h⟩ := ite_o h
    refine V_iast (pc := 25) dX3_add_25 (L3_s1 H0) (inB_vp b2) ?_
    refine V_aload_n (pc := 26) 1 dX3_add_26 rfl rfl ?_
    refine V_getR (pc := 27) (c := 3) (k := 1) dX3_add_27 (by decide) (by decide) kw324 rfl rfl (L3_0 H0) (L3_r1 H0) ?_
    refine V_iload (pc := 30) 0 dX3_add_30 rfl ?_
    refine V_iconst (pc := 32) (x := 1) dX3_add_32 (by decide) ?_
    refine V_iadd (pc := 33) dX3_add_33 ?_
    refine V_iload_n (pc := 34) 3 dX3_add_34 rfl rfl ?_
    obtain ⟨b3, h⟩ := ite_o h
    refine V_iast (pc := 35) dX3_add_35 (L3_s1 H0) (inB_vp b3) ?_
    refine V_aload_n (pc := 36) 1 dX3_add_36 rfl rfl ?_
    refine V_getR (pc := 37) (c := 3) (k := 1) dX3_add_37 (by decide) (by decide) kw324 rfl rfl (L3_0 H0) (L3_r1 H0) ?_
    refine V_iload (pc := 40) 0 dX3_add_40 rfl ?_
    refine V_iconst (pc := 42) (x := 2) dX3_add_42 (by decide) ?_
    refine V_iadd (pc := 43) dX3_add_43 ?_
    refine V_iload_n (pc := 44) 4 dX3_add_44 rfl rfl ?_
    obtain ⟨b4, h⟩ := ite_o h
    refine V_iast (pc := 45) dX3_add_45 (L3_s1 H0) (inB_vp b4) ?_
    refine V_aload_n (pc := 46) 1 dX3_add_46 rfl rfl ?_
    refine V_getR (pc := 47) (c := 3) (k := 1) dX3_add_47 (by decide) (by decide) kw324 rfl rfl (L3_0 H0) (L3_r1 H0) ?_
    refine V_iload (pc := 50) 0 dX3_add_50 rfl ?_
    refine V_iconst (pc := 52) (x := 3) dX3_add_52 (by decide) ?_
    refine V_iadd (pc := 53) dX3_add_53 ?_
    refine V_iload (pc := 54) 5 dX3_add_54 rfl ?_
    obtain ⟨b5, h⟩ := ite_o h
    refine V_iast (pc := 56) dX3_add_56 (L3_s1 H0) (inB_vp b5) ?_
    refine V_aload_n (pc := 57) 1 dX3_add_57 rfl rfl ?_
    refine V_getR (pc := 58) (c := 3) (k := 1) dX3_add_58 (by decide) (by decide) kw324 rfl rfl (L3_0 H0) (L3_r1 H0) ?_
    refine V_iload (pc := 61) 0 dX3_add_61 rfl ?_
    refine V_iconst (pc := 63) (x := 4) dX3_add_63 (by decide) ?_
    refine V_iadd (pc := 64) dX3_add_64 ?_
    refine V_iload (pc := 65) 6 dX3_add_65 rfl ?_
    obtain ⟨b6, h⟩ := ite_o h
    refine V_iast (pc := 67) dX3_add_67 (L3_s1 H0) (inB_vp b6) ?_
    refine V_aload_n (pc := 68) 1 dX3_add_68 rfl rfl ?_
    refine V_dup (pc := 69) dX3_add_69 rfl ?_
    refine V_getI (pc := 70) (c := 3) (k := 0) dX3_add_70 (by decide) (by decide) kw323 rfl rfl (L3_0 H0) ?_
    refine V_iconst (pc := 73) (x := 1) dX3_add_73 (by decide) ?_
    refine V_iadd (pc := 74) dX3_add_74 ?_
    refine V_putI (pc := 75) (c := 3) (k := 0) dX3_add_75 (by decide) (by decide) kw323 rfl rfl rfl ⟨rfl, rfl⟩ (L3_0 H0) ?_
    cases h
    exact V_ret (pc := 78) dX3_add_78 ⟨rfl, rfl⟩ ⟨rfl, rfl, rfl⟩
theorem wX5_hasPinAt_3 {G : Gl} {σ : Sg} {d : Dt} {r0 : Nat} {v1 : Int32} {v2 : Int32} {v3 : Int32} {v4 : Int32} {rr : Bool} (H0 : L5 σ r0) : ∀ (n : Nat) (v5 : Int32), mX5_hasPinAt_3 d r0 v1 v2 v3 v4 n v5 = some rr → V G yX5_hasPinAt cX5_hasPinAt 6 (some .boolean) 1 0 0 (PH [.int (b2i rr)] σ d) 3 [(0, .ref (gB G + r0)), (1, .int v1), (2, .int v2), (3, .int v3), (4, .int v4), (5, .int v5)] [] σ d := by
  intro n
  induction n with
  | zero =>
    intro v5
    intros
    rename_i h
    exact absurd h (by rw [mX5_hasPinAt_3]; exact fun q => nomatch q)
  | succ n ih =>
    intro v5 h
    rw [mX5_hasPinAt_3] at h
    refine V_iload (pc := 3) 5 dX5_hasPinAt_3 rfl ?_
    refine V_aload_n (pc := 5) 0 dX5_hasPinAt_5 rfl rfl ?_
    refine V_getR (pc := 6) (c := 5) (k := 3) dX5_hasPinAt_6 (by decide) (by decide) kw151 rfl rfl (L5_0 H0) (L5_r3 H0) ?_
    refine V_iload_n (pc := 9) 1 dX5_hasPinAt_9 rfl rfl ?_
    obtain ⟨b1, h⟩ := ite_o h
    refine V_iald (pc := 10) dX5_hasPinAt_10 (L5_s3 H0) (inB_vp b1) ?_
    refine V_icmp_ge (pc := 11) (tgt := 58) dX5_hasPinAt_11 (by decide) (fun c2 => ?_) (fun c2 => ?_)
    · have h := ite_p c2 h
      refine V_iconst (pc := 58) (x := 0) dX5_hasPinAt_58 (by decide) ?_
      cases h
      exact V_ret (pc := 59) dX5_hasPinAt_59 ⟨rfl, _, rfl, rfl⟩ ⟨rfl, rfl, rfl⟩
    · have h := ite_n c2 h
      refine V_iload_n (pc := 14) 2 dX5_hasPinAt_14 rfl rfl ?_
      refine V_iload (pc := 15) 5 dX5_hasPinAt_15 rfl ?_
      refine V_cS2 (pc := 17) dX5_hasPinAt_17 kw675 calX10_has kw676 (by decide) (Nat.le_of_ble_eq_true rfl) (ctX10_has) ?_
      refine V_ifB_eq (pc := 20) (tgt := 52) dX5_hasPinAt_20 (by decide) (fun c5 => ?_) (fun c5 => ?_)
      · have h := ite_f c5 h
        refine V_iinc (pc := 52) (lv1 := [(5, _), (0, _), (1, _), (2, _), (3, _), (4, _)]) (z := _ + (1 : Int32)) 5 dX5_hasPinAt_52 rfl rfl (by decide) rfl ?_
        refine V_goto (pc := 55) (tgt := 3) dX5_hasPinAt_55 (by decide) ?_
        exact V_sub [1, 2, 3, 4, 5, 0] rfl (ih (v5 + (1 : Int32)) h)
      · have h := ite_p c5 h
        refine V_aload_n (pc := 23) 0 dX5_hasPinAt_23 rfl rfl ?_
        refine V_getR (pc := 24) (c := 5) (k := 7) dX5_hasPinAt_24 (by decide) (by decide) kw164 rfl rfl (L5_0 H0) (L5_r7 H0) ?_
        refine V_iload_n (pc := 27) 1 dX5_hasPinAt_27 rfl rfl ?_
        obtain ⟨b6, h⟩ := ite_o h
        refine V_aald (pc := 28) dX5_hasPinAt_28 (⟨L5_s7 H0, L5_g7 H0⟩ : GR σ _ _ _).1 (inB_vp b6) ((⟨L5_s7 H0, L5_g7 H0⟩ : GR σ _ _ _).2 _ (inB_lt b6)).1 ?_
        refine V_iload (pc := 29) 5 dX5_hasPinAt_29 rfl ?_
        obtain ⟨b7, h⟩ := ite_o h
        refine V_iald (pc := 31) dX5_hasPinAt_31 ((⟨L5_s7 H0, L5_g7 H0⟩ : GR σ _ _ _).2 _ (inB_lt b6)).2 (inB_vp b7) ?_
        refine V_iload_n (pc := 32) 3 dX5_hasPinAt_32 rfl rfl ?_
        refine V_icmp_ne (pc := 33) (tgt := 52) dX5_hasPinAt_33 (by decide) (fun c8 => ?_) (fun c8 => ?_)
        · have h := ite_n c8 h
          refine V_iinc (pc := 52) (lv1 := [(5, _), (0, _), (1, _), (2, _), (3, _), (4, _)]) (z := _ + (1 : Int32)) 5 dX5_hasPinAt_52 rfl rfl (by decide) rfl ?_
          refine V_goto (pc := 55) (tgt := 3) dX5_hasPinAt_55 (by decide) ?_
          exact V_sub [1, 2, 3, 4, 5, 0] rfl (ih (v5 + (1 : Int32)) h)
        · have h := ite_p c8 h
          refine V_aload_n (pc := 36) 0 dX5_hasPinAt_36 rfl rfl ?_
          refine V_getR (pc := 37) (c := 5) (k := 8) dX5_hasPinAt_37 (by decide) (by decide) kw168 rfl rfl (L5_0 H0) (L5_r8 H0) ?_
          refine V_iload_n (pc := 40) 1 dX5_hasPinAt_40 rfl rfl ?_
          obtain ⟨b9, h⟩ := ite_o h
          refine V_aald (pc := 41) dX5_hasPinAt_41 (⟨L5_s8 H0, L5_g8 H0⟩ : GR σ _ _ _).1 (inB_vp b9) ((⟨L5_s8 H0, L5_g8 H0⟩ : GR σ _ _ _).2 _ (inB_lt b9)).1 ?_
          refine V_iload (pc := 42) 5 dX5_hasPinAt_42 rfl ?_
          obtain ⟨b10, h⟩ := ite_o h
          refine V_iald (pc := 44) dX5_hasPinAt_44 ((⟨L5_s8 H0, L5_g8 H0⟩ : GR σ _ _ _).2 _ (inB_lt b9)).2 (inB_vp b10) ?_
          refine V_iload (pc := 45) 4 dX5_hasPinAt_45 rfl ?_
          refine V_icmp_ne (pc := 47) (tgt := 52) dX5_hasPinAt_47 (by decide) (fun c11 => ?_) (fun c11 => ?_)
          · have h := ite_n c11 h
            refine V_iinc (pc := 52) (lv1 := [(5, _), (0, _), (1, _), (2, _), (3, _), (4, _)]) (z := _ + (1 : Int32)) 5 dX5_hasPinAt_52 rfl rfl (by decide) rfl ?_
            refine V_goto (pc := 55) (tgt := 3) dX5_hasPinAt_55 (by decide) ?_
            exact V_sub [1, 2, 3, 4, 5, 0] rfl (ih (v5 + (1 : Int32)) h)
          · have h := ite_p c11 h
            refine V_iconst (pc := 50) (x := 1) dX5_hasPinAt_50 (by decide) ?_
            cases h
            exact V_ret (pc := 51) dX5_hasPinAt_51 ⟨rfl, _, rfl, rfl⟩ ⟨rfl, rfl, rfl⟩
theorem calX5_hasPinAt : Cal yX5_hasPinAt cX5_hasPinAt 6 (some .boolean) 4 := ⟨kw674, kw5, by decide +kernel⟩
theorem ctX5_hasPinAt {G : Gl} {σ : Sg} {d : Dt} {r0 : Nat} {v1 : Int32} {v2 : Int32} {v3 : Int32} {v4 : Int32} {rr : Bool} (H0 : L5 σ r0) (h : mX5_hasPinAt r0 v1 v2 v3 v4 d = some rr) : CTv G yX5_hasPinAt cX5_hasPinAt 6 (some .boolean) 1 [.ref (gB G + r0), .int v1, .int v2, .int v3, .int v4] σ d [.int (b2i rr)] d := by
  refine CT_of pn_RX5 (Nat.le_of_ble_eq_true rfl) ?_
  rw [mX5_hasPinAt] at h
  refine V_iconst (pc := 0) (x := 0) dX5_hasPinAt_0 (by decide) ?_
  refine V_istore (pc := 1) (lv1 := [(5, _), (0, _), (1, _), (2, _), (3, _), (4, _)]) dX5_hasPinAt_1 (by decide) rfl ?_
  exact V_sub [1, 2, 3, 4, 5, 0] rfl (wX5_hasPinAt_3 H0 FUEL (0 : Int32) h)
theorem wX3_firstAt_3 {G : Gl} {σ : Sg} {d : Dt} {r0 : Nat} {r1 : Nat} {v2 : Int32} {v3 : Int32} {v4 : Int32} {rr : Int32} (H0 : L3 σ r0) (H1 : L4 σ r1) : ∀ (n : Nat) (v5 : Int32), mX3_firstAt_3 d r0 r1 v2 v3 v4 n v5 = some rr → V G yX3_firstAt cX3_firstAt 6 (some .int) 2 0 0 (PH [.int rr] σ d) 3 [(0, .ref (gB G + r0)), (1, .ref (gB G + r1)), (2, .int v2), (3, .int v3), (4, .int v4), (5, .int v5)] [] σ d := by
  intro n
  induction n with
  | zero =>
    intro v5
    intros
    rename_i h
    exact absurd h (by rw [mX3_firstAt_3]; exact fun q => nomatch q)
  | succ n ih =>
    intro v5 h
    rw [mX3_firstAt_3] at h
    refine V_iload (pc := 3) 5 dX3_firstAt_3 rfl ?_
    refine V_iload_n (pc := 5) 2 dX3_firstAt_5 rfl rfl ?_
    refine V_icmp_ge (pc := 6) (tgt := 40) dX3_firstAt_6 (by decide) (fun c1 => ?_) (fun c1 => ?_)
    · have h := ite_p c1 h
      refine V_iconst (pc := 40) (x := (-1)) dX3_firstAt_40 (by decide) ?_
      cases h
      exact V_ret (pc := 41) dX3_firstAt_41 ⟨rfl, _, rfl⟩ ⟨rfl, rfl, rfl⟩
    · have h := ite_n c1 h
      refine V_aload_n (pc := 9) 1 dX3_firstAt_9 rfl rfl ?_
      refine V_getR (pc := 10) (c := 4) (k := 8) dX3_firstAt_10 (by decide) (by decide) kw242 rfl rfl (L4_0 H1) (L4_r8 H1) ?_
      refine V_iload (pc := 13) 5 dX3_firstAt_13 rfl ?_
      refine V_aload_n (pc := 15) 0 dX3_firstAt_15 rfl rfl ?_
      refine V_getR (pc := 16) (c := 3) (k := 2) dX3_firstAt_16 (by decide) (by decide) kw325 rfl rfl (L3_0 H0) (L3_r2 H0) ?_
      refine V_iload (pc := 19) 5 dX3_firstAt_19 rfl ?_
      obtain ⟨b2, h⟩ := ite_o h
      refine V_iald (pc := 21) dX3_firstAt_21 (L3_s2 H0) (inB_vp b2) ?_
      refine V_iload_n (pc := 22) 3 dX3_firstAt_22 rfl rfl ?_
      refine V_iload (pc := 23) 4 dX3_firstAt_23 rfl ?_
      obtain ⟨x4, h3, h⟩ := bnd h
      refine V_cV4 (pc := 25) dX3_firstAt_25 kw1008 calX5_hasPinAt kw672 kw673 (L5_0 (L4_o8 H1)) rfl (by decide) (Nat.le_of_ble_eq_true rfl) (ctX5_hasPinAt (L4_o8 H1) h3) ?_
      refine V_ifB_eq (pc := 28) (tgt := 34) dX3_firstAt_28 (by decide) (fun c5 => ?_) (fun c5 => ?_)
      · have h := ite_f c5 h
        refine V_iinc (pc := 34) (lv1 := [(5, _), (0, _), (1, _), (2, _), (3, _), (4, _)]) (z := _ + (1 : Int32)) 5 dX3_firstAt_34 rfl rfl (by decide) rfl ?_
        refine V_goto (pc := 37) (tgt := 3) dX3_firstAt_37 (by decide) ?_
        exact V_sub [1, 2, 3, 4, 5, 0] rfl (ih (v5 + (1 : Int32)) h)
      · have h := ite_p c5 h
        refine V_iload (pc := 31) 5 dX3_firstAt_31 rfl ?_
        cases h
        exact V_ret (pc := 33) dX3_firstAt_33 ⟨rfl, _, rfl⟩ ⟨rfl, rfl, rfl⟩
theorem calX3_firstAt : Cal yX3_firstAt cX3_firstAt 6 (some .int) 4 := ⟨kw1007, kw9, by decide +kernel⟩
theorem ctX3_firstAt {G : Gl} {σ : Sg} {d : Dt} {r0 : Nat} {r1 : Nat} {v2 : Int32} {v3 : Int32} {v4 : Int32} {rr : Int32} (H0 : L3 σ r0) (H1 : L4 σ r1) (h : mX3_firstAt r0 r1 v2 v3 v4 d = some rr) : CTv G yX3_firstAt cX3_firstAt 6 (some .int) 2 [.ref (gB G + r0), .ref (gB G + r1), .int v2, .int v3, .int v4] σ d [.int rr] d := by
  refine CT_of pn_RX3 (Nat.le_of_ble_eq_true rfl) ?_
  rw [mX3_firstAt] at h
  refine V_iconst (pc := 0) (x := 0) dX3_firstAt_0 (by decide) ?_
  refine V_istore (pc := 1) (lv1 := [(5, _), (0, _), (1, _), (2, _), (3, _), (4, _)]) dX3_firstAt_1 (by decide) rfl ?_
  exact V_sub [1, 2, 3, 4, 5, 0] rfl (wX3_firstAt_3 H0 H1 FUEL (0 : Int32) h)
theorem wX3_firstBeside_36 {G : Gl} {σ : Sg} {d : Dt} {r0 : Nat} {r1 : Nat} {v3 : Int32} {v4 : Int32} {v6 : Int32} {rr : Int32} (H0 : L3 σ r0) (H1 : L4 σ r1) : ∀ (n : Nat) (v7 : Int32), mX3_firstBeside_36 d r0 r1 v3 v4 v6 n v7 = some rr → V G yX3_firstBeside cX3_firstBeside 8 (some .int) 2 0 0 (PH [.int rr] σ d) 36 [(0, .ref (gB G + r0)), (1, .ref (gB G + r1)), (3, .int v3), (4, .int v4), (6, .int v6), (7, .int v7)] [] σ d := by
  intro n
  induction n with
  | zero =>
    intro v7
    intros
    rename_i h
    exact absurd h (by rw [mX3_firstBeside_36]; exact fun q => nomatch q)
  | succ n ih =>
    intro v7 h
    rw [mX3_firstBeside_36] at h
    refine V_iload (pc := 36) 5 dX3_firstBeside_36 rfl ?_
    refine V_aload_n (pc := 38) 1 dX3_firstBeside_38 rfl rfl ?_
    refine V_getR (pc := 39) (c := 4) (k := 8) dX3_firstBeside_39 (by decide) (by decide) kw242 rfl rfl (L4_0 H1) (L4_r8 H1) ?_
    refine V_getI (pc := 42) (c := 5) (k := 0) dX3_firstBeside_42 (by decide) (by decide) kw138 rfl rfl (L5_0 (L4_o8 H1)) ?_
    refine V_icmp_ge (pc := 45) (tgt := 120) dX3_firstBeside_45 (by decide) (fun c4 => ?_) (fun c4 => ?_)
    · have h := ite_p c4 h
      refine V_iconst (pc := 120) (x := (-1)) dX3_firstBeside_120 (by decide) ?_
      cases h
      exact V_ret (pc := 121) dX3_firstBeside_121 ⟨rfl, _, rfl⟩ ⟨rfl, rfl, rfl⟩
    · have h := ite_n c4 h
      refine V_aload_n (pc := 48) 1 dX3_firstBeside_48 rfl rfl ?_
      refine V_getR (pc := 49) (c := 4) (k := 8) dX3_firstBeside_49 (by decide) (by decide) kw242 rfl rfl (L4_0 H1) (L4_r8 H1) ?_
      refine V_getR (pc := 52) (c := 5) (k := 1) dX3_firstBeside_52 (by decide) (by decide) kw145 rfl rfl (L5_0 (L4_o8 H1)) (L5_r1 (L4_o8 H1)) ?_
      refine V_iload (pc := 55) 5 dX3_firstBeside_55 rfl ?_
      obtain ⟨b5, h⟩ := ite_o h
      refine V_iald (pc := 57) dX3_firstBeside_57 (L5_s1 (L4_o8 H1)) (inB_vp b5) ?_
      refine V_iload (pc := 58) 4 dX3_firstBeside_58 rfl ?_
      refine V_icmp_ne (pc := 60) (tgt := 114) dX3_firstBeside_60 (by decide) (fun c6 => ?_) (fun c6 => ?_)
      · have h := ite_n c6 h
        refine V_iinc (pc := 114) (lv1 := [(7, _), (0, _), (1, _), (3, _), (4, _), (6, _)]) (z := _ + (1 : Int32)) 5 dX3_firstBeside_114 rfl rfl (by decide) rfl ?_
        refine V_goto (pc := 117) (tgt := 36) dX3_firstBeside_117 (by decide) ?_
        exact V_sub [1, 2, 3, 4, 5, 0] rfl (ih (v7 + (1 : Int32)) h)
      · have h := ite_p c6 h
        refine V_aload_n (pc := 63) 1 dX3_firstBeside_63 rfl rfl ?_
        refine V_getR (pc := 64) (c := 4) (k := 8) dX3_firstBeside_64 (by decide) (by decide) kw242 rfl rfl (L4_0 H1) (L4_r8 H1) ?_
        refine V_iload (pc := 67) 5 dX3_firstBeside_67 rfl ?_
        refine V_aload_n (pc := 69) 0 dX3_firstBeside_69 rfl rfl ?_
        refine V_getR (pc := 70) (c := 3) (k := 2) dX3_firstBeside_70 (by decide) (by decide) kw325 rfl rfl (L3_0 H0) (L3_r2 H0) ?_
        refine V_iload (pc := 73) 5 dX3_firstBeside_73 rfl ?_
        obtain ⟨b7, h⟩ := ite_o h
        refine V_iald (pc := 75) dX3_firstBeside_75 (L3_s2 H0) (inB_vp b7) ?_
        refine V_iload_n (pc := 76) 2 dX3_firstBeside_76 rfl rfl ?_
        refine V_iload (pc := 77) 3 dX3_firstBeside_77 rfl ?_
        refine V_iconst (pc := 79) (x := 1) dX3_firstBeside_79 (by decide) ?_
        refine V_isub (pc := 80) dX3_firstBeside_80 ?_
        obtain ⟨x9, h8, h⟩ := bnd h
        refine V_cV4 (pc := 81) dX3_firstBeside_81 kw1008 calX5_hasPinAt kw672 kw673 (L5_0 (L4_o8 H1)) rfl (by decide) (Nat.le_of_ble_eq_true rfl) (ctX5_hasPinAt (L4_o8 H1) h8) ?_
        refine V_ifB_ne (pc := 84) (tgt := 111) dX3_firstBeside_84 (by decide) (fun c10 => ?_) (fun c10 => ?_)
        · have h := ite_p c10 h
          refine V_iload (pc := 111) 5 dX3_firstBeside_111 rfl ?_
          cases h
          exact V_ret (pc := 113) dX3_firstBeside_113 ⟨rfl, _, rfl⟩ ⟨rfl, rfl, rfl⟩
        · have h := ite_f c10 h
          refine V_aload_n (pc := 87) 1 dX3_firstBeside_87 rfl rfl ?_
          refine V_getR (pc := 88) (c := 4) (k := 8) dX3_firstBeside_88 (by decide) (by decide) kw242 rfl rfl (L4_0 H1) (L4_r8 H1) ?_
          refine V_iload (pc := 91) 5 dX3_firstBeside_91 rfl ?_
          refine V_aload_n (pc := 93) 0 dX3_firstBeside_93 rfl rfl ?_
          refine V_getR (pc := 94) (c := 3) (k := 2) dX3_firstBeside_94 (by decide) (by decide) kw325 rfl rfl (L3_0 H0) (L3_r2 H0) ?_
          refine V_iload (pc := 97) 5 dX3_firstBeside_97 rfl ?_
          obtain ⟨b11, h⟩ := ite_o h
          refine V_iald (pc := 99) dX3_firstBeside_99 (L3_s2 H0) (inB_vp b11) ?_
          refine V_iload_n (pc := 100) 2 dX3_firstBeside_100 rfl rfl ?_
          refine V_iload (pc := 101) 3 dX3_firstBeside_101 rfl ?_
          refine V_iconst (pc := 103) (x := 1) dX3_firstBeside_103 (by decide) ?_
          refine V_iadd (pc := 104) dX3_firstBeside_104 ?_
          obtain ⟨x13, h12, h⟩ := bnd h
          refine V_cV4 (pc := 105) dX3_firstBeside_105 kw1008 calX5_hasPinAt kw672 kw673 (L5_0 (L4_o8 H1)) rfl (by decide) (Nat.le_of_ble_eq_true rfl) (ctX5_hasPinAt (L4_o8 H1) h12) ?_
          refine V_ifB_eq (pc := 108) (tgt := 114) dX3_firstBeside_108 (by decide) (fun c14 => ?_) (fun c14 => ?_)
          · have h := ite_f c14 h
            refine V_iinc (pc := 114) (lv1 := [(7, _), (0, _), (1, _), (3, _), (4, _), (6, _)]) (z := _ + (1 : Int32)) 5 dX3_firstBeside_114 rfl rfl (by decide) rfl ?_
            refine V_goto (pc := 117) (tgt := 36) dX3_firstBeside_117 (by decide) ?_
            exact V_sub [1, 2, 3, 4, 5, 0] rfl (ih (v7 + (1 : Int32)) h)
          · have h := ite_p c14 h
            refine V_iload (pc := 111) 5 dX3_firstBeside_111 rfl ?_
            cases h
            exact V_ret (pc := 113) dX3_firstBeside_113 ⟨rfl, _, rfl⟩ ⟨rfl, rfl, rfl⟩
theorem calX3_firstBeside : Cal yX3_firstBeside cX3_firstBeside 8 (some .int) 4 := ⟨kw1012, kw9, by decide +kernel⟩
theorem ctX3_firstBeside {G : Gl} {σ : Sg} {d : Dt} {r0 : Nat} {r1 : Nat} {v2 : Int32} {v3 : Int32} {v4 : Int32} {rr : Int32} (H0 : L3 σ r0) (H1 : L4 σ r1) (h : mX3_firstBeside r0 r1 v2 v3 v4 d = some rr) : CTv G yX3_firstBeside cX3_firstBeside 8 (some .int) 2 [.ref (gB G + r0), .ref (gB G + r1), .int v2, .int v3, .int v4] σ d [.int rr] d := by
  refine CT_of pn_RX3 (Nat.le_of_ble_eq_true rfl) ?_
  rw [mX3_firstBeside] at h
  refine V_aload_n (pc := 0) 1 dX3_firstBeside_0 rfl rfl ?_
  refine V_getR (pc := 1) (c := 4) (k := 8) dX3_firstBeside_1 (by decide) (by decide) kw242 rfl rfl (L4_0 H1) (L4_r8 H1) ?_
  refine V_getR (pc := 4) (c := 5) (k := 1) dX3_firstBeside_4 (by decide) (by decide) kw145 rfl rfl (L5_0 (L4_o8 H1)) (L5_r1 (L4_o8 H1)) ?_
  refine V_iload_n (pc := 7) 2 dX3_firstBeside_7 rfl rfl ?_
  obtain ⟨b1, h⟩ := ite_o h
  refine V_iald (pc := 8) dX3_firstBeside_8 (L5_s1 (L4_o8 H1)) (inB_vp b1) ?_
  refine V_istore (pc := 9) (lv1 := [(5, _), (0, _), (1, _), (2, _), (3, _), (4, _)]) dX3_firstBeside_9 (by decide) rfl ?_
  refine V_iload (pc := 11) 0 dX3_firstBeside_11 rfl ?_
  refine V_if_ne (pc := 13) (tgt := 20) dX3_firstBeside_13 (by decide) (fun c2 => ?_) (fun c2 => ?_)
  · have h := ite_n c2 h
    refine V_iload (pc := 20) 0 dX3_firstBeside_20 rfl ?_
    refine V_iconst (pc := 22) (x := 1) dX3_firstBeside_22 (by decide) ?_
    refine V_icmp_ne (pc := 23) (tgt := 30) dX3_firstBeside_23 (by decide) (fun c3 => ?_) (fun c3 => ?_)
    · have h := ite_n c3 h
      refine V_iconst (pc := 30) (x := (-1)) dX3_firstBeside_30 (by decide) ?_
      refine V_istore (pc := 31) (lv1 := [(6, _), (5, _), (0, _), (1, _), (2, _), (3, _), (4, _)]) dX3_firstBeside_31 (by decide) rfl ?_
      refine V_iconst (pc := 33) (x := 0) dX3_firstBeside_33 (by decide) ?_
      refine V_istore (pc := 34) (lv1 := [(7, _), (6, _), (5, _), (0, _), (1, _), (2, _), (3, _), (4, _)]) dX3_firstBeside_34 (by decide) rfl ?_
      exact V_sub [3, 4, 6, 7, 1, 0] rfl (wX3_firstBeside_36 H0 H1 FUEL (0 : Int32) h)
    · have h := ite_p c3 h
      refine V_iconst (pc := 26) (x := 0) dX3_firstBeside_26 (by decide) ?_
      refine V_goto (pc := 27) (tgt := 31) dX3_firstBeside_27 (by decide) ?_
      refine V_istore (pc := 31) (lv1 := [(6, _), (5, _), (0, _), (1, _), (2, _), (3, _), (4, _)]) dX3_firstBeside_31 (by decide) rfl ?_
      refine V_iconst (pc := 33) (x := 0) dX3_firstBeside_33 (by decide) ?_
      refine V_istore (pc := 34) (lv1 := [(7, _), (6, _), (5, _), (0, _), (1, _), (2, _), (3, _), (4, _)]) dX3_firstBeside_34 (by decide) rfl ?_
      exact V_sub [3, 4, 6, 7, 1, 0] rfl (wX3_firstBeside_36 H0 H1 FUEL (0 : Int32) h)
  · have h := ite_p c2 h
    refine V_iconst (pc := 16) (x := 1) dX3_firstBeside_16 (by decide) ?_
    refine V_goto (pc := 17) (tgt := 31) dX3_firstBeside_17 (by decide) ?_
    refine V_istore (pc := 31) (lv1 := [(6, _), (5, _), (0, _), (1, _), (2, _), (3, _), (4, _)]) dX3_firstBeside_31 (by decide) rfl ?_
    refine V_iconst (pc := 33) (x := 0) dX3_firstBeside_33 (by decide) ?_
    refine V_istore (pc := 34) (lv1 := [(7, _), (6, _), (5, _), (0, _), (1, _), (2, _), (3, _), (4, _)]) dX3_firstBeside_34 (by decide) rfl ?_
    exact V_sub [3, 4, 6, 7, 1, 0] rfl (wX3_firstBeside_36 H0 H1 FUEL (0 : Int32) h)
