/-! constructors: their contracts -/
theorem calX0_init : Cal yX0_init cX0_init 1 none 0 := ⟨kw298, kw8, by decide +kernel⟩
theorem ctX0_init {G : Gl} {σ : Sg} {d : Dt} {o : Nat} (h1 : σ.1 = o + 1) (h0 : σ.2.1 o = some (0, 0)) : CT G yX0_init cX0_init 1 none 1 3 30 [.ref (gB G + o)] σ d (fun v σ' d' => v = [] ∧ d' = d ∧ Grow o 4 σ σ' ∧ L0 σ' o) := by
  refine CT_of pn_RX0 (Nat.le_of_ble_eq_true rfl) ?_
  have b := Bl_0 h1
  refine V_aload_n (pc := 0) 0 dX0_init_0 rfl rfl ?_
  refine V_objInit (pc := 1) dX0_init_1 kw299 kw31 kw32 ⟨by decide, Nat.le_of_ble_eq_true rfl⟩ ?_
  refine V_aload_n (pc := 4) 0 dX0_init_4 rfl rfl ?_
  refine V_bipush (pc := 5) (x := 10) dX0_init_5 (by decide) ?_
  refine V_newI (bc := 2) (bs := 20) (pc := 7) (x := 10) (n := 10) dX0_init_7 kw85 (by decide) (by decide) (by decide) ?_
  refine V_putR (pc := 9) (c := 0) (k := 1) dX0_init_9 (by decide) (by decide) kw302 rfl (Or.inr ⟨rfl, rfl⟩) rfl (b.scls h0 _) ?_
  have b := Bl_new b (k := 1) (q := (1, 10)) (by decide)
  generalize uR (snew σ (1, 10)) o 1 (some σ.1) = σ1 at b ⊢
  refine V_aload_n (pc := 12) 0 dX0_init_12 rfl rfl ?_
  refine V_bipush (pc := 13) (x := 10) dX0_init_13 (by decide) ?_
  refine V_newI (bc := 1) (bs := 10) (pc := 15) (x := 10) (n := 10) dX0_init_15 kw85 (by decide) (by decide) (by decide) ?_
  refine V_putR (pc := 17) (c := 0) (k := 2) dX0_init_17 (by decide) (by decide) kw304 rfl (Or.inr ⟨rfl, rfl⟩) rfl (b.scls h0 _) ?_
  have b := Bl_new b (k := 2) (q := (1, 10)) (by decide)
  generalize uR (snew σ1 (1, 10)) o 2 (some σ1.1) = σ2 at b ⊢
  refine V_aload_n (pc := 20) 0 dX0_init_20 rfl rfl ?_
  refine V_bipush (pc := 21) (x := 10) dX0_init_21 (by decide) ?_
  refine V_newI (bc := 0) (bs := 0) (pc := 23) (x := 10) (n := 10) dX0_init_23 kw85 (by decide) (by decide) (by decide) ?_
  refine V_putR (pc := 25) (c := 0) (k := 3) dX0_init_25 (by decide) (by decide) kw306 rfl (Or.inr ⟨rfl, rfl⟩) rfl (b.scls h0 _) ?_
  have b := Bl_new b (k := 3) (q := (1, 10)) (by decide)
  generalize uR (snew σ2 (1, 10)) o 3 (some σ2.1) = σ3 at b ⊢
  have e3 := b.2.2.2.2.1 (3, 3, 1, 10) (by decide)
  have e2 := b.2.2.2.2.1 (2, 2, 1, 10) (by decide)
  have e1 := b.2.2.2.2.1 (1, 1, 1, 10) (by decide)
  have kk := b.2.2.2.2.2 _ (fun _ _ _ => ⟨rfl, fun _ => rfl⟩)
  exact V_ret (pc := 28) dX0_init_28 ⟨rfl, rfl⟩ ⟨rfl, rfl, b.grow, b.cls h0, e1.2.2.1, e1.2.2.2, e2.2.2.1, e2.2.2.2, e3.2.2.1, e3.2.2.2⟩
theorem calX1_init : Cal yX1_init cX1_init 1 none 0 := ⟨kw198, kw6, by decide +kernel⟩
theorem ctX1_init {G : Gl} {σ : Sg} {d : Dt} {o : Nat} (h1 : σ.1 = o + 1) (h0 : σ.2.1 o = some (0, 1)) : CT G yX1_init cX1_init 1 none 1 2 10 [.ref (gB G + o)] σ d (fun v σ' d' => v = [] ∧ d' = d ∧ Grow o 3 σ σ' ∧ L1 σ' o) := by
  refine CT_of pn_RX1 (Nat.le_of_ble_eq_true rfl) ?_
  have b := Bl_0 h1
  refine V_aload_n (pc := 0) 0 dX1_init_0 rfl rfl ?_
  refine V_objInit (pc := 1) dX1_init_1 kw199 kw31 kw32 ⟨by decide, Nat.le_of_ble_eq_true rfl⟩ ?_
  refine V_aload_n (pc := 4) 0 dX1_init_4 rfl rfl ?_
  refine V_iconst (pc := 5) (x := 5) dX1_init_5 (by decide) ?_
  refine V_newI (bc := 1) (bs := 5) (pc := 6) (x := 5) (n := 5) dX1_init_6 kw85 (by decide) (by decide) (by decide) ?_
  refine V_putR (pc := 8) (c := 1) (k := 1) dX1_init_8 (by decide) (by decide) kw205 rfl (Or.inr ⟨rfl, rfl⟩) rfl (b.scls h0 _) ?_
  have b := Bl_new b (k := 1) (q := (1, 5)) (by decide)
  generalize uR (snew σ (1, 5)) o 1 (some σ.1) = σ1 at b ⊢
  refine V_aload_n (pc := 11) 0 dX1_init_11 rfl rfl ?_
  refine V_iconst (pc := 12) (x := 5) dX1_init_12 (by decide) ?_
  refine V_newI (bc := 0) (bs := 0) (pc := 13) (x := 5) (n := 5) dX1_init_13 kw85 (by decide) (by decide) (by decide) ?_
  refine V_putR (pc := 15) (c := 1) (k := 2) dX1_init_15 (by decide) (by decide) kw208 rfl (Or.inr ⟨rfl, rfl⟩) rfl (b.scls h0 _) ?_
  have b := Bl_new b (k := 2) (q := (1, 5)) (by decide)
  generalize uR (snew σ1 (1, 5)) o 2 (some σ1.1) = σ2 at b ⊢
  have e2 := b.2.2.2.2.1 (2, 2, 1, 5) (by decide)
  have e1 := b.2.2.2.2.1 (1, 1, 1, 5) (by decide)
  have kk := b.2.2.2.2.2 _ (fun _ _ _ => ⟨rfl, fun _ => rfl⟩)
  exact V_ret (pc := 18) dX1_init_18 ⟨rfl, rfl⟩ ⟨rfl, rfl, b.grow, b.cls h0, e1.2.2.1, e1.2.2.2, e2.2.2.1, e2.2.2.2⟩
theorem calX2_init : Cal yX2_init cX2_init 1 none 0 := ⟨kw337, kw10, by decide +kernel⟩
theorem ctX2_init {G : Gl} {σ : Sg} {d : Dt} {o : Nat} (h1 : σ.1 = o + 1) (h0 : σ.2.1 o = some (0, 2)) : CT G yX2_init cX2_init 1 none 1 3 42 [.ref (gB G + o)] σ d (fun v σ' d' => v = [] ∧ d' = d ∧ Grow o 4 σ σ' ∧ L2 σ' o) := by
  refine CT_of pn_RX2 (Nat.le_of_ble_eq_true rfl) ?_
  have b := Bl_0 h1
  refine V_aload_n (pc := 0) 0 dX2_init_0 rfl rfl ?_
  refine V_objInit (pc := 1) dX2_init_1 kw338 kw31 kw32 ⟨by decide, Nat.le_of_ble_eq_true rfl⟩ ?_
  refine V_aload_n (pc := 4) 0 dX2_init_4 rfl rfl ?_
  refine V_bipush (pc := 5) (x := 32) dX2_init_5 (by decide) ?_
  refine V_newI (bc := 2) (bs := 10) (pc := 7) (x := 32) (n := 32) dX2_init_7 kw85 (by decide) (by decide) (by decide) ?_
  refine V_putR (pc := 9) (c := 2) (k := 0) dX2_init_9 (by decide) (by decide) kw339 rfl (Or.inr ⟨rfl, rfl⟩) rfl (b.scls h0 _) ?_
  have b := Bl_new b (k := 0) (q := (1, 32)) (by decide)
  generalize uR (snew σ (1, 32)) o 0 (some σ.1) = σ1 at b ⊢
  refine V_aload_n (pc := 12) 0 dX2_init_12 rfl rfl ?_
  refine V_iconst (pc := 13) (x := 5) dX2_init_13 (by decide) ?_
  refine V_newI (bc := 1) (bs := 5) (pc := 14) (x := 5) (n := 5) dX2_init_14 kw85 (by decide) (by decide) (by decide) ?_
  refine V_putR (pc := 16) (c := 2) (k := 1) dX2_init_16 (by decide) (by decide) kw340 rfl (Or.inr ⟨rfl, rfl⟩) rfl (b.scls h0 _) ?_
  have b := Bl_new b (k := 1) (q := (1, 5)) (by decide)
  generalize uR (snew σ1 (1, 5)) o 1 (some σ1.1) = σ2 at b ⊢
  refine V_aload_n (pc := 19) 0 dX2_init_19 rfl rfl ?_
  refine V_iconst (pc := 20) (x := 5) dX2_init_20 (by decide) ?_
  refine V_newI (bc := 0) (bs := 0) (pc := 21) (x := 5) (n := 5) dX2_init_21 kw85 (by decide) (by decide) (by decide) ?_
  refine V_putR (pc := 23) (c := 2) (k := 2) dX2_init_23 (by decide) (by decide) kw341 rfl (Or.inr ⟨rfl, rfl⟩) rfl (b.scls h0 _) ?_
  have b := Bl_new b (k := 2) (q := (1, 5)) (by decide)
  generalize uR (snew σ2 (1, 5)) o 2 (some σ2.1) = σ3 at b ⊢
  have e2 := b.2.2.2.2.1 (2, 3, 1, 5) (by decide)
  have e1 := b.2.2.2.2.1 (1, 2, 1, 5) (by decide)
  have e0 := b.2.2.2.2.1 (0, 1, 1, 32) (by decide)
  have kk := b.2.2.2.2.2 _ (fun _ _ _ => ⟨rfl, fun _ => rfl⟩)
  exact V_ret (pc := 26) dX2_init_26 ⟨rfl, rfl⟩ ⟨rfl, rfl, b.grow, b.cls h0, e0.2.2.1, e0.2.2.2, e1.2.2.1, e1.2.2.2, e2.2.2.1, e2.2.2.2⟩
theorem calX3_init : Cal yX3_init cX3_init 1 none 0 := ⟨kw321, kw9, by decide +kernel⟩
theorem ctX3_init {G : Gl} {σ : Sg} {d : Dt} {o : Nat} (h1 : σ.1 = o + 1) (h0 : σ.2.1 o = some (0, 3)) : CT G yX3_init cX3_init 1 none 1 2 810 [.ref (gB G + o)] σ d (fun v σ' d' => v = [] ∧ d' = d ∧ Grow o 3 σ σ' ∧ L3 σ' o) := by
  refine CT_of pn_RX3 (Nat.le_of_ble_eq_true rfl) ?_
  have b := Bl_0 h1
  refine V_aload_n (pc := 0) 0 dX3_init_0 rfl rfl ?_
  refine V_objInit (pc := 1) dX3_init_1 kw322 kw31 kw32 ⟨by decide, Nat.le_of_ble_eq_true rfl⟩ ?_
  refine V_aload_n (pc := 4) 0 dX3_init_4 rfl rfl ?_
  refine V_sipush (pc := 5) (x := 800) dX3_init_5 (by decide) ?_
  refine V_newI (bc := 1) (bs := 10) (pc := 8) (x := 800) (n := 800) dX3_init_8 kw85 (by decide) (by decide) (by decide) ?_
  refine V_putR (pc := 10) (c := 3) (k := 1) dX3_init_10 (by decide) (by decide) kw324 rfl (Or.inr ⟨rfl, rfl⟩) rfl (b.scls h0 _) ?_
  have b := Bl_new b (k := 1) (q := (1, 800)) (by decide)
  generalize uR (snew σ (1, 800)) o 1 (some σ.1) = σ1 at b ⊢
  refine V_aload_n (pc := 13) 0 dX3_init_13 rfl rfl ?_
  refine V_bipush (pc := 14) (x := 10) dX3_init_14 (by decide) ?_
  refine V_newI (bc := 0) (bs := 0) (pc := 16) (x := 10) (n := 10) dX3_init_16 kw85 (by decide) (by decide) (by decide) ?_
  refine V_putR (pc := 18) (c := 3) (k := 2) dX3_init_18 (by decide) (by decide) kw325 rfl (Or.inr ⟨rfl, rfl⟩) rfl (b.scls h0 _) ?_
  have b := Bl_new b (k := 2) (q := (1, 10)) (by decide)
  generalize uR (snew σ1 (1, 10)) o 2 (some σ1.1) = σ2 at b ⊢
  have e2 := b.2.2.2.2.1 (2, 2, 1, 10) (by decide)
  have e1 := b.2.2.2.2.1 (1, 1, 1, 800) (by decide)
  have kk := b.2.2.2.2.2 _ (fun _ _ _ => ⟨rfl, fun _ => rfl⟩)
  exact V_ret (pc := 21) dX3_init_21 ⟨rfl, rfl⟩ ⟨rfl, rfl, b.grow, b.cls h0, e1.2.2.1, e1.2.2.2, e2.2.2.1, e2.2.2.2⟩
theorem calX5_init : Cal yX5_init cX5_init 1 none 0 := ⟨kw134, kw5, by decide +kernel⟩
theorem ctX5_init {G : Gl} {σ : Sg} {d : Dt} {o : Nat} (ao : AO G) (h1 : σ.1 = o + 1) (h0 : σ.2.1 o = some (0, 5)) : CT G yX5_init cX5_init 1 none 1 39 240 [.ref (gB G + o)] σ d (fun v σ' d' => v = [] ∧ d' = d ∧ Grow o 40 σ σ' ∧ L5 σ' o) := by
  refine CT_of pn_RX5 (Nat.le_of_ble_eq_true rfl) ?_
  have b := Bl_0 h1
  refine V_aload_n (pc := 0) 0 dX5_init_0 rfl rfl ?_
  refine V_objInit (pc := 1) dX5_init_1 kw135 kw31 kw32 ⟨by decide, Nat.le_of_ble_eq_true rfl⟩ ?_
  refine V_aload_n (pc := 4) 0 dX5_init_4 rfl rfl ?_
  refine V_bipush (pc := 5) (x := 10) dX5_init_5 (by decide) ?_
  refine V_newI (bc := 38) (bs := 230) (pc := 7) (x := 10) (n := 10) dX5_init_7 kw85 (by decide) (by decide) (by decide) ?_
  refine V_putR (pc := 9) (c := 5) (k := 1) dX5_init_9 (by decide) (by decide) kw144 rfl (Or.inr ⟨rfl, rfl⟩) rfl (b.scls h0 _) ?_
  have b := Bl_new b (k := 1) (q := (1, 10)) (by decide)
  generalize uR (snew σ (1, 10)) o 1 (some σ.1) = σ1 at b ⊢
  refine V_aload_n (pc := 12) 0 dX5_init_12 rfl rfl ?_
  refine V_bipush (pc := 13) (x := 10) dX5_init_13 (by decide) ?_
  refine V_newI (bc := 37) (bs := 220) (pc := 15) (x := 10) (n := 10) dX5_init_15 kw85 (by decide) (by decide) (by decide) ?_
  refine V_putR (pc := 17) (c := 5) (k := 2) dX5_init_17 (by decide) (by decide) kw147 rfl (Or.inr ⟨rfl, rfl⟩) rfl (b.scls h0 _) ?_
  have b := Bl_new b (k := 2) (q := (1, 10)) (by decide)
  generalize uR (snew σ1 (1, 10)) o 2 (some σ1.1) = σ2 at b ⊢
  refine V_aload_n (pc := 20) 0 dX5_init_20 rfl rfl ?_
  refine V_bipush (pc := 21) (x := 10) dX5_init_21 (by decide) ?_
  refine V_newI (bc := 36) (bs := 210) (pc := 23) (x := 10) (n := 10) dX5_init_23 kw85 (by decide) (by decide) (by decide) ?_
  refine V_putR (pc := 25) (c := 5) (k := 3) dX5_init_25 (by decide) (by decide) kw151 rfl (Or.inr ⟨rfl, rfl⟩) rfl (b.scls h0 _) ?_
  have b := Bl_new b (k := 3) (q := (1, 10)) (by decide)
  generalize uR (snew σ2 (1, 10)) o 3 (some σ2.1) = σ3 at b ⊢
  refine V_aload_n (pc := 28) 0 dX5_init_28 rfl rfl ?_
  refine V_bipush (pc := 29) (x := 10) dX5_init_29 (by decide) ?_
  refine V_newI (bc := 35) (bs := 200) (pc := 31) (x := 10) (n := 10) dX5_init_31 kw85 (by decide) (by decide) (by decide) ?_
  refine V_putR (pc := 33) (c := 5) (k := 4) dX5_init_33 (by decide) (by decide) kw155 rfl (Or.inr ⟨rfl, rfl⟩) rfl (b.scls h0 _) ?_
  have b := Bl_new b (k := 4) (q := (1, 10)) (by decide)
  generalize uR (snew σ3 (1, 10)) o 4 (some σ3.1) = σ4 at b ⊢
  refine V_aload_n (pc := 36) 0 dX5_init_36 rfl rfl ?_
  refine V_bipush (pc := 37) (x := 10) dX5_init_37 (by decide) ?_
  refine V_newI (bc := 34) (bs := 190) (pc := 39) (x := 10) (n := 10) dX5_init_39 kw85 (by decide) (by decide) (by decide) ?_
  refine V_putR (pc := 41) (c := 5) (k := 5) dX5_init_41 (by decide) (by decide) kw158 rfl (Or.inr ⟨rfl, rfl⟩) rfl (b.scls h0 _) ?_
  have b := Bl_new b (k := 5) (q := (1, 10)) (by decide)
  generalize uR (snew σ4 (1, 10)) o 5 (some σ4.1) = σ5 at b ⊢
  refine V_aload_n (pc := 44) 0 dX5_init_44 rfl rfl ?_
  refine V_bipush (pc := 45) (x := 10) dX5_init_45 (by decide) ?_
  refine V_newI (bc := 33) (bs := 180) (pc := 47) (x := 10) (n := 10) dX5_init_47 kw85 (by decide) (by decide) (by decide) ?_
  refine V_putR (pc := 49) (c := 5) (k := 6) dX5_init_49 (by decide) (by decide) kw161 rfl (Or.inr ⟨rfl, rfl⟩) rfl (b.scls h0 _) ?_
  have b := Bl_new b (k := 6) (q := (1, 10)) (by decide)
  generalize uR (snew σ5 (1, 10)) o 6 (some σ5.1) = σ6 at b ⊢
  refine V_aload_n (pc := 52) 0 dX5_init_52 rfl rfl ?_
  refine V_bipush (pc := 53) (x := 10) dX5_init_53 (by decide) ?_
  refine V_iconst (pc := 55) (x := 5) dX5_init_55 (by decide) ?_
  refine V_multiI (bc := 22) (bs := 120) (pc := 56) (x := 10) (z := 5) (n := 10) (m := 5) dX5_init_56 kw136 ao kw85 (by decide) (by decide) (by decide) (by decide) (by decide) (by decide) ?_
  refine V_putR (pc := 60) (c := 5) (k := 7) dX5_init_60 (by decide) (by decide) kw164 rfl (Or.inr ⟨rfl, rfl⟩) rfl (b.mcls h0 _ _) ?_
  have b := Bl_mul b (k := 7) (N := 10) (M := 5) (by decide)
  generalize uR (smul σ6 10 5) o 7 (some σ6.1) = σ7 at b ⊢
  refine V_aload_n (pc := 63) 0 dX5_init_63 rfl rfl ?_
  refine V_bipush (pc := 64) (x := 10) dX5_init_64 (by decide) ?_
  refine V_iconst (pc := 66) (x := 5) dX5_init_66 (by decide) ?_
  refine V_multiI (bc := 11) (bs := 60) (pc := 67) (x := 10) (z := 5) (n := 10) (m := 5) dX5_init_67 kw136 ao kw85 (by decide) (by decide) (by decide) (by decide) (by decide) (by decide) ?_
  refine V_putR (pc := 71) (c := 5) (k := 8) dX5_init_71 (by decide) (by decide) kw168 rfl (Or.inr ⟨rfl, rfl⟩) rfl (b.mcls h0 _ _) ?_
  have b := Bl_mul b (k := 8) (N := 10) (M := 5) (by decide)
  generalize uR (smul σ7 10 5) o 8 (some σ7.1) = σ8 at b ⊢
  refine V_aload_n (pc := 74) 0 dX5_init_74 rfl rfl ?_
  refine V_bipush (pc := 75) (x := 10) dX5_init_75 (by decide) ?_
  refine V_iconst (pc := 77) (x := 5) dX5_init_77 (by decide) ?_
  refine V_multiI (bc := 0) (bs := 0) (pc := 78) (x := 10) (z := 5) (n := 10) (m := 5) dX5_init_78 kw136 ao kw85 (by decide) (by decide) (by decide) (by decide) (by decide) (by decide) ?_
  refine V_putR (pc := 82) (c := 5) (k := 9) dX5_init_82 (by decide) (by decide) kw171 rfl (Or.inr ⟨rfl, rfl⟩) rfl (b.mcls h0 _ _) ?_
  have b := Bl_mul b (k := 9) (N := 10) (M := 5) (by decide)
  generalize uR (smul σ8 10 5) o 9 (some σ8.1) = σ9 at b ⊢
  have e9 := b.2.2.2.2.1 (9, 29, 4, 10) (by decide)
  have e8 := b.2.2.2.2.1 (8, 18, 4, 10) (by decide)
  have e7 := b.2.2.2.2.1 (7, 7, 4, 10) (by decide)
  have e6 := b.2.2.2.2.1 (6, 6, 1, 10) (by decide)
  have e5 := b.2.2.2.2.1 (5, 5, 1, 10) (by decide)
  have e4 := b.2.2.2.2.1 (4, 4, 1, 10) (by decide)
  have e3 := b.2.2.2.2.1 (3, 3, 1, 10) (by decide)
  have e2 := b.2.2.2.2.1 (2, 2, 1, 10) (by decide)
  have e1 := b.2.2.2.2.1 (1, 1, 1, 10) (by decide)
  have kk := b.2.2.2.2.2 _ (fun _ _ _ => ⟨rfl, fun _ => rfl⟩)
  exact V_ret (pc := 85) dX5_init_85 ⟨rfl, rfl⟩ ⟨rfl, rfl, b.grow, b.cls h0, e1.2.2.1, e1.2.2.2, e2.2.2.1, e2.2.2.2, e3.2.2.1, e3.2.2.2, e4.2.2.1, e4.2.2.2, e5.2.2.1, e5.2.2.2, e6.2.2.1, e6.2.2.2, e7.2.2.1, e7.2.2.2, kk.1.1.2, e8.2.2.1, e8.2.2.2, kk.1.2, e9.2.2.1, e9.2.2.2, kk.2⟩
theorem calX6_init : Cal yX6_init cX6_init 1 none 0 := ⟨kw90, kw4, by decide +kernel⟩
theorem ctX6_init {G : Gl} {σ : Sg} {d : Dt} {o : Nat} (h1 : σ.1 = o + 1) (h0 : σ.2.1 o = some (0, 6)) : CT G yX6_init cX6_init 1 none 1 6 48 [.ref (gB G + o)] σ d (fun v σ' d' => v = [] ∧ d' = d ∧ Grow o 7 σ σ' ∧ L6 σ' o) := by
  refine CT_of pn_RX6 (Nat.le_of_ble_eq_true rfl) ?_
  have b := Bl_0 h1
  refine V_aload_n (pc := 0) 0 dX6_init_0 rfl rfl ?_
  refine V_objInit (pc := 1) dX6_init_1 kw91 kw31 kw32 ⟨by decide, Nat.le_of_ble_eq_true rfl⟩ ?_
  refine V_aload_n (pc := 4) 0 dX6_init_4 rfl rfl ?_
  refine V_bipush (pc := 5) (x := 8) dX6_init_5 (by decide) ?_
  refine V_newI (bc := 5) (bs := 40) (pc := 7) (x := 8) (n := 8) dX6_init_7 kw85 (by decide) (by decide) (by decide) ?_
  refine V_putR (pc := 9) (c := 6) (k := 1) dX6_init_9 (by decide) (by decide) kw97 rfl (Or.inr ⟨rfl, rfl⟩) rfl (b.scls h0 _) ?_
  have b := Bl_new b (k := 1) (q := (1, 8)) (by decide)
  generalize uR (snew σ (1, 8)) o 1 (some σ.1) = σ1 at b ⊢
  refine V_aload_n (pc := 12) 0 dX6_init_12 rfl rfl ?_
  refine V_bipush (pc := 13) (x := 8) dX6_init_13 (by decide) ?_
  refine V_newI (bc := 4) (bs := 32) (pc := 15) (x := 8) (n := 8) dX6_init_15 kw85 (by decide) (by decide) (by decide) ?_
  refine V_putR (pc := 17) (c := 6) (k := 2) dX6_init_17 (by decide) (by decide) kw100 rfl (Or.inr ⟨rfl, rfl⟩) rfl (b.scls h0 _) ?_
  have b := Bl_new b (k := 2) (q := (1, 8)) (by decide)
  generalize uR (snew σ1 (1, 8)) o 2 (some σ1.1) = σ2 at b ⊢
  refine V_aload_n (pc := 20) 0 dX6_init_20 rfl rfl ?_
  refine V_bipush (pc := 21) (x := 8) dX6_init_21 (by decide) ?_
  refine V_newI (bc := 3) (bs := 24) (pc := 23) (x := 8) (n := 8) dX6_init_23 kw85 (by decide) (by decide) (by decide) ?_
  refine V_putR (pc := 25) (c := 6) (k := 3) dX6_init_25 (by decide) (by decide) kw103 rfl (Or.inr ⟨rfl, rfl⟩) rfl (b.scls h0 _) ?_
  have b := Bl_new b (k := 3) (q := (1, 8)) (by decide)
  generalize uR (snew σ2 (1, 8)) o 3 (some σ2.1) = σ3 at b ⊢
  refine V_aload_n (pc := 28) 0 dX6_init_28 rfl rfl ?_
  refine V_bipush (pc := 29) (x := 8) dX6_init_29 (by decide) ?_
  refine V_newI (bc := 2) (bs := 16) (pc := 31) (x := 8) (n := 8) dX6_init_31 kw85 (by decide) (by decide) (by decide) ?_
  refine V_putR (pc := 33) (c := 6) (k := 4) dX6_init_33 (by decide) (by decide) kw106 rfl (Or.inr ⟨rfl, rfl⟩) rfl (b.scls h0 _) ?_
  have b := Bl_new b (k := 4) (q := (1, 8)) (by decide)
  generalize uR (snew σ3 (1, 8)) o 4 (some σ3.1) = σ4 at b ⊢
  refine V_aload_n (pc := 36) 0 dX6_init_36 rfl rfl ?_
  refine V_bipush (pc := 37) (x := 8) dX6_init_37 (by decide) ?_
  refine V_newI (bc := 1) (bs := 8) (pc := 39) (x := 8) (n := 8) dX6_init_39 kw85 (by decide) (by decide) (by decide) ?_
  refine V_putR (pc := 41) (c := 6) (k := 5) dX6_init_41 (by decide) (by decide) kw109 rfl (Or.inr ⟨rfl, rfl⟩) rfl (b.scls h0 _) ?_
  have b := Bl_new b (k := 5) (q := (1, 8)) (by decide)
  generalize uR (snew σ4 (1, 8)) o 5 (some σ4.1) = σ5 at b ⊢
  refine V_aload_n (pc := 44) 0 dX6_init_44 rfl rfl ?_
  refine V_bipush (pc := 45) (x := 8) dX6_init_45 (by decide) ?_
  refine V_newI (bc := 0) (bs := 0) (pc := 47) (x := 8) (n := 8) dX6_init_47 kw85 (by decide) (by decide) (by decide) ?_
  refine V_putR (pc := 49) (c := 6) (k := 6) dX6_init_49 (by decide) (by decide) kw112 rfl (Or.inr ⟨rfl, rfl⟩) rfl (b.scls h0 _) ?_
  have b := Bl_new b (k := 6) (q := (1, 8)) (by decide)
  generalize uR (snew σ5 (1, 8)) o 6 (some σ5.1) = σ6 at b ⊢
  have e6 := b.2.2.2.2.1 (6, 6, 1, 8) (by decide)
  have e5 := b.2.2.2.2.1 (5, 5, 1, 8) (by decide)
  have e4 := b.2.2.2.2.1 (4, 4, 1, 8) (by decide)
  have e3 := b.2.2.2.2.1 (3, 3, 1, 8) (by decide)
  have e2 := b.2.2.2.2.1 (2, 2, 1, 8) (by decide)
  have e1 := b.2.2.2.2.1 (1, 1, 1, 8) (by decide)
  have kk := b.2.2.2.2.2 _ (fun _ _ _ => ⟨rfl, fun _ => rfl⟩)
  exact V_ret (pc := 52) dX6_init_52 ⟨rfl, rfl⟩ ⟨rfl, rfl, b.grow, b.cls h0, e1.2.2.1, e1.2.2.2, e2.2.2.1, e2.2.2.2, e3.2.2.1, e3.2.2.2, e4.2.2.1, e4.2.2.2, e5.2.2.1, e5.2.2.2, e6.2.2.1, e6.2.2.2⟩
theorem calX8_init : Cal yX8_init cX8_init 1 none 0 := ⟨kw276, kw7, by decide +kernel⟩
theorem ctX8_init {G : Gl} {σ : Sg} {d : Dt} {o : Nat} (h1 : σ.1 = o + 1) (h0 : σ.2.1 o = some (0, 8)) : CT G yX8_init cX8_init 1 none 1 3 3000 [.ref (gB G + o)] σ d (fun v σ' d' => v = [] ∧ d' = d ∧ Grow o 4 σ σ' ∧ L8 σ' o) := by
  refine CT_of pn_RX8 (Nat.le_of_ble_eq_true rfl) ?_
  have b := Bl_0 h1
  refine V_aload_n (pc := 0) 0 dX8_init_0 rfl rfl ?_
  refine V_objInit (pc := 1) dX8_init_1 kw277 kw31 kw32 ⟨by decide, Nat.le_of_ble_eq_true rfl⟩ ?_
  refine V_aload_n (pc := 4) 0 dX8_init_4 rfl rfl ?_
  refine V_sipush (pc := 5) (x := 1000) dX8_init_5 (by decide) ?_
  refine V_newI (bc := 2) (bs := 2000) (pc := 8) (x := 1000) (n := 1000) dX8_init_8 kw85 (by decide) (by decide) (by decide) ?_
  refine V_putR (pc := 10) (c := 8) (k := 2) dX8_init_10 (by decide) (by decide) kw280 rfl (Or.inr ⟨rfl, rfl⟩) rfl (b.scls h0 _) ?_
  have b := Bl_new b (k := 2) (q := (1, 1000)) (by decide)
  generalize uR (snew σ (1, 1000)) o 2 (some σ.1) = σ1 at b ⊢
  refine V_aload_n (pc := 13) 0 dX8_init_13 rfl rfl ?_
  refine V_sipush (pc := 14) (x := 1000) dX8_init_14 (by decide) ?_
  refine V_newI (bc := 1) (bs := 1000) (pc := 17) (x := 1000) (n := 1000) dX8_init_17 kw85 (by decide) (by decide) (by decide) ?_
  refine V_putR (pc := 19) (c := 8) (k := 3) dX8_init_19 (by decide) (by decide) kw281 rfl (Or.inr ⟨rfl, rfl⟩) rfl (b.scls h0 _) ?_
  have b := Bl_new b (k := 3) (q := (1, 1000)) (by decide)
  generalize uR (snew σ1 (1, 1000)) o 3 (some σ1.1) = σ2 at b ⊢
  refine V_aload_n (pc := 22) 0 dX8_init_22 rfl rfl ?_
  refine V_sipush (pc := 23) (x := 1000) dX8_init_23 (by decide) ?_
  refine V_newJ (bc := 0) (bs := 0) (pc := 26) (x := 1000) (n := 1000) dX8_init_26 kw84 (by decide) (by decide) (by decide) ?_
  refine V_putR (pc := 28) (c := 8) (k := 4) dX8_init_28 (by decide) (by decide) kw282 rfl (Or.inr ⟨rfl, rfl⟩) rfl (b.scls h0 _) ?_
  have b := Bl_new b (k := 4) (q := (2, 1000)) (by decide)
  generalize uR (snew σ2 (2, 1000)) o 4 (some σ2.1) = σ3 at b ⊢
  have e4 := b.2.2.2.2.1 (4, 3, 2, 1000) (by decide)
  have e3 := b.2.2.2.2.1 (3, 2, 1, 1000) (by decide)
  have e2 := b.2.2.2.2.1 (2, 1, 1, 1000) (by decide)
  have kk := b.2.2.2.2.2 _ (fun _ _ _ => ⟨rfl, fun _ => rfl⟩)
  exact V_ret (pc := 31) dX8_init_31 ⟨rfl, rfl⟩ ⟨rfl, rfl, b.grow, b.cls h0, e2.2.2.1, e2.2.2.2, e3.2.2.1, e3.2.2.2, e4.2.2.1, e4.2.2.2⟩
theorem calX9_init : Cal yX9_init cX9_init 1 none 0 := ⟨kw43, kw3, by decide +kernel⟩
theorem ctX9_init {G : Gl} {σ : Sg} {d : Dt} {o : Nat} (ao : AO G) (h1 : σ.1 = o + 1) (h0 : σ.2.1 o = some (0, 9)) : CT G yX9_init cX9_init 1 none 1 21 294 [.ref (gB G + o)] σ d (fun v σ' d' => v = [] ∧ d' = d ∧ Grow o 22 σ σ' ∧ L9 σ' o) := by
  refine CT_of pn_RX9 (Nat.le_of_ble_eq_true rfl) ?_
  have b := Bl_0 h1
  refine V_aload_n (pc := 0) 0 dX9_init_0 rfl rfl ?_
  refine V_objInit (pc := 1) dX9_init_1 kw44 kw31 kw32 ⟨by decide, Nat.le_of_ble_eq_true rfl⟩ ?_
  refine V_aload_n (pc := 4) 0 dX9_init_4 rfl rfl ?_
  refine V_bipush (pc := 5) (x := 14) dX9_init_5 (by decide) ?_
  refine V_newI (bc := 20) (bs := 280) (pc := 7) (x := 14) (n := 14) dX9_init_7 kw85 (by decide) (by decide) (by decide) ?_
  refine V_putR (pc := 9) (c := 9) (k := 1) dX9_init_9 (by decide) (by decide) kw52 rfl (Or.inr ⟨rfl, rfl⟩) rfl (b.scls h0 _) ?_
  have b := Bl_new b (k := 1) (q := (1, 14)) (by decide)
  generalize uR (snew σ (1, 14)) o 1 (some σ.1) = σ1 at b ⊢
  refine V_aload_n (pc := 12) 0 dX9_init_12 rfl rfl ?_
  refine V_bipush (pc := 13) (x := 14) dX9_init_13 (by decide) ?_
  refine V_newI (bc := 19) (bs := 266) (pc := 15) (x := 14) (n := 14) dX9_init_15 kw85 (by decide) (by decide) (by decide) ?_
  refine V_putR (pc := 17) (c := 9) (k := 2) dX9_init_17 (by decide) (by decide) kw54 rfl (Or.inr ⟨rfl, rfl⟩) rfl (b.scls h0 _) ?_
  have b := Bl_new b (k := 2) (q := (1, 14)) (by decide)
  generalize uR (snew σ1 (1, 14)) o 2 (some σ1.1) = σ2 at b ⊢
  refine V_aload_n (pc := 20) 0 dX9_init_20 rfl rfl ?_
  refine V_bipush (pc := 21) (x := 14) dX9_init_21 (by decide) ?_
  refine V_newI (bc := 18) (bs := 252) (pc := 23) (x := 14) (n := 14) dX9_init_23 kw85 (by decide) (by decide) (by decide) ?_
  refine V_putR (pc := 25) (c := 9) (k := 3) dX9_init_25 (by decide) (by decide) kw56 rfl (Or.inr ⟨rfl, rfl⟩) rfl (b.scls h0 _) ?_
  have b := Bl_new b (k := 3) (q := (1, 14)) (by decide)
  generalize uR (snew σ2 (1, 14)) o 3 (some σ2.1) = σ3 at b ⊢
  refine V_aload_n (pc := 28) 0 dX9_init_28 rfl rfl ?_
  refine V_bipush (pc := 29) (x := 14) dX9_init_29 (by decide) ?_
  refine V_newI (bc := 17) (bs := 238) (pc := 31) (x := 14) (n := 14) dX9_init_31 kw85 (by decide) (by decide) (by decide) ?_
  refine V_putR (pc := 33) (c := 9) (k := 4) dX9_init_33 (by decide) (by decide) kw58 rfl (Or.inr ⟨rfl, rfl⟩) rfl (b.scls h0 _) ?_
  have b := Bl_new b (k := 4) (q := (1, 14)) (by decide)
  generalize uR (snew σ3 (1, 14)) o 4 (some σ3.1) = σ4 at b ⊢
  refine V_aload_n (pc := 36) 0 dX9_init_36 rfl rfl ?_
  refine V_bipush (pc := 37) (x := 14) dX9_init_37 (by decide) ?_
  refine V_newI (bc := 16) (bs := 224) (pc := 39) (x := 14) (n := 14) dX9_init_39 kw85 (by decide) (by decide) (by decide) ?_
  refine V_putR (pc := 41) (c := 9) (k := 5) dX9_init_41 (by decide) (by decide) kw60 rfl (Or.inr ⟨rfl, rfl⟩) rfl (b.scls h0 _) ?_
  have b := Bl_new b (k := 5) (q := (1, 14)) (by decide)
  generalize uR (snew σ4 (1, 14)) o 5 (some σ4.1) = σ5 at b ⊢
  refine V_aload_n (pc := 44) 0 dX9_init_44 rfl rfl ?_
  refine V_bipush (pc := 45) (x := 14) dX9_init_45 (by decide) ?_
  refine V_newI (bc := 15) (bs := 210) (pc := 47) (x := 14) (n := 14) dX9_init_47 kw85 (by decide) (by decide) (by decide) ?_
  refine V_putR (pc := 49) (c := 9) (k := 6) dX9_init_49 (by decide) (by decide) kw62 rfl (Or.inr ⟨rfl, rfl⟩) rfl (b.scls h0 _) ?_
  have b := Bl_new b (k := 6) (q := (1, 14)) (by decide)
  generalize uR (snew σ5 (1, 14)) o 6 (some σ5.1) = σ6 at b ⊢
  refine V_aload_n (pc := 52) 0 dX9_init_52 rfl rfl ?_
  refine V_bipush (pc := 53) (x := 14) dX9_init_53 (by decide) ?_
  refine V_bipush (pc := 55) (x := 14) dX9_init_55 (by decide) ?_
  refine V_multiI (bc := 0) (bs := 0) (pc := 57) (x := 14) (z := 14) (n := 14) (m := 14) dX9_init_57 kw45 ao kw85 (by decide) (by decide) (by decide) (by decide) (by decide) (by decide) ?_
  refine V_putR (pc := 61) (c := 9) (k := 7) dX9_init_61 (by decide) (by decide) kw63 rfl (Or.inr ⟨rfl, rfl⟩) rfl (b.mcls h0 _ _) ?_
  have b := Bl_mul b (k := 7) (N := 14) (M := 14) (by decide)
  generalize uR (smul σ6 14 14) o 7 (some σ6.1) = σ7 at b ⊢
  have e7 := b.2.2.2.2.1 (7, 7, 4, 14) (by decide)
  have e6 := b.2.2.2.2.1 (6, 6, 1, 14) (by decide)
  have e5 := b.2.2.2.2.1 (5, 5, 1, 14) (by decide)
  have e4 := b.2.2.2.2.1 (4, 4, 1, 14) (by decide)
  have e3 := b.2.2.2.2.1 (3, 3, 1, 14) (by decide)
  have e2 := b.2.2.2.2.1 (2, 2, 1, 14) (by decide)
  have e1 := b.2.2.2.2.1 (1, 1, 1, 14) (by decide)
  have kk := b.2.2.2.2.2 _ (fun _ _ _ => ⟨rfl, fun _ => rfl⟩)
  exact V_ret (pc := 64) dX9_init_64 ⟨rfl, rfl⟩ ⟨rfl, rfl, b.grow, b.cls h0, e1.2.2.1, e1.2.2.2, e2.2.2.1, e2.2.2.2, e3.2.2.1, e3.2.2.2, e4.2.2.1, e4.2.2.2, e5.2.2.1, e5.2.2.2, e6.2.2.1, e6.2.2.2, e7.2.2.1, e7.2.2.2, kk.2⟩
theorem calX4_init : Cal yX4_init cX4_init 1 none 0 := ⟨kw37, kw2, by decide +kernel⟩
theorem ctX4_init {G : Gl} {σ : Sg} {d : Dt} {o : Nat} (ao : AO G) (h1 : σ.1 = o + 1) (h0 : σ.2.1 o = some (0, 4)) : CT G yX4_init cX4_init 1 none 2 74 692 [.ref (gB G + o)] σ d (fun v σ' d' => v = [] ∧ d' = d ∧ Grow o 75 σ σ' ∧ L4 σ' o) := by
  refine CT_of pn_RX4 (Nat.le_of_ble_eq_true rfl) ?_
  have b := Bl_0 h1
  refine V_aload_n (pc := 0) 0 dX4_init_0 rfl rfl ?_
  refine V_objInit (pc := 1) dX4_init_1 kw38 kw31 kw32 ⟨by decide, Nat.le_of_ble_eq_true rfl⟩ ?_
  refine V_aload_n (pc := 4) 0 dX4_init_4 rfl rfl ?_
  refine V_bipush (pc := 5) (x := 36) dX4_init_5 (by decide) ?_
  refine V_newJ (bc := 73) (bs := 656) (pc := 7) (x := 36) (n := 36) dX4_init_7 kw84 (by decide) (by decide) (by decide) ?_
  refine V_putR (pc := 9) (c := 4) (k := 4) dX4_init_9 (by decide) (by decide) kw230 rfl (Or.inr ⟨rfl, rfl⟩) rfl (b.scls h0 _) ?_
  have b := Bl_new b (k := 4) (q := (2, 36)) (by decide)
  generalize uR (snew σ (2, 36)) o 4 (some σ.1) = σ1 at b ⊢
  refine V_aload_n (pc := 12) 0 dX4_init_12 rfl rfl ?_
  refine V_bipush (pc := 13) (x := 36) dX4_init_13 (by decide) ?_
  refine V_newI (bc := 72) (bs := 620) (pc := 15) (x := 36) (n := 36) dX4_init_15 kw85 (by decide) (by decide) (by decide) ?_
  refine V_putR (pc := 17) (c := 4) (k := 5) dX4_init_17 (by decide) (by decide) kw231 rfl (Or.inr ⟨rfl, rfl⟩) rfl (b.scls h0 _) ?_
  have b := Bl_new b (k := 5) (q := (1, 36)) (by decide)
  generalize uR (snew σ1 (1, 36)) o 5 (some σ1.1) = σ2 at b ⊢
  refine V_aload_n (pc := 20) 0 dX4_init_20 rfl rfl ?_
  refine V_new (bc := 71) (bs := 612) (pc := 21) (c := 9) dX4_init_21 (by decide) kw39 kw40 kw3 (by decide) ?_
  refine V_dup (pc := 24) dX4_init_24 rfl ?_
  refine V_callIN (host := "SplicedLoom") (bc2 := 21) (bs2 := 294) (bc1 := 50) (bs1 := 318) (pc := 25) (As := []) (o := σ2.1) dX4_init_25 (by decide) calX9_init kw42 rfl (by decide) (Nat.le_of_ble_eq_true rfl) rfl (ctX9_init ao (o := σ2.1) rfl (snew_at _ _)) ?_
  rintro v3 τ3 d3 ⟨rfl, rfl, g3, hL3⟩
  dsimp only [List.nil_append]
  refine V_putR (pc := 28) (c := 4) (k := 6) dX4_init_28 (by decide) (by decide) kw232 rfl (Or.inr ⟨rfl, rfl⟩) rfl (b.gcls h0 g3) ?_
  have b := Bl_sub (P := L9) b g3 hL3 (fun s s1 h f => L9_kp h f) (k := 6) (by decide) (by decide)
  generalize uR τ3 o 6 (some σ2.1) = σ4 at b ⊢
  refine V_aload_n (pc := 31) 0 dX4_init_31 rfl rfl ?_
  refine V_new (bc := 49) (bs := 311) (pc := 32) (c := 6) dX4_init_32 (by decide) kw86 kw87 kw4 (by decide) ?_
  refine V_dup (pc := 35) dX4_init_35 rfl ?_
  refine V_callIN (host := "SplicedLoom") (bc2 := 6) (bs2 := 48) (bc1 := 43) (bs1 := 263) (pc := 36) (As := []) (o := σ4.1) dX4_init_36 (by decide) calX6_init kw89 rfl (by decide) (Nat.le_of_ble_eq_true rfl) rfl (ctX6_init (o := σ4.1) rfl (snew_at _ _)) ?_
  rintro v5 τ5 d5 ⟨rfl, rfl, g5, hL5⟩
  dsimp only [List.nil_append]
  refine V_putR (pc := 39) (c := 4) (k := 7) dX4_init_39 (by decide) (by decide) kw236 rfl (Or.inr ⟨rfl, rfl⟩) rfl (b.gcls h0 g5) ?_
  have b := Bl_sub (P := L6) b g5 hL5 (fun s s1 h f => L6_kp h f) (k := 7) (by decide) (by decide)
  generalize uR τ5 o 7 (some σ4.1) = σ6 at b ⊢
  refine V_aload_n (pc := 42) 0 dX4_init_42 rfl rfl ?_
  refine V_new (bc := 42) (bs := 253) (pc := 43) (c := 5) dX4_init_43 (by decide) kw130 kw131 kw5 (by decide) ?_
  refine V_dup (pc := 46) dX4_init_46 rfl ?_
  refine V_callIN (host := "SplicedLoom") (bc2 := 39) (bs2 := 240) (bc1 := 3) (bs1 := 13) (pc := 47) (As := []) (o := σ6.1) dX4_init_47 (by decide) calX5_init kw133 rfl (by decide) (Nat.le_of_ble_eq_true rfl) rfl (ctX5_init ao (o := σ6.1) rfl (snew_at _ _)) ?_
  rintro v7 τ7 d7 ⟨rfl, rfl, g7, hL7⟩
  dsimp only [List.nil_append]
  refine V_putR (pc := 50) (c := 4) (k := 8) dX4_init_50 (by decide) (by decide) kw241 rfl (Or.inr ⟨rfl, rfl⟩) rfl (b.gcls h0 g7) ?_
  have b := Bl_sub (P := L5) b g7 hL7 (fun s s1 h f => L5_kp h f) (k := 8) (by decide) (by decide)
  generalize uR τ7 o 8 (some σ6.1) = σ8 at b ⊢
  refine V_aload_n (pc := 53) 0 dX4_init_53 rfl rfl ?_
  refine V_new (bc := 2) (bs := 10) (pc := 54) (c := 1) dX4_init_54 (by decide) kw194 kw195 kw6 (by decide) ?_
  refine V_dup (pc := 57) dX4_init_57 rfl ?_
  refine V_callIN (host := "SplicedLoom") (bc2 := 2) (bs2 := 10) (bc1 := 0) (bs1 := 0) (pc := 58) (As := []) (o := σ8.1) dX4_init_58 (by decide) calX1_init kw197 rfl (by decide) (Nat.le_of_ble_eq_true rfl) rfl (ctX1_init (o := σ8.1) rfl (snew_at _ _)) ?_
  rintro v9 τ9 d9 ⟨rfl, rfl, g9, hL9⟩
  dsimp only [List.nil_append]
  refine V_putR (pc := 61) (c := 4) (k := 9) dX4_init_61 (by decide) (by decide) kw247 rfl (Or.inr ⟨rfl, rfl⟩) rfl (b.gcls h0 g9) ?_
  have b := Bl_sub (P := L1) b g9 hL9 (fun s s1 h f => L1_kp h f) (k := 9) (by decide) (by decide)
  generalize uR τ9 o 9 (some σ8.1) = σ10 at b ⊢
  have e9 := b.2.2.2.2.1 (9, 72, 0, 1) (by decide)
  have e8 := b.2.2.2.2.1 (8, 32, 0, 5) (by decide)
  have e7 := b.2.2.2.2.1 (7, 25, 0, 6) (by decide)
  have e6 := b.2.2.2.2.1 (6, 3, 0, 9) (by decide)
  have e5 := b.2.2.2.2.1 (5, 2, 1, 36) (by decide)
  have e4 := b.2.2.2.2.1 (4, 1, 2, 36) (by decide)
  have kk := b.2.2.2.2.2 _ (fun _ _ _ => ⟨rfl, fun _ => rfl⟩)
  exact V_ret (pc := 64) dX4_init_64 ⟨rfl, rfl⟩ ⟨rfl, rfl, b.grow, b.cls h0, e4.2.2.1, e4.2.2.2, e5.2.2.1, e5.2.2.2, e6.2.2.1, kk.1.1.1.2, e7.2.2.1, kk.1.1.2, e8.2.2.1, kk.1.2, e9.2.2.1, kk.2⟩
theorem calX12_init : Cal yX12_init cX12_init 1 none 0 := ⟨kw1241, kw11, by decide +kernel⟩
theorem ctX12_init {G : Gl} {σ : Sg} {d : Dt} {o : Nat} (h1 : σ.1 = o + 1) (h0 : σ.2.1 o = some (0, 11)) : CT G yX12_init cX12_init 1 none 1 14 2536 [.ref (gB G + o)] σ d (fun v σ' d' => v = [] ∧ d' = (uI d o 3 (-1)) ∧ Grow o 15 σ σ' ∧ L11 σ' o) := by
  refine CT_of pn_RX12 (Nat.le_of_ble_eq_true rfl) ?_
  have b := Bl_0 h1
  refine V_aload_n (pc := 0) 0 dX12_init_0 rfl rfl ?_
  refine V_objInit (pc := 1) dX12_init_1 kw1242 kw31 kw32 ⟨by decide, Nat.le_of_ble_eq_true rfl⟩ ?_
  refine V_aload_n (pc := 4) 0 dX12_init_4 rfl rfl ?_
  refine V_iconst (pc := 5) (x := (-1)) dX12_init_5 (by decide) ?_
  refine V_putI (pc := 6) (c := 11) (k := 3) dX12_init_6 (by decide) (by decide) kw1246 rfl rfl rfl ⟨rfl, rfl⟩ (b.cls h0) ?_
  refine V_aload_n (pc := 9) 0 dX12_init_9 rfl rfl ?_
  refine V_sipush (pc := 10) (x := 1000) dX12_init_10 (by decide) ?_
  refine V_newI (bc := 13) (bs := 1536) (pc := 13) (x := 1000) (n := 1000) dX12_init_13 kw85 (by decide) (by decide) (by decide) ?_
  refine V_putR (pc := 15) (c := 11) (k := 4) dX12_init_15 (by decide) (by decide) kw1247 rfl (Or.inr ⟨rfl, rfl⟩) rfl (b.scls h0 _) ?_
  have b := Bl_new b (k := 4) (q := (1, 1000)) (by decide)
  generalize uR (snew σ (1, 1000)) o 4 (some σ.1) = σ1 at b ⊢
  refine V_aload_n (pc := 18) 0 dX12_init_18 rfl rfl ?_
  refine V_sipush (pc := 19) (x := 267) dX12_init_19 (by decide) ?_
  refine V_newI (bc := 12) (bs := 1269) (pc := 22) (x := 267) (n := 267) dX12_init_22 kw85 (by decide) (by decide) (by decide) ?_
  refine V_putR (pc := 24) (c := 11) (k := 6) dX12_init_24 (by decide) (by decide) kw1249 rfl (Or.inr ⟨rfl, rfl⟩) rfl (b.scls h0 _) ?_
  have b := Bl_new b (k := 6) (q := (1, 267)) (by decide)
  generalize uR (snew σ1 (1, 267)) o 6 (some σ1.1) = σ2 at b ⊢
  refine V_aload_n (pc := 27) 0 dX12_init_27 rfl rfl ?_
  refine V_sipush (pc := 28) (x := 267) dX12_init_28 (by decide) ?_
  refine V_newI (bc := 11) (bs := 1002) (pc := 31) (x := 267) (n := 267) dX12_init_31 kw85 (by decide) (by decide) (by decide) ?_
  refine V_putR (pc := 33) (c := 11) (k := 7) dX12_init_33 (by decide) (by decide) kw1250 rfl (Or.inr ⟨rfl, rfl⟩) rfl (b.scls h0 _) ?_
  have b := Bl_new b (k := 7) (q := (1, 267)) (by decide)
  generalize uR (snew σ2 (1, 267)) o 7 (some σ2.1) = σ3 at b ⊢
  refine V_aload_n (pc := 36) 0 dX12_init_36 rfl rfl ?_
  refine V_bipush (pc := 37) (x := 36) dX12_init_37 (by decide) ?_
  refine V_newJ (bc := 10) (bs := 966) (pc := 39) (x := 36) (n := 36) dX12_init_39 kw84 (by decide) (by decide) (by decide) ?_
  refine V_putR (pc := 41) (c := 11) (k := 8) dX12_init_41 (by decide) (by decide) kw1251 rfl (Or.inr ⟨rfl, rfl⟩) rfl (b.scls h0 _) ?_
  have b := Bl_new b (k := 8) (q := (2, 36)) (by decide)
  generalize uR (snew σ3 (2, 36)) o 8 (some σ3.1) = σ4 at b ⊢
  refine V_aload_n (pc := 44) 0 dX12_init_44 rfl rfl ?_
  refine V_bipush (pc := 45) (x := 36) dX12_init_45 (by decide) ?_
  refine V_newI (bc := 9) (bs := 930) (pc := 47) (x := 36) (n := 36) dX12_init_47 kw85 (by decide) (by decide) (by decide) ?_
  refine V_putR (pc := 49) (c := 11) (k := 9) dX12_init_49 (by decide) (by decide) kw1252 rfl (Or.inr ⟨rfl, rfl⟩) rfl (b.scls h0 _) ?_
  have b := Bl_new b (k := 9) (q := (1, 36)) (by decide)
  generalize uR (snew σ4 (1, 36)) o 9 (some σ4.1) = σ5 at b ⊢
  refine V_aload_n (pc := 52) 0 dX12_init_52 rfl rfl ?_
  refine V_bipush (pc := 53) (x := 36) dX12_init_53 (by decide) ?_
  refine V_newJ (bc := 8) (bs := 894) (pc := 55) (x := 36) (n := 36) dX12_init_55 kw84 (by decide) (by decide) (by decide) ?_
  refine V_putR (pc := 57) (c := 11) (k := 11) dX12_init_57 (by decide) (by decide) kw1254 rfl (Or.inr ⟨rfl, rfl⟩) rfl (b.scls h0 _) ?_
  have b := Bl_new b (k := 11) (q := (2, 36)) (by decide)
  generalize uR (snew σ5 (2, 36)) o 11 (some σ5.1) = σ6 at b ⊢
  refine V_aload_n (pc := 60) 0 dX12_init_60 rfl rfl ?_
  refine V_bipush (pc := 61) (x := 36) dX12_init_61 (by decide) ?_
  refine V_newI (bc := 7) (bs := 858) (pc := 63) (x := 36) (n := 36) dX12_init_63 kw85 (by decide) (by decide) (by decide) ?_
  refine V_putR (pc := 65) (c := 11) (k := 12) dX12_init_65 (by decide) (by decide) kw1255 rfl (Or.inr ⟨rfl, rfl⟩) rfl (b.scls h0 _) ?_
  have b := Bl_new b (k := 12) (q := (1, 36)) (by decide)
  generalize uR (snew σ6 (1, 36)) o 12 (some σ6.1) = σ7 at b ⊢
  refine V_aload_n (pc := 68) 0 dX12_init_68 rfl rfl ?_
  refine V_bipush (pc := 69) (x := 14) dX12_init_69 (by decide) ?_
  refine V_newI (bc := 6) (bs := 844) (pc := 71) (x := 14) (n := 14) dX12_init_71 kw85 (by decide) (by decide) (by decide) ?_
  refine V_putR (pc := 73) (c := 11) (k := 24) dX12_init_73 (by decide) (by decide) kw1267 rfl (Or.inr ⟨rfl, rfl⟩) rfl (b.scls h0 _) ?_
  have b := Bl_new b (k := 24) (q := (1, 14)) (by decide)
  generalize uR (snew σ7 (1, 14)) o 24 (some σ7.1) = σ8 at b ⊢
  refine V_aload_n (pc := 76) 0 dX12_init_76 rfl rfl ?_
  refine V_bipush (pc := 77) (x := 14) dX12_init_77 (by decide) ?_
  refine V_newI (bc := 5) (bs := 830) (pc := 79) (x := 14) (n := 14) dX12_init_79 kw85 (by decide) (by decide) (by decide) ?_
  refine V_putR (pc := 81) (c := 11) (k := 25) dX12_init_81 (by decide) (by decide) kw1268 rfl (Or.inr ⟨rfl, rfl⟩) rfl (b.scls h0 _) ?_
  have b := Bl_new b (k := 25) (q := (1, 14)) (by decide)
  generalize uR (snew σ8 (1, 14)) o 25 (some σ8.1) = σ9 at b ⊢
  refine V_aload_n (pc := 84) 0 dX12_init_84 rfl rfl ?_
  refine V_sipush (pc := 85) (x := 800) dX12_init_85 (by decide) ?_
  refine V_newI (bc := 4) (bs := 30) (pc := 88) (x := 800) (n := 800) dX12_init_88 kw85 (by decide) (by decide) (by decide) ?_
  refine V_putR (pc := 90) (c := 11) (k := 26) dX12_init_90 (by decide) (by decide) kw1269 rfl (Or.inr ⟨rfl, rfl⟩) rfl (b.scls h0 _) ?_
  have b := Bl_new b (k := 26) (q := (1, 800)) (by decide)
  generalize uR (snew σ9 (1, 800)) o 26 (some σ9.1) = σ10 at b ⊢
  refine V_aload_n (pc := 93) 0 dX12_init_93 rfl rfl ?_
  refine V_iconst (pc := 94) (x := 5) dX12_init_94 (by decide) ?_
  refine V_newI (bc := 3) (bs := 25) (pc := 95) (x := 5) (n := 5) dX12_init_95 kw85 (by decide) (by decide) (by decide) ?_
  refine V_putR (pc := 97) (c := 11) (k := 28) dX12_init_97 (by decide) (by decide) kw1271 rfl (Or.inr ⟨rfl, rfl⟩) rfl (b.scls h0 _) ?_
  have b := Bl_new b (k := 28) (q := (1, 5)) (by decide)
  generalize uR (snew σ10 (1, 5)) o 28 (some σ10.1) = σ11 at b ⊢
  refine V_aload_n (pc := 100) 0 dX12_init_100 rfl rfl ?_
  refine V_iconst (pc := 101) (x := 5) dX12_init_101 (by decide) ?_
  refine V_newI (bc := 2) (bs := 20) (pc := 102) (x := 5) (n := 5) dX12_init_102 kw85 (by decide) (by decide) (by decide) ?_
  refine V_putR (pc := 104) (c := 11) (k := 29) dX12_init_104 (by decide) (by decide) kw1272 rfl (Or.inr ⟨rfl, rfl⟩) rfl (b.scls h0 _) ?_
  have b := Bl_new b (k := 29) (q := (1, 5)) (by decide)
  generalize uR (snew σ11 (1, 5)) o 29 (some σ11.1) = σ12 at b ⊢
  refine V_aload_n (pc := 107) 0 dX12_init_107 rfl rfl ?_
  refine V_bipush (pc := 108) (x := 10) dX12_init_108 (by decide) ?_
  refine V_newI (bc := 1) (bs := 10) (pc := 110) (x := 10) (n := 10) dX12_init_110 kw85 (by decide) (by decide) (by decide) ?_
  refine V_putR (pc := 112) (c := 11) (k := 32) dX12_init_112 (by decide) (by decide) kw1275 rfl (Or.inr ⟨rfl, rfl⟩) rfl (b.scls h0 _) ?_
  have b := Bl_new b (k := 32) (q := (1, 10)) (by decide)
  generalize uR (snew σ12 (1, 10)) o 32 (some σ12.1) = σ13 at b ⊢
  refine V_aload_n (pc := 115) 0 dX12_init_115 rfl rfl ?_
  refine V_bipush (pc := 116) (x := 10) dX12_init_116 (by decide) ?_
  refine V_newI (bc := 0) (bs := 0) (pc := 118) (x := 10) (n := 10) dX12_init_118 kw85 (by decide) (by decide) (by decide) ?_
  refine V_putR (pc := 120) (c := 11) (k := 33) dX12_init_120 (by decide) (by decide) kw1276 rfl (Or.inr ⟨rfl, rfl⟩) rfl (b.scls h0 _) ?_
  have b := Bl_new b (k := 33) (q := (1, 10)) (by decide)
  generalize uR (snew σ13 (1, 10)) o 33 (some σ13.1) = σ14 at b ⊢
  have e33 := b.2.2.2.2.1 (33, 14, 1, 10) (by decide)
  have e32 := b.2.2.2.2.1 (32, 13, 1, 10) (by decide)
  have e29 := b.2.2.2.2.1 (29, 12, 1, 5) (by decide)
  have e28 := b.2.2.2.2.1 (28, 11, 1, 5) (by decide)
  have e26 := b.2.2.2.2.1 (26, 10, 1, 800) (by decide)
  have e25 := b.2.2.2.2.1 (25, 9, 1, 14) (by decide)
  have e24 := b.2.2.2.2.1 (24, 8, 1, 14) (by decide)
  have e12 := b.2.2.2.2.1 (12, 7, 1, 36) (by decide)
  have e11 := b.2.2.2.2.1 (11, 6, 2, 36) (by decide)
  have e9 := b.2.2.2.2.1 (9, 5, 1, 36) (by decide)
  have e8 := b.2.2.2.2.1 (8, 4, 2, 36) (by decide)
  have e7 := b.2.2.2.2.1 (7, 3, 1, 267) (by decide)
  have e6 := b.2.2.2.2.1 (6, 2, 1, 267) (by decide)
  have e4 := b.2.2.2.2.1 (4, 1, 1, 1000) (by decide)
  have kk := b.2.2.2.2.2 _ (fun _ _ _ => ⟨rfl, fun _ => rfl⟩)
  exact V_ret (pc := 123) dX12_init_123 ⟨rfl, rfl⟩ ⟨rfl, rfl, b.grow, b.cls h0, e4.2.2.1, e4.2.2.2, e6.2.2.1, e6.2.2.2, e7.2.2.1, e7.2.2.2, e8.2.2.1, e8.2.2.2, e9.2.2.1, e9.2.2.2, e11.2.2.1, e11.2.2.2, e12.2.2.1, e12.2.2.2, e24.2.2.1, e24.2.2.2, e25.2.2.1, e25.2.2.2, e26.2.2.1, e26.2.2.2, e28.2.2.1, e28.2.2.2, e29.2.2.1, e29.2.2.2, e32.2.2.1, e32.2.2.2, e33.2.2.1, e33.2.2.2⟩
theorem calX11_init : Cal yX11_init cX11_init 1 none 0 := ⟨kw29, kw1, by decide +kernel⟩
theorem ctX11_init {G : Gl} {σ : Sg} {d : Dt} {o : Nat} (ao : AO G) (h1 : σ.1 = o + 1) (h0 : σ.2.1 o = some (0, 10)) : CT G yX11_init cX11_init 1 none 3 166 6302 [.ref (gB G + o)] σ d (fun v σ' d' => v = [] ∧ d' = d ∧ Grow o 167 σ σ' ∧ L10 σ' o (o + 2) (o + 77)) := by
  refine CT_of pn_RX11 (Nat.le_of_ble_eq_true rfl) ?_
  have b := Bl_0 h1
  refine V_aload_n (pc := 0) 0 dX11_init_0 rfl rfl ?_
  refine V_objInit (pc := 1) dX11_init_1 kw30 kw31 kw32 ⟨by decide, Nat.le_of_ble_eq_true rfl⟩ ?_
  refine V_aload_n (pc := 4) 0 dX11_init_4 rfl rfl ?_
  refine V_sipush (pc := 5) (x := 1000) dX11_init_5 (by decide) ?_
  refine V_newB (bc := 165) (bs := 5302) (pc := 8) (x := 1000) (n := 1000) dX11_init_8 kw83 (by decide) (by decide) (by decide) ?_
  refine V_putR (pc := 10) (c := 10) (k := 0) dX11_init_10 (by decide) (by decide) kw354 rfl (Or.inr ⟨rfl, rfl⟩) rfl (b.scls h0 _) ?_
  have b := Bl_new b (k := 0) (q := (3, 1000)) (by decide)
  generalize uR (snew σ (3, 1000)) o 0 (some σ.1) = σ1 at b ⊢
  refine V_aload_n (pc := 13) 0 dX11_init_13 rfl rfl ?_
  refine V_new (bc := 164) (bs := 5292) (pc := 14) (c := 4) dX11_init_14 (by decide) kw33 kw34 kw2 (by decide) ?_
  refine V_dup (pc := 17) dX11_init_17 rfl ?_
  refine V_callIN (host := "SplicedLoom") (bc2 := 74) (bs2 := 692) (bc1 := 90) (bs1 := 4600) (pc := 18) (As := []) (o := σ1.1) dX11_init_18 (by decide) calX4_init kw36 rfl (by decide) (Nat.le_of_ble_eq_true rfl) rfl (ctX4_init ao (o := σ1.1) rfl (snew_at _ _)) ?_
  rintro v2 τ2 d2 ⟨rfl, rfl, g2, hL2⟩
  dsimp only [List.nil_append]
  refine V_putR (pc := 21) (c := 10) (k := 2) dX11_init_21 (by decide) (by decide) kw356 rfl (Or.inr ⟨rfl, rfl⟩) rfl (b.gcls h0 g2) ?_
  have b := Bl_sub (P := L4) b g2 hL2 (fun s s1 h f => L4_kp h f) (k := 2) (by decide) (by decide)
  generalize uR τ2 o 2 (some σ1.1) = σ3 at b ⊢
  refine V_aload_n (pc := 24) 0 dX11_init_24 rfl rfl ?_
  refine V_new (bc := 89) (bs := 4590) (pc := 25) (c := 4) dX11_init_25 (by decide) kw33 kw34 kw2 (by decide) ?_
  refine V_dup (pc := 28) dX11_init_28 rfl ?_
  refine V_callIN (host := "SplicedLoom") (bc2 := 74) (bs2 := 692) (bc1 := 15) (bs1 := 3898) (pc := 29) (As := []) (o := σ3.1) dX11_init_29 (by decide) calX4_init kw36 rfl (by decide) (Nat.le_of_ble_eq_true rfl) rfl (ctX4_init ao (o := σ3.1) rfl (snew_at _ _)) ?_
  rintro v4 τ4 d4 ⟨rfl, rfl, g4, hL4⟩
  dsimp only [List.nil_append]
  refine V_putR (pc := 32) (c := 10) (k := 3) dX11_init_32 (by decide) (by decide) kw357 rfl (Or.inr ⟨rfl, rfl⟩) rfl (b.gcls h0 g4) ?_
  have b := Bl_sub (P := L4) b g4 hL4 (fun s s1 h f => L4_kp h f) (k := 3) (by decide) (by decide)
  generalize uR τ4 o 3 (some σ3.1) = σ5 at b ⊢
  refine V_aload_n (pc := 35) 0 dX11_init_35 rfl rfl ?_
  refine V_new (bc := 14) (bs := 3893) (pc := 36) (c := 8) dX11_init_36 (by decide) kw272 kw273 kw7 (by decide) ?_
  refine V_dup (pc := 39) dX11_init_39 rfl ?_
  refine V_callIN (host := "SplicedLoom") (bc2 := 3) (bs2 := 3000) (bc1 := 11) (bs1 := 893) (pc := 40) (As := []) (o := σ5.1) dX11_init_40 (by decide) calX8_init kw275 rfl (by decide) (Nat.le_of_ble_eq_true rfl) rfl (ctX8_init (o := σ5.1) rfl (snew_at _ _)) ?_
  rintro v6 τ6 d6 ⟨rfl, rfl, g6, hL6⟩
  dsimp only [List.nil_append]
  refine V_putR (pc := 43) (c := 10) (k := 5) dX11_init_43 (by decide) (by decide) kw359 rfl (Or.inr ⟨rfl, rfl⟩) rfl (b.gcls h0 g6) ?_
  have b := Bl_sub (P := L8) b g6 hL6 (fun s s1 h f => L8_kp h f) (k := 5) (by decide) (by decide)
  generalize uR τ6 o 5 (some σ5.1) = σ7 at b ⊢
  refine V_aload_n (pc := 46) 0 dX11_init_46 rfl rfl ?_
  refine V_new (bc := 10) (bs := 889) (pc := 47) (c := 0) dX11_init_47 (by decide) kw294 kw295 kw8 (by decide) ?_
  refine V_dup (pc := 50) dX11_init_50 rfl ?_
  refine V_callIN (host := "SplicedLoom") (bc2 := 3) (bs2 := 30) (bc1 := 7) (bs1 := 859) (pc := 51) (As := []) (o := σ7.1) dX11_init_51 (by decide) calX0_init kw297 rfl (by decide) (Nat.le_of_ble_eq_true rfl) rfl (ctX0_init (o := σ7.1) rfl (snew_at _ _)) ?_
  rintro v8 τ8 d8 ⟨rfl, rfl, g8, hL8⟩
  dsimp only [List.nil_append]
  refine V_putR (pc := 54) (c := 10) (k := 6) dX11_init_54 (by decide) (by decide) kw360 rfl (Or.inr ⟨rfl, rfl⟩) rfl (b.gcls h0 g8) ?_
  have b := Bl_sub (P := L0) b g8 hL8 (fun s s1 h f => L0_kp h f) (k := 6) (by decide) (by decide)
  generalize uR τ8 o 6 (some σ7.1) = σ9 at b ⊢
  refine V_aload_n (pc := 57) 0 dX11_init_57 rfl rfl ?_
  refine V_new (bc := 6) (bs := 856) (pc := 58) (c := 3) dX11_init_58 (by decide) kw317 kw318 kw9 (by decide) ?_
  refine V_dup (pc := 61) dX11_init_61 rfl ?_
  refine V_callIN (host := "SplicedLoom") (bc2 := 2) (bs2 := 810) (bc1 := 4) (bs1 := 46) (pc := 62) (As := []) (o := σ9.1) dX11_init_62 (by decide) calX3_init kw320 rfl (by decide) (Nat.le_of_ble_eq_true rfl) rfl (ctX3_init (o := σ9.1) rfl (snew_at _ _)) ?_
  rintro v10 τ10 d10 ⟨rfl, rfl, g10, hL10⟩
  dsimp only [List.nil_append]
  refine V_putR (pc := 65) (c := 10) (k := 7) dX11_init_65 (by decide) (by decide) kw361 rfl (Or.inr ⟨rfl, rfl⟩) rfl (b.gcls h0 g10) ?_
  have b := Bl_sub (P := L3) b g10 hL10 (fun s s1 h f => L3_kp h f) (k := 7) (by decide) (by decide)
  generalize uR τ10 o 7 (some σ9.1) = σ11 at b ⊢
  refine V_aload_n (pc := 68) 0 dX11_init_68 rfl rfl ?_
  refine V_new (bc := 3) (bs := 42) (pc := 69) (c := 2) dX11_init_69 (by decide) kw333 kw334 kw10 (by decide) ?_
  refine V_dup (pc := 72) dX11_init_72 rfl ?_
  refine V_callIN (host := "SplicedLoom") (bc2 := 3) (bs2 := 42) (bc1 := 0) (bs1 := 0) (pc := 73) (As := []) (o := σ11.1) dX11_init_73 (by decide) calX2_init kw336 rfl (by decide) (Nat.le_of_ble_eq_true rfl) rfl (ctX2_init (o := σ11.1) rfl (snew_at _ _)) ?_
  rintro v12 τ12 d12 ⟨rfl, rfl, g12, hL12⟩
  dsimp only [List.nil_append]
  refine V_putR (pc := 76) (c := 10) (k := 8) dX11_init_76 (by decide) (by decide) kw362 rfl (Or.inr ⟨rfl, rfl⟩) rfl (b.gcls h0 g12) ?_
  have b := Bl_sub (P := L2) b g12 hL12 (fun s s1 h f => L2_kp h f) (k := 8) (by decide) (by decide)
  generalize uR τ12 o 8 (some σ11.1) = σ13 at b ⊢
  have e8 := b.2.2.2.2.1 (8, 163, 0, 2) (by decide)
  have e7 := b.2.2.2.2.1 (7, 160, 0, 3) (by decide)
  have e6 := b.2.2.2.2.1 (6, 156, 0, 0) (by decide)
  have e5 := b.2.2.2.2.1 (5, 152, 0, 8) (by decide)
  have e3 := b.2.2.2.2.1 (3, 77, 0, 4) (by decide)
  have e2 := b.2.2.2.2.1 (2, 2, 0, 4) (by decide)
  have e0 := b.2.2.2.2.1 (0, 1, 3, 1000) (by decide)
  have kk := b.2.2.2.2.2 _ (fun _ _ _ => ⟨rfl, fun _ => rfl⟩)
  exact V_ret (pc := 79) dX11_init_79 ⟨rfl, rfl⟩ ⟨rfl, rfl, b.grow, b.cls h0, e0.2.2.1, e0.2.2.2, e2.2.2.1, kk.1.1.1.1.1.2, e3.2.2.1, kk.1.1.1.1.2, e5.2.2.1, kk.1.1.1.2, e6.2.2.1, kk.1.1.2, e7.2.2.1, kk.1.2, e8.2.2.1, kk.2⟩
