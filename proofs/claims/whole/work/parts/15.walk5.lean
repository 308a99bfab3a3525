theorem wX12_spelt_7 {G : Gl} {σ : Sg} {d : Dt} {r0 : Nat} {rr : Int64} (H0 : L11 σ r0) : ∀ (n : Nat) (v1 : Int64) (v3 : Int32), mX12_spelt_7 d r0 n v1 v3 = some rr → V G yX12_spelt cX12_spelt 4 (some .long) 0 0 0 (PH [.long rr] σ d) 7 [(0, .ref (gB G + r0)), (1, .long v1), (3, .int v3)] [] σ d := by
  intro n
  induction n with
  | zero =>
    intro v1 v3
    intros
    rename_i h
    exact absurd h (by rw [mX12_spelt_7]; exact fun q => nomatch q)
  | succ n ih =>
    intro v1 v3 h
    rw [mX12_spelt_7] at h
    refine V_iload_n (pc := 7) 2 dX12_spelt_7 rfl rfl ?_
    refine V_aload_n (pc := 8) 0 dX12_spelt_8 rfl rfl ?_
    refine V_getI (pc := 9) (c := 11) (k := 17) dX12_spelt_9 (by decide) (by decide) kw1260 rfl rfl (L11_0 H0) ?_
    refine V_icmp_ge (pc := 12) (tgt := 35) dX12_spelt_12 (by decide) (fun c1 => ?_) (fun c1 => ?_)
    · have h := ite_p c1 h
      refine V_lload_n (pc := 35) 1 dX12_spelt_35 rfl rfl ?_
      cases h
      exact V_ret (pc := 36) dX12_spelt_36 ⟨rfl, _, rfl⟩ ⟨rfl, rfl, rfl⟩
    · have h := ite_n c1 h
      refine V_ldc2 (pc := 15) dX12_spelt_15 kw1450 ?_
      refine V_lload_n (pc := 18) 1 dX12_spelt_18 rfl rfl ?_
      refine V_lmul (pc := 19) dX12_spelt_19 ?_
      refine V_aload_n (pc := 20) 0 dX12_spelt_20 rfl rfl ?_
      refine V_getR (pc := 21) (c := 11) (k := 4) dX12_spelt_21 (by decide) (by decide) kw1247 rfl rfl (L11_0 H0) (L11_r4 H0) ?_
      refine V_iload_n (pc := 24) 2 dX12_spelt_24 rfl rfl ?_
      obtain ⟨b2, h⟩ := ite_o h
      refine V_iald (pc := 25) dX12_spelt_25 (L11_s4 H0) (inB_vp b2) ?_
      refine V_i2l (pc := 26) dX12_spelt_26 ?_
      refine V_ladd (pc := 27) dX12_spelt_27 ?_
      refine V_lstore_n (pc := 28) (lv1 := [(1, _), (0, _), (3, _)]) dX12_spelt_28 rfl (by decide) rfl ?_
      refine V_iinc (pc := 29) (lv1 := [(3, _), (1, _), (0, _)]) (z := _ + (1 : Int32)) 2 dX12_spelt_29 rfl rfl (by decide) rfl ?_
      refine V_goto (pc := 32) (tgt := 7) dX12_spelt_32 (by decide) ?_
      exact V_sub [2, 1, 0] rfl (ih (((256 : Int64) * v1) + (d.1 (r0 + 1) v3.toNatClampNeg).toInt64) (v3 + (1 : Int32)) h)
theorem calX12_spelt : Cal yX12_spelt cX12_spelt 4 (some .long) 0 := ⟨kw1449, kw11, by decide +kernel⟩
theorem ctX12_spelt {G : Gl} {σ : Sg} {d : Dt} {r0 : Nat} {rr : Int64} (H0 : L11 σ r0) (h : mX12_spelt r0 d = some rr) : CTv G yX12_spelt cX12_spelt 4 (some .long) 0 [.ref (gB G + r0)] σ d [.long rr] d := by
  refine CT_of pn_RX12 (Nat.le_of_ble_eq_true rfl) ?_
  rw [mX12_spelt] at h
  refine V_lconst (pc := 0) (x := 0) dX12_spelt_0 (by decide) ?_
  refine V_lstore_n (pc := 1) (lv1 := [(1, _), (0, _)]) dX12_spelt_1 rfl (by decide) rfl ?_
  refine V_aload_n (pc := 2) 1 dX12_spelt_2 rfl rfl ?_
  refine V_getI (pc := 3) (c := 11) (k := 16) dX12_spelt_3 (by decide) (by decide) kw1259 rfl rfl (L11_0 H0) ?_
  refine V_istore_n (pc := 6) (lv1 := [(3, _), (1, _), (0, _)]) dX12_spelt_6 rfl (by decide) rfl ?_
  exact V_sub [2, 1, 0] rfl (wX12_spelt_7 H0 FUEL (0 : Int64) (d.1 r0 16) h)
theorem wX12_told_2 {G : Gl} {σ : Sg} {d : Dt} {r0 : Nat} {rr : Int32} (H0 : L11 σ r0) : ∀ (n : Nat) (v1 : Int32), mX12_told_2 d r0 n v1 = some rr → V G yX12_told cX12_told 2 (some .int) 1 0 0 (PH [.int rr] σ d) 2 [(0, .ref (gB G + r0)), (1, .int v1)] [] σ d := by
  intro n
  induction n with
  | zero =>
    intro v1
    intros
    rename_i h
    exact absurd h (by rw [mX12_told_2]; exact fun q => nomatch q)
  | succ n ih =>
    intro v1 h
    rw [mX12_told_2] at h
    refine V_iload_n (pc := 2) 1 dX12_told_2 rfl rfl ?_
    refine V_aload_n (pc := 3) 0 dX12_told_3 rfl rfl ?_
    refine V_getI (pc := 4) (c := 11) (k := 13) dX12_told_4 (by decide) (by decide) kw1256 rfl rfl (L11_0 H0) ?_
    refine V_icmp_ge (pc := 7) (tgt := 37) dX12_told_7 (by decide) (fun c1 => ?_) (fun c1 => ?_)
    · have h := ite_p c1 h
      refine V_iconst (pc := 37) (x := (-1)) dX12_told_37 (by decide) ?_
      cases h
      exact V_ret (pc := 38) dX12_told_38 ⟨rfl, _, rfl⟩ ⟨rfl, rfl, rfl⟩
    · have h := ite_n c1 h
      refine V_aload_n (pc := 10) 0 dX12_told_10 rfl rfl ?_
      refine V_getR (pc := 11) (c := 11) (k := 11) dX12_told_11 (by decide) (by decide) kw1254 rfl rfl (L11_0 H0) (L11_r11 H0) ?_
      refine V_iload_n (pc := 14) 1 dX12_told_14 rfl rfl ?_
      obtain ⟨b2, h⟩ := ite_o h
      refine V_lald (pc := 15) dX12_told_15 (L11_s11 H0) (inB_vp b2) ?_
      refine V_aload_n (pc := 16) 0 dX12_told_16 rfl rfl ?_
      obtain ⟨x4, h3, h⟩ := bnd h
      refine V_cV0 (pc := 17) dX12_told_17 kw1446 calX12_spelt kw1448 ks70 (L11_0 H0) rfl (by decide) (Nat.le_of_ble_eq_true rfl) (ctX12_spelt H0 h3) ?_
      refine V_lcmp_ne (pc := 20) (tgt := 31) dX12_told_20 dX12_told_21 (by decide) (fun c5 => ?_) (fun c5 => ?_)
      · have h := ite_n c5 h
        refine V_iinc (pc := 31) (lv1 := [(1, _), (0, _)]) (z := _ + (1 : Int32)) 1 dX12_told_31 rfl rfl (by decide) rfl ?_
        refine V_goto (pc := 34) (tgt := 2) dX12_told_34 (by decide) ?_
        exact V_sub [1, 0] rfl (ih (v1 + (1 : Int32)) h)
      · have h := ite_p c5 h
        refine V_aload_n (pc := 24) 0 dX12_told_24 rfl rfl ?_
        refine V_getR (pc := 25) (c := 11) (k := 12) dX12_told_25 (by decide) (by decide) kw1255 rfl rfl (L11_0 H0) (L11_r12 H0) ?_
        refine V_iload_n (pc := 28) 1 dX12_told_28 rfl rfl ?_
        obtain ⟨b6, h⟩ := ite_o h
        refine V_iald (pc := 29) dX12_told_29 (L11_s12 H0) (inB_vp b6) ?_
        cases h
        exact V_ret (pc := 30) dX12_told_30 ⟨rfl, _, rfl⟩ ⟨rfl, rfl, rfl⟩
theorem calX12_told : Cal yX12_told cX12_told 2 (some .int) 0 := ⟨kw1445, kw11, by decide +kernel⟩
theorem ctX12_told {G : Gl} {σ : Sg} {d : Dt} {r0 : Nat} {rr : Int32} (H0 : L11 σ r0) (h : mX12_told r0 d = some rr) : CTv G yX12_told cX12_told 2 (some .int) 1 [.ref (gB G + r0)] σ d [.int rr] d := by
  refine CT_of pn_RX12 (Nat.le_of_ble_eq_true rfl) ?_
  rw [mX12_told] at h
  refine V_iconst (pc := 0) (x := 0) dX12_told_0 (by decide) ?_
  refine V_istore_n (pc := 1) (lv1 := [(1, _), (0, _)]) dX12_told_1 rfl (by decide) rfl ?_
  exact V_sub [1, 0] rfl (wX12_told_2 H0 FUEL (0 : Int32) h)
theorem calX12_passesNew : Cal yX12_passesNew cX12_passesNew 1 (some .boolean) 0 := ⟨kw1429, kw11, by decide +kernel⟩
theorem ctX12_passesNew {G : Gl} {σ : Sg} {d : Dt} {r0 : Nat} {rr : Bool × Dt} (H0 : L11 σ r0) (h : mX12_passesNew r0 d = some rr) : CTv G yX12_passesNew cX12_passesNew 1 (some .boolean) 8 [.ref (gB G + r0)] σ d [.int (b2i rr.1)] rr.2 := by
  refine CT_of pn_RX12 (Nat.le_of_ble_eq_true rfl) ?_
  rw [mX12_passesNew] at h
  refine V_aload_n (pc := 0) 0 dX12_passesNew_0 rfl rfl ?_
  obtain ⟨x2, h1, h⟩ := bnd h
  refine V_cV0 (pc := 1) dX12_passesNew_1 kw1430 calX12_isName kw1432 ks68 (L11_0 H0) rfl (by decide) (Nat.le_of_ble_eq_true rfl) (ctX12_isName H0 h1) ?_
  refine V_ifB_ne (pc := 4) (tgt := 15) dX12_passesNew_4 (by decide) (fun c3 => ?_) (fun c3 => ?_)
  · have h := ite_p c3 h
    refine V_aload_n (pc := 15) 0 dX12_passesNew_15 rfl rfl ?_
    obtain ⟨x5, h4, h⟩ := bnd h
    refine V_cV0 (pc := 16) dX12_passesNew_16 kw1442 calX12_told kw1444 ks69 (L11_0 H0) rfl (by decide) (Nat.le_of_ble_eq_true rfl) (ctX12_told H0 h4) ?_
    refine V_iconst (pc := 19) (x := (-1)) dX12_passesNew_19 (by decide) ?_
    refine V_icmp_eq (pc := 20) (tgt := 31) dX12_passesNew_20 (by decide) (fun c6 => ?_) (fun c6 => ?_)
    · have h := ite_p c6 h
      refine V_aload_n (pc := 31) 0 dX12_passesNew_31 rfl rfl ?_
      refine V_aload_n (pc := 32) 0 dX12_passesNew_32 rfl rfl ?_
      obtain ⟨x8, h7, h⟩ := bnd h
      refine V_cV0 (pc := 33) dX12_passesNew_33 kw1446 calX12_spelt kw1448 ks70 (L11_0 H0) rfl (by decide) (Nat.le_of_ble_eq_true rfl) (ctX12_spelt H0 h7) ?_
      refine V_putL (pc := 36) (c := 11) (k := 23) dX12_passesNew_36 (by decide) (by decide) kw1266 rfl rfl rfl (L11_0 H0) ?_
      refine V_aload_n (pc := 39) 0 dX12_passesNew_39 rfl rfl ?_
      obtain ⟨x10, h9, h⟩ := bnd h
      refine V_cV0 (pc := 40) dX12_passesNew_40 kw1376 calX12_goesOn kw1378 ks56 (L11_0 H0) rfl (by decide) (Nat.le_of_ble_eq_true rfl) (ctX12_goesOn H0 h9) ?_
      refine V_iconst (pc := 43) (x := 1) dX12_passesNew_43 (by decide) ?_
      cases h
      exact V_ret (pc := 44) dX12_passesNew_44 ⟨rfl, _, rfl, rfl⟩ ⟨rfl, rfl, rfl⟩
    · have h := ite_n c6 h
      refine V_aload_n (pc := 23) 0 dX12_passesNew_23 rfl rfl ?_
      refine V_iconst (pc := 24) (x := 3) dX12_passesNew_24 (by decide) ?_
      refine V_cV1 (pc := 25) dX12_passesNew_25 kw1399 calX12_errs kw1401 ks61 (L11_0 H0) rfl (by decide) (Nat.le_of_ble_eq_true rfl) (ctX12_errs H0) ?_
      refine V_pop (pc := 28) dX12_passesNew_28 rfl ?_
      refine V_iconst (pc := 29) (x := 0) dX12_passesNew_29 (by decide) ?_
      cases h
      exact V_ret (pc := 30) dX12_passesNew_30 ⟨rfl, _, rfl, rfl⟩ ⟨rfl, rfl, rfl⟩
  · have h := ite_f c3 h
    refine V_aload_n (pc := 7) 0 dX12_passesNew_7 rfl rfl ?_
    refine V_iconst (pc := 8) (x := 1) dX12_passesNew_8 (by decide) ?_
    refine V_cV1 (pc := 9) dX12_passesNew_9 kw1399 calX12_errs kw1401 ks61 (L11_0 H0) rfl (by decide) (Nat.le_of_ble_eq_true rfl) (ctX12_errs H0) ?_
    refine V_pop (pc := 12) dX12_passesNew_12 rfl ?_
    refine V_iconst (pc := 13) (x := 0) dX12_passesNew_13 (by decide) ?_
    cases h
    exact V_ret (pc := 14) dX12_passesNew_14 ⟨rfl, _, rfl, rfl⟩ ⟨rfl, rfl, rfl⟩
theorem calX12_here : Cal yX12_here cX12_here 3 (some .int) 1 := ⟨kw1458, kw11, by decide +kernel⟩
theorem ctX12_here {G : Gl} {σ : Sg} {d : Dt} {r0 : Nat} {v1 : Int32} {rr : Int32 × Dt} (H0 : L11 σ r0) (h : mX12_here r0 v1 d = some rr) : CTv G yX12_here cX12_here 3 (some .int) 8 [.ref (gB G + r0), .int v1] σ d [.int rr.1] rr.2 := by
  refine CT_of pn_RX12 (Nat.le_of_ble_eq_true rfl) ?_
  rw [mX12_here] at h
  refine V_aload_n (pc := 0) 0 dX12_here_0 rfl rfl ?_
  obtain ⟨x2, h1, h⟩ := bnd h
  refine V_cV0 (pc := 1) dX12_here_1 kw1430 calX12_isName kw1432 ks68 (L11_0 H0) rfl (by decide) (Nat.le_of_ble_eq_true rfl) (ctX12_isName H0 h1) ?_
  refine V_ifB_ne (pc := 4) (tgt := 13) dX12_here_4 (by decide) (fun c3 => ?_) (fun c3 => ?_)
  · have h := ite_p c3 h
    refine V_aload_n (pc := 13) 0 dX12_here_13 rfl rfl ?_
    obtain ⟨x5, h4, h⟩ := bnd h
    refine V_cV0 (pc := 14) dX12_here_14 kw1442 calX12_told kw1444 ks69 (L11_0 H0) rfl (by decide) (Nat.le_of_ble_eq_true rfl) (ctX12_told H0 h4) ?_
    refine V_istore_n (pc := 17) (lv1 := [(2, _), (0, _), (1, _)]) dX12_here_17 rfl (by decide) rfl ?_
    refine V_iload_n (pc := 18) 0 dX12_here_18 rfl rfl ?_
    refine V_iconst (pc := 19) (x := (-1)) dX12_here_19 (by decide) ?_
    refine V_icmp_eq (pc := 20) (tgt := 34) dX12_here_20 (by decide) (fun c6 => ?_) (fun c6 => ?_)
    · have h := ite_p c6 h
      refine V_aload_n (pc := 34) 1 dX12_here_34 rfl rfl ?_
      refine V_iconst (pc := 35) (x := 2) dX12_here_35 (by decide) ?_
      refine V_cV1 (pc := 36) dX12_here_36 kw1399 calX12_errs kw1401 ks61 (L11_0 H0) rfl (by decide) (Nat.le_of_ble_eq_true rfl) (ctX12_errs H0) ?_
      refine V_goto (pc := 39) (tgt := 45) dX12_here_39 (by decide) ?_
      cases h
      exact V_ret (pc := 45) dX12_here_45 ⟨rfl, _, rfl⟩ ⟨rfl, rfl, rfl⟩
    · have h := ite_n c6 h
      refine V_iload_n (pc := 23) 0 dX12_here_23 rfl rfl ?_
      refine V_bipush (pc := 24) (x := 100) dX12_here_24 (by decide) ?_
      refine V_idiv (pc := 26) dX12_here_26 (by decide) ?_
      refine V_iload_n (pc := 27) 2 dX12_here_27 rfl rfl ?_
      refine V_bipush (pc := 28) (x := 100) dX12_here_28 (by decide) ?_
      refine V_idiv (pc := 30) dX12_here_30 (by decide) ?_
      refine V_icmp_eq (pc := 31) (tgt := 42) dX12_here_31 (by decide) (fun c9 => ?_) (fun c9 => ?_)
      · have h := ite_p c9 h
        refine V_iload_n (pc := 42) 0 dX12_here_42 rfl rfl ?_
        refine V_iload_n (pc := 43) 2 dX12_here_43 rfl rfl ?_
        refine V_isub (pc := 44) dX12_here_44 ?_
        cases h
        exact V_ret (pc := 45) dX12_here_45 ⟨rfl, _, rfl⟩ ⟨rfl, rfl, rfl⟩
      · have h := ite_n c9 h
        refine V_aload_n (pc := 34) 1 dX12_here_34 rfl rfl ?_
        refine V_iconst (pc := 35) (x := 2) dX12_here_35 (by decide) ?_
        refine V_cV1 (pc := 36) dX12_here_36 kw1399 calX12_errs kw1401 ks61 (L11_0 H0) rfl (by decide) (Nat.le_of_ble_eq_true rfl) (ctX12_errs H0) ?_
        refine V_goto (pc := 39) (tgt := 45) dX12_here_39 (by decide) ?_
        cases h
        exact V_ret (pc := 45) dX12_here_45 ⟨rfl, _, rfl⟩ ⟨rfl, rfl, rfl⟩
  · have h := ite_f c3 h
    refine V_aload_n (pc := 7) 0 dX12_here_7 rfl rfl ?_
    refine V_iconst (pc := 8) (x := 1) dX12_here_8 (by decide) ?_
    refine V_cV1 (pc := 9) dX12_here_9 kw1399 calX12_errs kw1401 ks61 (L11_0 H0) rfl (by decide) (Nat.le_of_ble_eq_true rfl) (ctX12_errs H0) ?_
    cases h
    exact V_ret (pc := 12) dX12_here_12 ⟨rfl, _, rfl⟩ ⟨rfl, rfl, rfl⟩
theorem calX12_passesOne : Cal yX12_passesOne cX12_passesOne 3 (some .int) 1 := ⟨kw1454, kw11, by decide +kernel⟩
theorem ctX12_passesOne {G : Gl} {σ : Sg} {d : Dt} {r0 : Nat} {v1 : Int32} {rr : Int32 × Dt} (H0 : L11 σ r0) (h : mX12_passesOne r0 v1 d = some rr) : CTv G yX12_passesOne cX12_passesOne 3 (some .int) 9 [.ref (gB G + r0), .int v1] σ d [.int rr.1] rr.2 := by
  refine CT_of pn_RX12 (Nat.le_of_ble_eq_true rfl) ?_
  rw [mX12_passesOne] at h
  refine V_aload_n (pc := 0) 0 dX12_passesOne_0 rfl rfl ?_
  refine V_iload_n (pc := 1) 1 dX12_passesOne_1 rfl rfl ?_
  obtain ⟨x2, h1, h⟩ := bnd h
  refine V_cV1 (pc := 2) dX12_passesOne_2 kw1455 calX12_here kw1457 ks72 (L11_0 H0) rfl (by decide) (Nat.le_of_ble_eq_true rfl) (ctX12_here H0 h1) ?_
  refine V_istore_n (pc := 5) (lv1 := [(2, _), (0, _), (1, _)]) dX12_passesOne_5 rfl (by decide) rfl ?_
  refine V_iload_n (pc := 6) 0 dX12_passesOne_6 rfl rfl ?_
  refine V_iconst (pc := 7) (x := (-1)) dX12_passesOne_7 (by decide) ?_
  refine V_icmp_eq (pc := 8) (tgt := 15) dX12_passesOne_8 (by decide) (fun c3 => ?_) (fun c3 => ?_)
  · have h := ite_p c3 h
    refine V_iload_n (pc := 15) 0 dX12_passesOne_15 rfl rfl ?_
    cases h
    exact V_ret (pc := 16) dX12_passesOne_16 ⟨rfl, _, rfl⟩ ⟨rfl, rfl, rfl⟩
  · have h := ite_n c3 h
    refine V_aload_n (pc := 11) 1 dX12_passesOne_11 rfl rfl ?_
    obtain ⟨x5, h4, h⟩ := bnd h
    refine V_cV0 (pc := 12) dX12_passesOne_12 kw1376 calX12_goesOn kw1378 ks56 (L11_0 H0) rfl (by decide) (Nat.le_of_ble_eq_true rfl) (ctX12_goesOn H0 h4) ?_
    refine V_iload_n (pc := 15) 0 dX12_passesOne_15 rfl rfl ?_
    cases h
    exact V_ret (pc := 16) dX12_passesOne_16 ⟨rfl, _, rfl⟩ ⟨rfl, rfl, rfl⟩
theorem calX12_readSide : Cal yX12_readSide cX12_readSide 2 (some .int) 0 := ⟨kw1462, kw11, by decide +kernel⟩
theorem ctX12_readSide {G : Gl} {σ : Sg} {d : Dt} {r0 : Nat} {rr : Int32 × Dt} (H0 : L11 σ r0) (h : mX12_readSide r0 d = some rr) : CTv G yX12_readSide cX12_readSide 2 (some .int) 7 [.ref (gB G + r0)] σ d [.int rr.1] rr.2 := by
  refine CT_of pn_RX12 (Nat.le_of_ble_eq_true rfl) ?_
  rw [mX12_readSide] at h
  refine V_aload_n (pc := 0) 0 dX12_readSide_0 rfl rfl ?_
  refine V_ldcS (pc := 1) (i := 12) (tx := "up") dX12_readSide_1 (by decide) ?_
  obtain ⟨x2, h1, h⟩ := bnd h
  refine V_cV1 (pc := 3) dX12_readSide_3 kw1389 calX12_isWord kw1391 ks59 (L11_0 H0) rfl (by decide) (Nat.le_of_ble_eq_true rfl) (ctX12_isWord H0 (by decide) h1) ?_
  refine V_ifB_eq (pc := 6) (tgt := 13) dX12_readSide_6 (by decide) (fun c3 => ?_) (fun c3 => ?_)
  · have h := ite_f c3 h
    refine V_aload_n (pc := 13) 0 dX12_readSide_13 rfl rfl ?_
    refine V_ldcS (pc := 14) (i := 13) (tx := "right") dX12_readSide_14 (by decide) ?_
    obtain ⟨x5, h4, h⟩ := bnd h
    refine V_cV1 (pc := 16) dX12_readSide_16 kw1389 calX12_isWord kw1391 ks59 (L11_0 H0) rfl (by decide) (Nat.le_of_ble_eq_true rfl) (ctX12_isWord H0 (by decide) h4) ?_
    refine V_ifB_eq (pc := 19) (tgt := 26) dX12_readSide_19 (by decide) (fun c6 => ?_) (fun c6 => ?_)
    · have h := ite_f c6 h
      refine V_aload_n (pc := 26) 0 dX12_readSide_26 rfl rfl ?_
      refine V_ldcS (pc := 27) (i := 14) (tx := "down") dX12_readSide_27 (by decide) ?_
      obtain ⟨x8, h7, h⟩ := bnd h
      refine V_cV1 (pc := 29) dX12_readSide_29 kw1389 calX12_isWord kw1391 ks59 (L11_0 H0) rfl (by decide) (Nat.le_of_ble_eq_true rfl) (ctX12_isWord H0 (by decide) h7) ?_
      refine V_ifB_eq (pc := 32) (tgt := 39) dX12_readSide_32 (by decide) (fun c9 => ?_) (fun c9 => ?_)
      · have h := ite_f c9 h
        refine V_aload_n (pc := 39) 0 dX12_readSide_39 rfl rfl ?_
        refine V_ldcS (pc := 40) (i := 15) (tx := "left") dX12_readSide_40 (by decide) ?_
        obtain ⟨x11, h10, h⟩ := bnd h
        refine V_cV1 (pc := 42) dX12_readSide_42 kw1389 calX12_isWord kw1391 ks59 (L11_0 H0) rfl (by decide) (Nat.le_of_ble_eq_true rfl) (ctX12_isWord H0 (by decide) h10) ?_
        refine V_ifB_eq (pc := 45) (tgt := 52) dX12_readSide_45 (by decide) (fun c12 => ?_) (fun c12 => ?_)
        · have h := ite_f c12 h
          refine V_aload_n (pc := 52) 0 dX12_readSide_52 rfl rfl ?_
          refine V_iconst (pc := 53) (x := 1) dX12_readSide_53 (by decide) ?_
          refine V_cV1 (pc := 54) dX12_readSide_54 kw1399 calX12_errs kw1401 ks61 (L11_0 H0) rfl (by decide) (Nat.le_of_ble_eq_true rfl) (ctX12_errs H0) ?_
          refine V_istore_n (pc := 57) (lv1 := [(1, _), (0, _)]) dX12_readSide_57 rfl (by decide) rfl ?_
          refine V_iload_n (pc := 58) 0 dX12_readSide_58 rfl rfl ?_
          refine V_iconst (pc := 59) (x := (-1)) dX12_readSide_59 (by decide) ?_
          refine V_icmp_eq (pc := 60) (tgt := 67) dX12_readSide_60 (by decide) (fun c15 => ?_) (fun c15 => ?_)
          · have h := ite_p c15 h
            refine V_iload_n (pc := 67) 0 dX12_readSide_67 rfl rfl ?_
            cases h
            exact V_ret (pc := 68) dX12_readSide_68 ⟨rfl, _, rfl⟩ ⟨rfl, rfl, rfl⟩
          · have h := ite_n c15 h
            refine V_aload_n (pc := 63) 1 dX12_readSide_63 rfl rfl ?_
            obtain ⟨x17, h16, h⟩ := bnd h
            refine V_cV0 (pc := 64) dX12_readSide_64 kw1376 calX12_goesOn kw1378 ks56 (L11_0 H0) rfl (by decide) (Nat.le_of_ble_eq_true rfl) (ctX12_goesOn H0 h16) ?_
            refine V_iload_n (pc := 67) 0 dX12_readSide_67 rfl rfl ?_
            cases h
            exact V_ret (pc := 68) dX12_readSide_68 ⟨rfl, _, rfl⟩ ⟨rfl, rfl, rfl⟩
        · have h := ite_p c12 h
          refine V_iconst (pc := 48) (x := 3) dX12_readSide_48 (by decide) ?_
          refine V_goto (pc := 49) (tgt := 57) dX12_readSide_49 (by decide) ?_
          refine V_istore_n (pc := 57) (lv1 := [(1, _), (0, _)]) dX12_readSide_57 rfl (by decide) rfl ?_
          refine V_iload_n (pc := 58) 0 dX12_readSide_58 rfl rfl ?_
          refine V_iconst (pc := 59) (x := (-1)) dX12_readSide_59 (by decide) ?_
          refine V_icmp_eq (pc := 60) (tgt := 67) dX12_readSide_60 (by decide) (fun c18 => ?_) (fun c18 => ?_)
          · have h := ite_p c18 h
            refine V_iload_n (pc := 67) 0 dX12_readSide_67 rfl rfl ?_
            cases h
            exact V_ret (pc := 68) dX12_readSide_68 ⟨rfl, _, rfl⟩ ⟨rfl, rfl, rfl⟩
          · have h := ite_n c18 h
            refine V_aload_n (pc := 63) 1 dX12_readSide_63 rfl rfl ?_
            obtain ⟨x20, h19, h⟩ := bnd h
            refine V_cV0 (pc := 64) dX12_readSide_64 kw1376 calX12_goesOn kw1378 ks56 (L11_0 H0) rfl (by decide) (Nat.le_of_ble_eq_true rfl) (ctX12_goesOn H0 h19) ?_
            refine V_iload_n (pc := 67) 0 dX12_readSide_67 rfl rfl ?_
            cases h
            exact V_ret (pc := 68) dX12_readSide_68 ⟨rfl, _, rfl⟩ ⟨rfl, rfl, rfl⟩
      · have h := ite_p c9 h
        refine V_iconst (pc := 35) (x := 2) dX12_readSide_35 (by decide) ?_
        refine V_goto (pc := 36) (tgt := 57) dX12_readSide_36 (by decide) ?_
        refine V_istore_n (pc := 57) (lv1 := [(1, _), (0, _)]) dX12_readSide_57 rfl (by decide) rfl ?_
        refine V_iload_n (pc := 58) 0 dX12_readSide_58 rfl rfl ?_
        refine V_iconst (pc := 59) (x := (-1)) dX12_readSide_59 (by decide) ?_
        refine V_icmp_eq (pc := 60) (tgt := 67) dX12_readSide_60 (by decide) (fun c21 => ?_) (fun c21 => ?_)
        · have h := ite_p c21 h
          refine V_iload_n (pc := 67) 0 dX12_readSide_67 rfl rfl ?_
          cases h
          exact V_ret (pc := 68) dX12_readSide_68 ⟨rfl, _, rfl⟩ ⟨rfl, rfl, rfl⟩
        · have h := ite_n c21 h
          refine V_aload_n (pc := 63) 1 dX12_readSide_63 rfl rfl ?_
          obtain ⟨x23, h22, h⟩ := bnd h
          refine V_cV0 (pc := 64) dX12_readSide_64 kw1376 calX12_goesOn kw1378 ks56 (L11_0 H0) rfl (by decide) (Nat.le_of_ble_eq_true rfl) (ctX12_goesOn H0 h22) ?_
          refine V_iload_n (pc := 67) 0 dX12_readSide_67 rfl rfl ?_
          cases h
          exact V_ret (pc := 68) dX12_readSide_68 ⟨rfl, _, rfl⟩ ⟨rfl, rfl, rfl⟩
    · have h := ite_p c6 h
      refine V_iconst (pc := 22) (x := 1) dX12_readSide_22 (by decide) ?_
      refine V_goto (pc := 23) (tgt := 57) dX12_readSide_23 (by decide) ?_
      refine V_istore_n (pc := 57) (lv1 := [(1, _), (0, _)]) dX12_readSide_57 rfl (by decide) rfl ?_
      refine V_iload_n (pc := 58) 0 dX12_readSide_58 rfl rfl ?_
      refine V_iconst (pc := 59) (x := (-1)) dX12_readSide_59 (by decide) ?_
      refine V_icmp_eq (pc := 60) (tgt := 67) dX12_readSide_60 (by decide) (fun c24 => ?_) (fun c24 => ?_)
      · have h := ite_p c24 h
        refine V_iload_n (pc := 67) 0 dX12_readSide_67 rfl rfl ?_
        cases h
        exact V_ret (pc := 68) dX12_readSide_68 ⟨rfl, _, rfl⟩ ⟨rfl, rfl, rfl⟩
      · have h := ite_n c24 h
        refine V_aload_n (pc := 63) 1 dX12_readSide_63 rfl rfl ?_
        obtain ⟨x26, h25, h⟩ := bnd h
        refine V_cV0 (pc := 64) dX12_readSide_64 kw1376 calX12_goesOn kw1378 ks56 (L11_0 H0) rfl (by decide) (Nat.le_of_ble_eq_true rfl) (ctX12_goesOn H0 h25) ?_
        refine V_iload_n (pc := 67) 0 dX12_readSide_67 rfl rfl ?_
        cases h
        exact V_ret (pc := 68) dX12_readSide_68 ⟨rfl, _, rfl⟩ ⟨rfl, rfl, rfl⟩
  · have h := ite_p c3 h
    refine V_iconst (pc := 9) (x := 0) dX12_readSide_9 (by decide) ?_
    refine V_goto (pc := 10) (tgt := 57) dX12_readSide_10 (by decide) ?_
    refine V_istore_n (pc := 57) (lv1 := [(1, _), (0, _)]) dX12_readSide_57 rfl (by decide) rfl ?_
    refine V_iload_n (pc := 58) 0 dX12_readSide_58 rfl rfl ?_
    refine V_iconst (pc := 59) (x := (-1)) dX12_readSide_59 (by decide) ?_
    refine V_icmp_eq (pc := 60) (tgt := 67) dX12_readSide_60 (by decide) (fun c27 => ?_) (fun c27 => ?_)
    · have h := ite_p c27 h
      refine V_iload_n (pc := 67) 0 dX12_readSide_67 rfl rfl ?_
      cases h
      exact V_ret (pc := 68) dX12_readSide_68 ⟨rfl, _, rfl⟩ ⟨rfl, rfl, rfl⟩
    · have h := ite_n c27 h
      refine V_aload_n (pc := 63) 1 dX12_readSide_63 rfl rfl ?_
      obtain ⟨x29, h28, h⟩ := bnd h
      refine V_cV0 (pc := 64) dX12_readSide_64 kw1376 calX12_goesOn kw1378 ks56 (L11_0 H0) rfl (by decide) (Nat.le_of_ble_eq_true rfl) (ctX12_goesOn H0 h28) ?_
      refine V_iload_n (pc := 67) 0 dX12_readSide_67 rfl rfl ?_
      cases h
      exact V_ret (pc := 68) dX12_readSide_68 ⟨rfl, _, rfl⟩ ⟨rfl, rfl, rfl⟩
theorem calX12_tells : Cal yX12_tells cX12_tells 4 none 2 := ⟨kw1471, kw11, by decide +kernel⟩
theorem ctX12_tells {G : Gl} {σ : Sg} {d : Dt} {r0 : Nat} {v1 : Int64} {v3 : Int32} {rr : Dt} (H0 : L11 σ r0) (h : mX12_tells r0 v1 v3 d = some rr) : CTv G yX12_tells cX12_tells 4 none 0 [.ref (gB G + r0), .long v1, .int v3] σ d [] rr := by
  refine CT_of pn_RX12 (Nat.le_of_ble_eq_true rfl) ?_
  rw [mX12_tells] at h
  refine V_aload_n (pc := 0) 0 dX12_tells_0 rfl rfl ?_
  refine V_getR (pc := 1) (c := 11) (k := 11) dX12_tells_1 (by decide) (by decide) kw1254 rfl rfl (L11_0 H0) (L11_r11 H0) ?_
  refine V_aload_n (pc := 4) 0 dX12_tells_4 rfl rfl ?_
  refine V_getI (pc := 5) (c := 11) (k := 13) dX12_tells_5 (by decide) (by decide) kw1256 rfl rfl (L11_0 H0) ?_
  refine V_lload_n (pc := 8) 1 dX12_tells_8 rfl rfl ?_
  obtain ⟨b1, h⟩ := ite_o h
  refine V_last (pc := 9) dX12_tells_9 (L11_s11 H0) (inB_vp b1) ?_
  refine V_aload_n (pc := 10) 0 dX12_tells_10 rfl rfl ?_
  refine V_getR (pc := 11) (c := 11) (k := 12) dX12_tells_11 (by decide) (by decide) kw1255 rfl rfl (L11_0 H0) (L11_r12 H0) ?_
  refine V_aload_n (pc := 14) 0 dX12_tells_14 rfl rfl ?_
  refine V_getI (pc := 15) (c := 11) (k := 13) dX12_tells_15 (by decide) (by decide) kw1256 rfl rfl (L11_0 H0) ?_
  refine V_iload_n (pc := 18) 2 dX12_tells_18 rfl rfl ?_
  obtain ⟨b2, h⟩ := ite_o h
  refine V_iast (pc := 19) dX12_tells_19 (L11_s12 H0) (inB_vp b2) ?_
  refine V_aload_n (pc := 20) 0 dX12_tells_20 rfl rfl ?_
  refine V_dup (pc := 21) dX12_tells_21 rfl ?_
  refine V_getI (pc := 22) (c := 11) (k := 13) dX12_tells_22 (by decide) (by decide) kw1256 rfl rfl (L11_0 H0) ?_
  refine V_iconst (pc := 25) (x := 1) dX12_tells_25 (by decide) ?_
  refine V_iadd (pc := 26) dX12_tells_26 ?_
  refine V_putI (pc := 27) (c := 11) (k := 13) dX12_tells_27 (by decide) (by decide) kw1256 rfl rfl rfl ⟨rfl, rfl⟩ (L11_0 H0) ?_
  cases h
  exact V_ret (pc := 30) dX12_tells_30 ⟨rfl, rfl⟩ ⟨rfl, rfl, rfl⟩
theorem wX12_readNode_139 {G : Gl} {σ : Sg} {d : Dt} {r0 : Nat} {v1 : Int32} {v2 : Int64} {rr : Bool × Dt} (H0 : L11 σ r0) (h : mX12_readNode_139 r0 v1 v2 d = some rr) : V G yX12_readNode cX12_readNode 4 (some .boolean) 10 0 0 (PH [.int (b2i rr.1)] σ rr.2) 139 [(0, .ref (gB G + r0)), (1, .int v1), (2, .long v2)] [] σ d := by
  rw [mX12_readNode_139] at h
  refine V_aload_n (pc := 139) 0 dX12_readNode_139 rfl rfl ?_
  refine V_lload_n (pc := 140) 2 dX12_readNode_140 rfl rfl ?_
  refine V_iload_n (pc := 141) 1 dX12_readNode_141 rfl rfl ?_
  obtain ⟨x35, h34, h⟩ := bnd h
  refine V_cV2 (pc := 142) dX12_readNode_142 kw1468 calX12_tells kw1470 ks74 (L11_0 H0) rfl (by decide) (Nat.le_of_ble_eq_true rfl) (ctX12_tells H0 h34) ?_
  refine V_aload_n (pc := 145) 0 dX12_readNode_145 rfl rfl ?_
  refine V_getR (pc := 146) (c := 11) (k := 7) dX12_readNode_146 (by decide) (by decide) kw1250 rfl rfl (L11_0 H0) (L11_r7 H0) ?_
  refine V_iconst (pc := 149) (x := 2) dX12_readNode_149 (by decide) ?_
  refine V_dup2 (pc := 150) dX12_readNode_150 rfl rfl ?_
  obtain ⟨b36, h⟩ := ite_o h
  refine V_iald (pc := 151) dX12_readNode_151 (L11_s7 H0) (inB_vp b36) ?_
  refine V_iconst (pc := 152) (x := 1) dX12_readNode_152 (by decide) ?_
  refine V_iadd (pc := 153) dX12_readNode_153 ?_
  obtain ⟨b37, h⟩ := ite_o h
  refine V_iast (pc := 154) dX12_readNode_154 (L11_s7 H0) (inB_vp b37) ?_
  refine V_iconst (pc := 155) (x := 1) dX12_readNode_155 (by decide) ?_
  cases h
  exact V_ret (pc := 156) dX12_readNode_156 ⟨rfl, _, rfl, rfl⟩ ⟨rfl, rfl, rfl⟩
theorem wX12_readNode_19 {G : Gl} {σ : Sg} {d : Dt} {r0 : Nat} {v1 : Int32} {vs0 : Int32} {rs1 : Nat} {rr : Bool × Dt} (H0 : L11 σ r0) (Hs1 : L11 σ rs1) (h : mX12_readNode_19 r0 v1 vs0 rs1 d = some rr) : V G yX12_readNode cX12_readNode 4 (some .boolean) 10 0 0 (PH [.int (b2i rr.1)] σ rr.2) 19 [(0, .ref (gB G + r0)), (1, .int v1)] [.int vs0, .ref (gB G + rs1)] σ d := by
  rw [mX12_readNode_19] at h
  obtain ⟨x4, h3, h⟩ := bnd h
  refine V_cV1 (pc := 19) dX12_readNode_19 kw1422 calX12_begins kw1424 ks66 (L11_0 Hs1) rfl (by decide) (Nat.le_of_ble_eq_true rfl) (ctX12_begins Hs1 h3) ?_
  refine V_ifB_eq (pc := 22) (tgt := 32) dX12_readNode_22 (by decide) (fun c5 => ?_) (fun c5 => ?_)
  · have h := ite_f c5 h
    refine V_iconst (pc := 32) (x := 0) dX12_readNode_32 (by decide) ?_
    cases h
    exact V_ret (pc := 33) dX12_readNode_33 ⟨rfl, _, rfl, rfl⟩ ⟨rfl, rfl, rfl⟩
  · have h := ite_p c5 h
    refine V_aload_n (pc := 25) 0 dX12_readNode_25 rfl rfl ?_
    obtain ⟨x7, h6, h⟩ := bnd h
    refine V_cV0 (pc := 26) dX12_readNode_26 kw1426 calX12_passesNew kw1428 ks67 (L11_0 H0) rfl (by decide) (Nat.le_of_ble_eq_true rfl) (ctX12_passesNew H0 h6) ?_
    refine V_ifB_ne (pc := 29) (tgt := 34) dX12_readNode_29 (by decide) (fun c8 => ?_) (fun c8 => ?_)
    · have h := ite_p c8 h
      refine V_aload_n (pc := 34) 0 dX12_readNode_34 rfl rfl ?_
      refine V_getL (pc := 35) (c := 11) (k := 23) dX12_readNode_35 (by decide) (by decide) kw1266 rfl rfl (L11_0 H0) ?_
      refine V_lstore_n (pc := 38) (lv1 := [(2, _), (0, _), (1, _)]) dX12_readNode_38 rfl (by decide) rfl ?_
      refine V_aload_n (pc := 39) 1 dX12_readNode_39 rfl rfl ?_
      refine V_getR (pc := 40) (c := 11) (k := 7) dX12_readNode_40 (by decide) (by decide) kw1250 rfl rfl (L11_0 H0) (L11_r7 H0) ?_
      refine V_bipush (pc := 43) (x := 7) dX12_readNode_43 (by decide) ?_
      refine V_iload_n (pc := 45) 2 dX12_readNode_45 rfl rfl ?_
      refine V_iadd (pc := 46) dX12_readNode_46 ?_
      refine V_bipush (pc := 47) (x := (-2)) dX12_readNode_47 (by decide) ?_
      obtain ⟨b9, h⟩ := ite_o h
      refine V_iast (pc := 49) dX12_readNode_49 (L11_s7 H0) (inB_vp b9) ?_
      refine V_aload_n (pc := 50) 1 dX12_readNode_50 rfl rfl ?_
      refine V_getR (pc := 51) (c := 11) (k := 7) dX12_readNode_51 (by decide) (by decide) kw1250 rfl rfl (L11_0 H0) (L11_r7 H0) ?_
      refine V_bipush (pc := 54) (x := 21) dX12_readNode_54 (by decide) ?_
      refine V_iload_n (pc := 56) 2 dX12_readNode_56 rfl rfl ?_
      refine V_iadd (pc := 57) dX12_readNode_57 ?_
      refine V_iconst (pc := 58) (x := 0) dX12_readNode_58 (by decide) ?_
      obtain ⟨b10, h⟩ := ite_o h
      refine V_iast (pc := 59) dX12_readNode_59 (L11_s7 H0) (inB_vp b10) ?_
      refine V_iload_n (pc := 60) 2 dX12_readNode_60 rfl rfl ?_
      refine V_if_le (pc := 61) (tgt := 139) dX12_readNode_61 (by decide) (fun c11 => ?_) (fun c11 => ?_)
      · have h := ite_p c11 h
        exact V_sub [1, 2, 0] rfl (wX12_readNode_139 H0 h)
      · have h := ite_n c11 h
        refine V_aload_n (pc := 64) 1 dX12_readNode_64 rfl rfl ?_
        refine V_ldcS (pc := 65) (i := 6) (tx := "off") dX12_readNode_65 (by decide) ?_
        obtain ⟨x13, h12, h⟩ := bnd h
        refine V_cV1 (pc := 67) dX12_readNode_67 kw1389 calX12_isWord kw1391 ks59 (L11_0 H0) rfl (by decide) (Nat.le_of_ble_eq_true rfl) (ctX12_isWord H0 (by decide) h12) ?_
        refine V_ifB_ne (pc := 70) (tgt := 81) dX12_readNode_70 (by decide) (fun c14 => ?_) (fun c14 => ?_)
        · have h := ite_p c14 h
          refine V_aload_n (pc := 81) 1 dX12_readNode_81 rfl rfl ?_
          obtain ⟨x16, h15, h⟩ := bnd h
          refine V_cV0 (pc := 82) dX12_readNode_82 kw1376 calX12_goesOn kw1378 ks56 (L11_0 H0) rfl (by decide) (Nat.le_of_ble_eq_true rfl) (ctX12_goesOn H0 h15) ?_
          refine V_aload_n (pc := 85) 1 dX12_readNode_85 rfl rfl ?_
          refine V_bipush (pc := 86) (x := 7) dX12_readNode_86 (by decide) ?_
          refine V_iload_n (pc := 88) 2 dX12_readNode_88 rfl rfl ?_
          refine V_iadd (pc := 89) dX12_readNode_89 ?_
          refine V_aload_n (pc := 90) 1 dX12_readNode_90 rfl rfl ?_
          refine V_iconst (pc := 91) (x := 0) dX12_readNode_91 (by decide) ?_
          obtain ⟨x18, h17, h⟩ := bnd h
          refine V_cV1 (pc := 92) dX12_readNode_92 kw1451 calX12_passesOne kw1453 ks71 (L11_0 H0) rfl (by decide) (Nat.le_of_ble_eq_true rfl) (ctX12_passesOne H0 h17) ?_
          obtain ⟨x20, h19, h⟩ := bnd h
          refine V_cV2 (pc := 95) dX12_readNode_95 kw1412 calX12_lays kw1414 ks64 (L11_0 H0) rfl (by decide) (Nat.le_of_ble_eq_true rfl) (ctX12_lays H0 h19) ?_
          refine V_ifB_eq (pc := 98) (tgt := 137) dX12_readNode_98 (by decide) (fun c21 => ?_) (fun c21 => ?_)
          · have h := ite_f c21 h
            refine V_iconst (pc := 137) (x := 0) dX12_readNode_137 (by decide) ?_
            cases h
            exact V_ret (pc := 138) dX12_readNode_138 ⟨rfl, _, rfl, rfl⟩ ⟨rfl, rfl, rfl⟩
          · have h := ite_p c21 h
            refine V_aload_n (pc := 101) 1 dX12_readNode_101 rfl rfl ?_
            refine V_bipush (pc := 102) (x := 35) dX12_readNode_102 (by decide) ?_
            refine V_iload_n (pc := 104) 2 dX12_readNode_104 rfl rfl ?_
            refine V_iadd (pc := 105) dX12_readNode_105 ?_
            refine V_aload_n (pc := 106) 1 dX12_readNode_106 rfl rfl ?_
            obtain ⟨x23, h22, h⟩ := bnd h
            refine V_cV0 (pc := 107) dX12_readNode_107 kw1459 calX12_readSide kw1461 ks73 (L11_0 H0) rfl (by decide) (Nat.le_of_ble_eq_true rfl) (ctX12_readSide H0 h22) ?_
            obtain ⟨x25, h24, h⟩ := bnd h
            refine V_cV2 (pc := 110) dX12_readNode_110 kw1412 calX12_lays kw1414 ks64 (L11_0 H0) rfl (by decide) (Nat.le_of_ble_eq_true rfl) (ctX12_lays H0 h24) ?_
            refine V_ifB_eq (pc := 113) (tgt := 137) dX12_readNode_113 (by decide) (fun c26 => ?_) (fun c26 => ?_)
            · have h := ite_f c26 h
              refine V_iconst (pc := 137) (x := 0) dX12_readNode_137 (by decide) ?_
              cases h
              exact V_ret (pc := 138) dX12_readNode_138 ⟨rfl, _, rfl, rfl⟩ ⟨rfl, rfl, rfl⟩
            · have h := ite_p c26 h
              refine V_aload_n (pc := 116) 1 dX12_readNode_116 rfl rfl ?_
              refine V_bipush (pc := 117) (x := 21) dX12_readNode_117 (by decide) ?_
              refine V_iload_n (pc := 119) 2 dX12_readNode_119 rfl rfl ?_
              refine V_iadd (pc := 120) dX12_readNode_120 ?_
              refine V_aload_n (pc := 121) 1 dX12_readNode_121 rfl rfl ?_
              refine V_ldcS (pc := 122) (i := 16) (tx := "long") dX12_readNode_122 (by decide) ?_
              refine V_iconst (pc := 124) (x := 1) dX12_readNode_124 (by decide) ?_
              refine V_sipush (pc := 125) (x := 999) dX12_readNode_125 (by decide) ?_
              obtain ⟨x28, h27, h⟩ := bnd h
              refine V_cV3 (pc := 128) dX12_readNode_128 kw1404 calX12_after kw1406 ks62 (L11_0 H0) rfl (by decide) (Nat.le_of_ble_eq_true rfl) (ctX12_after H0 (by decide) h27) ?_
              obtain ⟨x30, h29, h⟩ := bnd h
              refine V_cV2 (pc := 131) dX12_readNode_131 kw1412 calX12_lays kw1414 ks64 (L11_0 H0) rfl (by decide) (Nat.le_of_ble_eq_true rfl) (ctX12_lays H0 h29) ?_
              refine V_ifB_ne (pc := 134) (tgt := 139) dX12_readNode_134 (by decide) (fun c31 => ?_) (fun c31 => ?_)
              · have h := ite_p c31 h
                exact V_sub [1, 2, 0] rfl (wX12_readNode_139 H0 h)
              · have h := ite_f c31 h
                refine V_iconst (pc := 137) (x := 0) dX12_readNode_137 (by decide) ?_
                cases h
                exact V_ret (pc := 138) dX12_readNode_138 ⟨rfl, _, rfl, rfl⟩ ⟨rfl, rfl, rfl⟩
        · have h := ite_f c14 h
          refine V_aload_n (pc := 73) 1 dX12_readNode_73 rfl rfl ?_
          refine V_iconst (pc := 74) (x := 1) dX12_readNode_74 (by decide) ?_
          refine V_cV1 (pc := 75) dX12_readNode_75 kw1399 calX12_errs kw1401 ks61 (L11_0 H0) rfl (by decide) (Nat.le_of_ble_eq_true rfl) (ctX12_errs H0) ?_
          refine V_pop (pc := 78) dX12_readNode_78 rfl ?_
          refine V_iconst (pc := 79) (x := 0) dX12_readNode_79 (by decide) ?_
          cases h
          exact V_ret (pc := 80) dX12_readNode_80 ⟨rfl, _, rfl, rfl⟩ ⟨rfl, rfl, rfl⟩
    · have h := ite_f c8 h
      refine V_iconst (pc := 32) (x := 0) dX12_readNode_32 (by decide) ?_
      cases h
      exact V_ret (pc := 33) dX12_readNode_33 ⟨rfl, _, rfl, rfl⟩ ⟨rfl, rfl, rfl⟩
theorem calX12_readNode : Cal yX12_readNode cX12_readNode 4 (some .boolean) 0 := ⟨kw1421, kw11, by decide +kernel⟩
theorem ctX12_readNode {G : Gl} {σ : Sg} {d : Dt} {r0 : Nat} {rr : Bool × Dt} (H0 : L11 σ r0) (h : mX12_readNode r0 d = some rr) : CTv G yX12_readNode cX12_readNode 4 (some .boolean) 10 [.ref (gB G + r0)] σ d [.int (b2i rr.1)] rr.2 := by
  refine CT_of pn_RX12 (Nat.le_of_ble_eq_true rfl) ?_
  rw [mX12_readNode] at h
  refine V_aload_n (pc := 0) 0 dX12_readNode_0 rfl rfl ?_
  refine V_getR (pc := 1) (c := 11) (k := 7) dX12_readNode_1 (by decide) (by decide) kw1250 rfl rfl (L11_0 H0) (L11_r7 H0) ?_
  refine V_iconst (pc := 4) (x := 2) dX12_readNode_4 (by decide) ?_
  obtain ⟨b1, h⟩ := ite_o h
  refine V_iald (pc := 5) dX12_readNode_5 (L11_s7 H0) (inB_vp b1) ?_
  refine V_istore_n (pc := 6) (lv1 := [(1, _), (0, _)]) dX12_readNode_6 rfl (by decide) rfl ?_
  refine V_aload_n (pc := 7) 1 dX12_readNode_7 rfl rfl ?_
  refine V_iload_n (pc := 8) 0 dX12_readNode_8 rfl rfl ?_
  refine V_bipush (pc := 9) (x := 14) dX12_readNode_9 (by decide) ?_
  refine V_icmp_ge (pc := 11) (tgt := 18) dX12_readNode_11 (by decide) (fun c2 => ?_) (fun c2 => ?_)
  · have h := ite_p c2 h
    refine V_iconst (pc := 18) (x := 0) dX12_readNode_18 (by decide) ?_
    exact V_sub [1, 0] rfl (wX12_readNode_19 H0 H0 h)
  · have h := ite_n c2 h
    refine V_iconst (pc := 14) (x := 1) dX12_readNode_14 (by decide) ?_
    refine V_goto (pc := 15) (tgt := 19) dX12_readNode_15 (by decide) ?_
    exact V_sub [1, 0] rfl (wX12_readNode_19 H0 H0 h)
theorem wX12_readOption_18 {G : Gl} {σ : Sg} {d : Dt} {r0 : Nat} {v1 : Int32} {vs0 : Int32} {rs1 : Nat} {rr : Bool × Dt} (H0 : L11 σ r0) (Hs1 : L11 σ rs1) (h : mX12_readOption_18 r0 v1 vs0 rs1 d = some rr) : V G yX12_readOption cX12_readOption 2 (some .boolean) 9 0 0 (PH [.int (b2i rr.1)] σ rr.2) 18 [(0, .ref (gB G + r0)), (1, .int v1)] [.int vs0, .ref (gB G + rs1)] σ d := by
  rw [mX12_readOption_18] at h
  obtain ⟨x4, h3, h⟩ := bnd h
  refine V_cV1 (pc := 18) dX12_readOption_18 kw1422 calX12_begins kw1424 ks66 (L11_0 Hs1) rfl (by decide) (Nat.le_of_ble_eq_true rfl) (ctX12_begins Hs1 h3) ?_
  refine V_ifB_eq (pc := 21) (tgt := 31) dX12_readOption_21 (by decide) (fun c5 => ?_) (fun c5 => ?_)
  · have h := ite_f c5 h
    refine V_iconst (pc := 31) (x := 0) dX12_readOption_31 (by decide) ?_
    cases h
    exact V_ret (pc := 32) dX12_readOption_32 ⟨rfl, _, rfl, rfl⟩ ⟨rfl, rfl, rfl⟩
  · have h := ite_p c5 h
    refine V_aload_n (pc := 24) 0 dX12_readOption_24 rfl rfl ?_
    obtain ⟨x7, h6, h⟩ := bnd h
    refine V_cV0 (pc := 25) dX12_readOption_25 kw1426 calX12_passesNew kw1428 ks67 (L11_0 H0) rfl (by decide) (Nat.le_of_ble_eq_true rfl) (ctX12_passesNew H0 h6) ?_
    refine V_ifB_ne (pc := 28) (tgt := 33) dX12_readOption_28 (by decide) (fun c8 => ?_) (fun c8 => ?_)
    · have h := ite_p c8 h
      refine V_aload_n (pc := 33) 0 dX12_readOption_33 rfl rfl ?_
      refine V_aload_n (pc := 34) 0 dX12_readOption_34 rfl rfl ?_
      refine V_getL (pc := 35) (c := 11) (k := 23) dX12_readOption_35 (by decide) (by decide) kw1266 rfl rfl (L11_0 H0) ?_
      refine V_bipush (pc := 38) (x := 100) dX12_readOption_38 (by decide) ?_
      refine V_iload_n (pc := 40) 1 dX12_readOption_40 rfl rfl ?_
      refine V_iadd (pc := 41) dX12_readOption_41 ?_
      obtain ⟨x10, h9, h⟩ := bnd h
      refine V_cV2 (pc := 42) dX12_readOption_42 kw1468 calX12_tells kw1470 ks74 (L11_0 H0) rfl (by decide) (Nat.le_of_ble_eq_true rfl) (ctX12_tells H0 h9) ?_
      refine V_aload_n (pc := 45) 0 dX12_readOption_45 rfl rfl ?_
      refine V_getR (pc := 46) (c := 11) (k := 7) dX12_readOption_46 (by decide) (by decide) kw1250 rfl rfl (L11_0 H0) (L11_r7 H0) ?_
      refine V_iconst (pc := 49) (x := 3) dX12_readOption_49 (by decide) ?_
      refine V_dup2 (pc := 50) dX12_readOption_50 rfl rfl ?_
      obtain ⟨b11, h⟩ := ite_o h
      refine V_iald (pc := 51) dX12_readOption_51 (L11_s7 H0) (inB_vp b11) ?_
      refine V_iconst (pc := 52) (x := 1) dX12_readOption_52 (by decide) ?_
      refine V_iadd (pc := 53) dX12_readOption_53 ?_
      obtain ⟨b12, h⟩ := ite_o h
      refine V_iast (pc := 54) dX12_readOption_54 (L11_s7 H0) (inB_vp b12) ?_
      refine V_iconst (pc := 55) (x := 1) dX12_readOption_55 (by decide) ?_
      cases h
      exact V_ret (pc := 56) dX12_readOption_56 ⟨rfl, _, rfl, rfl⟩ ⟨rfl, rfl, rfl⟩
    · have h := ite_f c8 h
      refine V_iconst (pc := 31) (x := 0) dX12_readOption_31 (by decide) ?_
      cases h
      exact V_ret (pc := 32) dX12_readOption_32 ⟨rfl, _, rfl, rfl⟩ ⟨rfl, rfl, rfl⟩
theorem calX12_readOption : Cal yX12_readOption cX12_readOption 2 (some .boolean) 0 := ⟨kw1475, kw11, by decide +kernel⟩
theorem ctX12_readOption {G : Gl} {σ : Sg} {d : Dt} {r0 : Nat} {rr : Bool × Dt} (H0 : L11 σ r0) (h : mX12_readOption r0 d = some rr) : CTv G yX12_readOption cX12_readOption 2 (some .boolean) 9 [.ref (gB G + r0)] σ d [.int (b2i rr.1)] rr.2 := by
  refine CT_of pn_RX12 (Nat.le_of_ble_eq_true rfl) ?_
  rw [mX12_readOption] at h
  refine V_aload_n (pc := 0) 0 dX12_readOption_0 rfl rfl ?_
  refine V_getR (pc := 1) (c := 11) (k := 7) dX12_readOption_1 (by decide) (by decide) kw1250 rfl rfl (L11_0 H0) (L11_r7 H0) ?_
  refine V_iconst (pc := 4) (x := 3) dX12_readOption_4 (by decide) ?_
  obtain ⟨b1, h⟩ := ite_o h
  refine V_iald (pc := 5) dX12_readOption_5 (L11_s7 H0) (inB_vp b1) ?_
  refine V_istore_n (pc := 6) (lv1 := [(1, _), (0, _)]) dX12_readOption_6 rfl (by decide) rfl ?_
  refine V_aload_n (pc := 7) 1 dX12_readOption_7 rfl rfl ?_
  refine V_iload_n (pc := 8) 0 dX12_readOption_8 rfl rfl ?_
  refine V_iconst (pc := 9) (x := 4) dX12_readOption_9 (by decide) ?_
  refine V_icmp_ge (pc := 10) (tgt := 17) dX12_readOption_10 (by decide) (fun c2 => ?_) (fun c2 => ?_)
  · have h := ite_p c2 h
    refine V_iconst (pc := 17) (x := 0) dX12_readOption_17 (by decide) ?_
    exact V_sub [1, 0] rfl (wX12_readOption_18 H0 H0 h)
  · have h := ite_n c2 h
    refine V_iconst (pc := 13) (x := 1) dX12_readOption_13 (by decide) ?_
    refine V_goto (pc := 14) (tgt := 18) dX12_readOption_14 (by decide) ?_
    exact V_sub [1, 0] rfl (wX12_readOption_18 H0 H0 h)
theorem wX12_readWhen_59 {G : Gl} {σ : Sg} {d : Dt} {r0 : Nat} {v1 : Int32} {vs0 : Int32} {vs1 : Int32} {rs2 : Nat} {rr : Bool × Dt} (H0 : L11 σ r0) (Hs2 : σ.2.1 rs2 = some (1, 267)) (h : mX12_readWhen_59 r0 v1 vs0 vs1 rs2 d = some rr) : V G yX12_readWhen cX12_readWhen 2 (some .boolean) 10 0 0 (PH [.int (b2i rr.1)] σ rr.2) 59 [(0, .ref (gB G + r0)), (1, .int v1)] [.int vs0, .int vs1, .ref (gB G + rs2)] σ d := by
  rw [mX12_readWhen_59] at h
  obtain ⟨b12, h⟩ := ite_o h
  refine V_iast (pc := 59) dX12_readWhen_59 Hs2 (inB_vp b12) ?_
  refine V_aload_n (pc := 60) 0 dX12_readWhen_60 rfl rfl ?_
  obtain ⟨x14, h13, h⟩ := bnd h
  refine V_cV0 (pc := 61) dX12_readWhen_61 kw1376 calX12_goesOn kw1378 ks56 (L11_0 H0) rfl (by decide) (Nat.le_of_ble_eq_true rfl) (ctX12_goesOn H0 h13) ?_
  refine V_aload_n (pc := 64) 0 dX12_readWhen_64 rfl rfl ?_
  refine V_iload_n (pc := 65) 1 dX12_readWhen_65 rfl rfl ?_
  refine V_aload_n (pc := 66) 0 dX12_readWhen_66 rfl rfl ?_
  refine V_bipush (pc := 67) (x := 100) dX12_readWhen_67 (by decide) ?_
  obtain ⟨x16, h15, h⟩ := bnd h
  refine V_cV1 (pc := 69) dX12_readWhen_69 kw1451 calX12_passesOne kw1453 ks71 (L11_0 H0) rfl (by decide) (Nat.le_of_ble_eq_true rfl) (ctX12_passesOne H0 h15) ?_
  obtain ⟨x18, h17, h⟩ := bnd h
  refine V_cV2 (pc := 72) dX12_readWhen_72 kw1412 calX12_lays kw1414 ks64 (L11_0 H0) rfl (by decide) (Nat.le_of_ble_eq_true rfl) (ctX12_lays H0 h17) ?_
  cases h
  exact V_ret (pc := 75) dX12_readWhen_75 ⟨rfl, _, rfl, b2i_nar _⟩ ⟨rfl, rfl, rfl⟩
theorem wX12_readWhen_38 {G : Gl} {σ : Sg} {d : Dt} {r0 : Nat} {v1 : Int32} {rr : Bool × Dt} (H0 : L11 σ r0) (h : mX12_readWhen_38 r0 v1 d = some rr) : V G yX12_readWhen cX12_readWhen 2 (some .boolean) 10 0 0 (PH [.int (b2i rr.1)] σ rr.2) 38 [(0, .ref (gB G + r0)), (1, .int v1)] [] σ d := by
  rw [mX12_readWhen_38] at h
  refine V_aload_n (pc := 38) 0 dX12_readWhen_38 rfl rfl ?_
  refine V_getR (pc := 39) (c := 11) (k := 7) dX12_readWhen_39 (by decide) (by decide) kw1250 rfl rfl (L11_0 H0) (L11_r7 H0) ?_
  refine V_iload_n (pc := 42) 1 dX12_readWhen_42 rfl rfl ?_
  refine V_iconst (pc := 43) (x := 1) dX12_readWhen_43 (by decide) ?_
  refine V_iadd (pc := 44) dX12_readWhen_44 ?_
  refine V_aload_n (pc := 45) 0 dX12_readWhen_45 rfl rfl ?_
  refine V_ldcS (pc := 46) (i := 7) (tx := "with") dX12_readWhen_46 (by decide) ?_
  obtain ⟨x10, h9, h⟩ := bnd h
  refine V_cV1 (pc := 48) dX12_readWhen_48 kw1389 calX12_isWord kw1391 ks59 (L11_0 H0) rfl (by decide) (Nat.le_of_ble_eq_true rfl) (ctX12_isWord H0 (by decide) h9) ?_
  refine V_ifB_eq (pc := 51) (tgt := 58) dX12_readWhen_51 (by decide) (fun c11 => ?_) (fun c11 => ?_)
  · have h := ite_f c11 h
    refine V_iconst (pc := 58) (x := 0) dX12_readWhen_58 (by decide) ?_
    exact V_sub [0, 1] rfl (wX12_readWhen_59 H0 (L11_s7 H0) h)
  · have h := ite_p c11 h
    refine V_iconst (pc := 54) (x := 1) dX12_readWhen_54 (by decide) ?_
    refine V_goto (pc := 55) (tgt := 59) dX12_readWhen_55 (by decide) ?_
    exact V_sub [0, 1] rfl (wX12_readWhen_59 H0 (L11_s7 H0) h)
theorem calX12_readWhen : Cal yX12_readWhen cX12_readWhen 2 (some .boolean) 1 := ⟨kw1487, kw11, by decide +kernel⟩
theorem ctX12_readWhen {G : Gl} {σ : Sg} {d : Dt} {r0 : Nat} {v1 : Int32} {rr : Bool × Dt} (H0 : L11 σ r0) (h : mX12_readWhen r0 v1 d = some rr) : CTv G yX12_readWhen cX12_readWhen 2 (some .boolean) 10 [.ref (gB G + r0), .int v1] σ d [.int (b2i rr.1)] rr.2 := by
  refine CT_of pn_RX12 (Nat.le_of_ble_eq_true rfl) ?_
  rw [mX12_readWhen] at h
  refine V_aload_n (pc := 0) 0 dX12_readWhen_0 rfl rfl ?_
  refine V_getR (pc := 1) (c := 11) (k := 7) dX12_readWhen_1 (by decide) (by decide) kw1250 rfl rfl (L11_0 H0) (L11_r7 H0) ?_
  refine V_iload_n (pc := 4) 1 dX12_readWhen_4 rfl rfl ?_
  refine V_bipush (pc := 5) (x := (-2)) dX12_readWhen_5 (by decide) ?_
  obtain ⟨b1, h⟩ := ite_o h
  refine V_iast (pc := 7) dX12_readWhen_7 (L11_s7 H0) (inB_vp b1) ?_
  refine V_aload_n (pc := 8) 0 dX12_readWhen_8 rfl rfl ?_
  refine V_getR (pc := 9) (c := 11) (k := 7) dX12_readWhen_9 (by decide) (by decide) kw1250 rfl rfl (L11_0 H0) (L11_r7 H0) ?_
  refine V_iload_n (pc := 12) 1 dX12_readWhen_12 rfl rfl ?_
  refine V_iconst (pc := 13) (x := 1) dX12_readWhen_13 (by decide) ?_
  refine V_iadd (pc := 14) dX12_readWhen_14 ?_
  refine V_bipush (pc := 15) (x := (-2)) dX12_readWhen_15 (by decide) ?_
  obtain ⟨b2, h⟩ := ite_o h
  refine V_iast (pc := 17) dX12_readWhen_17 (L11_s7 H0) (inB_vp b2) ?_
  refine V_aload_n (pc := 18) 0 dX12_readWhen_18 rfl rfl ?_
  refine V_ldcS (pc := 19) (i := 7) (tx := "with") dX12_readWhen_19 (by decide) ?_
  obtain ⟨x4, h3, h⟩ := bnd h
  refine V_cV1 (pc := 21) dX12_readWhen_21 kw1389 calX12_isWord kw1391 ks59 (L11_0 H0) rfl (by decide) (Nat.le_of_ble_eq_true rfl) (ctX12_isWord H0 (by decide) h3) ?_
  refine V_ifB_ne (pc := 24) (tgt := 38) dX12_readWhen_24 (by decide) (fun c5 => ?_) (fun c5 => ?_)
  · have h := ite_p c5 h
    exact V_sub [0, 1] rfl (wX12_readWhen_38 H0 h)
  · have h := ite_f c5 h
    refine V_aload_n (pc := 27) 0 dX12_readWhen_27 rfl rfl ?_
    refine V_ldcS (pc := 28) (i := 8) (tx := "without") dX12_readWhen_28 (by decide) ?_
    obtain ⟨x7, h6, h⟩ := bnd h
    refine V_cV1 (pc := 30) dX12_readWhen_30 kw1389 calX12_isWord kw1391 ks59 (L11_0 H0) rfl (by decide) (Nat.le_of_ble_eq_true rfl) (ctX12_isWord H0 (by decide) h6) ?_
    refine V_ifB_ne (pc := 33) (tgt := 38) dX12_readWhen_33 (by decide) (fun c8 => ?_) (fun c8 => ?_)
    · have h := ite_p c8 h
      exact V_sub [0, 1] rfl (wX12_readWhen_38 H0 h)
    · have h := ite_f c8 h
      refine V_iconst (pc := 36) (x := 1) dX12_readWhen_36 (by decide) ?_
      cases h
      exact V_ret (pc := 37) dX12_readWhen_37 ⟨rfl, _, rfl, rfl⟩ ⟨rfl, rfl, rfl⟩
theorem wX12_readPlug_19 {G : Gl} {σ : Sg} {d : Dt} {r0 : Nat} {v1 : Int32} {vs0 : Int32} {rs1 : Nat} {rr : Bool × Dt} (H0 : L11 σ r0) (Hs1 : L11 σ rs1) (h : mX12_readPlug_19 r0 v1 vs0 rs1 d = some rr) : V G yX12_readPlug cX12_readPlug 5 (some .boolean) 11 0 0 (PH [.int (b2i rr.1)] σ rr.2) 19 [(0, .ref (gB G + r0)), (1, .int v1)] [.int vs0, .ref (gB G + rs1)] σ d := by
  rw [mX12_readPlug_19] at h
  obtain ⟨x4, h3, h⟩ := bnd h
  refine V_cV1 (pc := 19) dX12_readPlug_19 kw1422 calX12_begins kw1424 ks66 (L11_0 Hs1) rfl (by decide) (Nat.le_of_ble_eq_true rfl) (ctX12_begins Hs1 h3) ?_
  refine V_ifB_eq (pc := 22) (tgt := 32) dX12_readPlug_22 (by decide) (fun c5 => ?_) (fun c5 => ?_)
  · have h := ite_f c5 h
    refine V_iconst (pc := 32) (x := 0) dX12_readPlug_32 (by decide) ?_
    cases h
    exact V_ret (pc := 33) dX12_readPlug_33 ⟨rfl, _, rfl, rfl⟩ ⟨rfl, rfl, rfl⟩
  · have h := ite_p c5 h
    refine V_aload_n (pc := 25) 0 dX12_readPlug_25 rfl rfl ?_
    obtain ⟨x7, h6, h⟩ := bnd h
    refine V_cV0 (pc := 26) dX12_readPlug_26 kw1426 calX12_passesNew kw1428 ks67 (L11_0 H0) rfl (by decide) (Nat.le_of_ble_eq_true rfl) (ctX12_passesNew H0 h6) ?_
    refine V_ifB_ne (pc := 29) (tgt := 34) dX12_readPlug_29 (by decide) (fun c8 => ?_) (fun c8 => ?_)
    · have h := ite_p c8 h
      refine V_aload_n (pc := 34) 0 dX12_readPlug_34 rfl rfl ?_
      refine V_getL (pc := 35) (c := 11) (k := 23) dX12_readPlug_35 (by decide) (by decide) kw1266 rfl rfl (L11_0 H0) ?_
      refine V_lstore_n (pc := 38) (lv1 := [(2, _), (0, _), (1, _)]) dX12_readPlug_38 rfl (by decide) rfl ?_
      refine V_bipush (pc := 39) (x := 49) dX12_readPlug_39 (by decide) ?_
      refine V_bipush (pc := 41) (x := 6) dX12_readPlug_41 (by decide) ?_
      refine V_iload_n (pc := 43) 2 dX12_readPlug_43 rfl rfl ?_
      refine V_imul (pc := 44) dX12_readPlug_44 ?_
      refine V_iadd (pc := 45) dX12_readPlug_45 ?_
      refine V_istore (pc := 46) (lv1 := [(4, _), (2, _), (0, _), (1, _)]) dX12_readPlug_46 (by decide) rfl ?_
      refine V_aload_n (pc := 48) 2 dX12_readPlug_48 rfl rfl ?_
      refine V_ldcS (pc := 49) (i := 17) (tx := "on") dX12_readPlug_49 (by decide) ?_
      obtain ⟨x10, h9, h⟩ := bnd h
      refine V_cV1 (pc := 51) dX12_readPlug_51 kw1389 calX12_isWord kw1391 ks59 (L11_0 H0) rfl (by decide) (Nat.le_of_ble_eq_true rfl) (ctX12_isWord H0 (by decide) h9) ?_
      refine V_ifB_ne (pc := 54) (tgt := 65) dX12_readPlug_54 (by decide) (fun c11 => ?_) (fun c11 => ?_)
      · have h := ite_p c11 h
        refine V_aload_n (pc := 65) 2 dX12_readPlug_65 rfl rfl ?_
        obtain ⟨x13, h12, h⟩ := bnd h
        refine V_cV0 (pc := 66) dX12_readPlug_66 kw1376 calX12_goesOn kw1378 ks56 (L11_0 H0) rfl (by decide) (Nat.le_of_ble_eq_true rfl) (ctX12_goesOn H0 h12) ?_
        refine V_aload_n (pc := 69) 2 dX12_readPlug_69 rfl rfl ?_
        refine V_iload (pc := 70) 0 dX12_readPlug_70 rfl ?_
        refine V_iconst (pc := 72) (x := 0) dX12_readPlug_72 (by decide) ?_
        refine V_iadd (pc := 73) dX12_readPlug_73 ?_
        refine V_aload_n (pc := 74) 2 dX12_readPlug_74 rfl rfl ?_
        refine V_iconst (pc := 75) (x := 0) dX12_readPlug_75 (by decide) ?_
        obtain ⟨x15, h14, h⟩ := bnd h
        refine V_cV1 (pc := 76) dX12_readPlug_76 kw1451 calX12_passesOne kw1453 ks71 (L11_0 H0) rfl (by decide) (Nat.le_of_ble_eq_true rfl) (ctX12_passesOne H0 h14) ?_
        obtain ⟨x17, h16, h⟩ := bnd h
        refine V_cV2 (pc := 79) dX12_readPlug_79 kw1412 calX12_lays kw1414 ks64 (L11_0 H0) rfl (by decide) (Nat.le_of_ble_eq_true rfl) (ctX12_lays H0 h16) ?_
        refine V_ifB_eq (pc := 82) (tgt := 164) dX12_readPlug_82 (by decide) (fun c18 => ?_) (fun c18 => ?_)
        · have h := ite_f c18 h
          refine V_iconst (pc := 164) (x := 0) dX12_readPlug_164 (by decide) ?_
          cases h
          exact V_ret (pc := 165) dX12_readPlug_165 ⟨rfl, _, rfl, rfl⟩ ⟨rfl, rfl, rfl⟩
        · have h := ite_p c18 h
          refine V_aload_n (pc := 85) 2 dX12_readPlug_85 rfl rfl ?_
          refine V_iload (pc := 86) 0 dX12_readPlug_86 rfl ?_
          refine V_iconst (pc := 88) (x := 1) dX12_readPlug_88 (by decide) ?_
          refine V_iadd (pc := 89) dX12_readPlug_89 ?_
          refine V_aload_n (pc := 90) 2 dX12_readPlug_90 rfl rfl ?_
          refine V_ldcS (pc := 91) (i := 18) (tx := "holes") dX12_readPlug_91 (by decide) ?_
          refine V_iconst (pc := 93) (x := 1) dX12_readPlug_93 (by decide) ?_
          refine V_bipush (pc := 94) (x := 12) dX12_readPlug_94 (by decide) ?_
          obtain ⟨x20, h19, h⟩ := bnd h
          refine V_cV3 (pc := 96) dX12_readPlug_96 kw1404 calX12_after kw1406 ks62 (L11_0 H0) rfl (by decide) (Nat.le_of_ble_eq_true rfl) (ctX12_after H0 (by decide) h19) ?_
          obtain ⟨x22, h21, h⟩ := bnd h
          refine V_cV2 (pc := 99) dX12_readPlug_99 kw1412 calX12_lays kw1414 ks64 (L11_0 H0) rfl (by decide) (Nat.le_of_ble_eq_true rfl) (ctX12_lays H0 h21) ?_
          refine V_ifB_eq (pc := 102) (tgt := 164) dX12_readPlug_102 (by decide) (fun c23 => ?_) (fun c23 => ?_)
          · have h := ite_f c23 h
            refine V_iconst (pc := 164) (x := 0) dX12_readPlug_164 (by decide) ?_
            cases h
            exact V_ret (pc := 165) dX12_readPlug_165 ⟨rfl, _, rfl, rfl⟩ ⟨rfl, rfl, rfl⟩
          · have h := ite_p c23 h
            refine V_aload_n (pc := 105) 2 dX12_readPlug_105 rfl rfl ?_
            refine V_iload (pc := 106) 0 dX12_readPlug_106 rfl ?_
            refine V_iconst (pc := 108) (x := 2) dX12_readPlug_108 (by decide) ?_
            refine V_iadd (pc := 109) dX12_readPlug_109 ?_
            refine V_aload_n (pc := 110) 2 dX12_readPlug_110 rfl rfl ?_
            refine V_ldcS (pc := 111) (i := 19) (tx := "gauge") dX12_readPlug_111 (by decide) ?_
            refine V_iconst (pc := 113) (x := 1) dX12_readPlug_113 (by decide) ?_
            refine V_bipush (pc := 114) (x := 9) dX12_readPlug_114 (by decide) ?_
            obtain ⟨x25, h24, h⟩ := bnd h
            refine V_cV3 (pc := 116) dX12_readPlug_116 kw1404 calX12_after kw1406 ks62 (L11_0 H0) rfl (by decide) (Nat.le_of_ble_eq_true rfl) (ctX12_after H0 (by decide) h24) ?_
            obtain ⟨x27, h26, h⟩ := bnd h
            refine V_cV2 (pc := 119) dX12_readPlug_119 kw1412 calX12_lays kw1414 ks64 (L11_0 H0) rfl (by decide) (Nat.le_of_ble_eq_true rfl) (ctX12_lays H0 h26) ?_
            refine V_ifB_eq (pc := 122) (tgt := 164) dX12_readPlug_122 (by decide) (fun c28 => ?_) (fun c28 => ?_)
            · have h := ite_f c28 h
              refine V_iconst (pc := 164) (x := 0) dX12_readPlug_164 (by decide) ?_
              cases h
              exact V_ret (pc := 165) dX12_readPlug_165 ⟨rfl, _, rfl, rfl⟩ ⟨rfl, rfl, rfl⟩
            · have h := ite_p c28 h
              refine V_aload_n (pc := 125) 2 dX12_readPlug_125 rfl rfl ?_
              refine V_iload (pc := 126) 0 dX12_readPlug_126 rfl ?_
              refine V_iconst (pc := 128) (x := 3) dX12_readPlug_128 (by decide) ?_
              refine V_iadd (pc := 129) dX12_readPlug_129 ?_
              refine V_aload_n (pc := 130) 2 dX12_readPlug_130 rfl rfl ?_
              refine V_ldcS (pc := 131) (i := 20) (tx := "to") dX12_readPlug_131 (by decide) ?_
              refine V_aload_n (pc := 133) 2 dX12_readPlug_133 rfl rfl ?_
              refine V_getR (pc := 134) (c := 11) (k := 7) dX12_readPlug_134 (by decide) (by decide) kw1250 rfl rfl (L11_0 H0) (L11_r7 H0) ?_
              refine V_iload (pc := 137) 0 dX12_readPlug_137 rfl ?_
              refine V_iconst (pc := 139) (x := 2) dX12_readPlug_139 (by decide) ?_
              refine V_iadd (pc := 140) dX12_readPlug_140 ?_
              obtain ⟨b29, h⟩ := ite_o h
              refine V_iald (pc := 141) dX12_readPlug_141 (L11_s7 H0) (inB_vp b29) ?_
              refine V_bipush (pc := 142) (x := 9) dX12_readPlug_142 (by decide) ?_
              obtain ⟨x31, h30, h⟩ := bnd h
              refine V_cV3 (pc := 144) dX12_readPlug_144 kw1404 calX12_after kw1406 ks62 (L11_0 H0) rfl (by decide) (Nat.le_of_ble_eq_true rfl) (ctX12_after H0 (by decide) h30) ?_
              obtain ⟨x33, h32, h⟩ := bnd h
              refine V_cV2 (pc := 147) dX12_readPlug_147 kw1412 calX12_lays kw1414 ks64 (L11_0 H0) rfl (by decide) (Nat.le_of_ble_eq_true rfl) (ctX12_lays H0 h32) ?_
              refine V_ifB_eq (pc := 150) (tgt := 164) dX12_readPlug_150 (by decide) (fun c34 => ?_) (fun c34 => ?_)
              · have h := ite_f c34 h
                refine V_iconst (pc := 164) (x := 0) dX12_readPlug_164 (by decide) ?_
                cases h
                exact V_ret (pc := 165) dX12_readPlug_165 ⟨rfl, _, rfl, rfl⟩ ⟨rfl, rfl, rfl⟩
              · have h := ite_p c34 h
                refine V_aload_n (pc := 153) 2 dX12_readPlug_153 rfl rfl ?_
                refine V_iload (pc := 154) 0 dX12_readPlug_154 rfl ?_
                refine V_iconst (pc := 156) (x := 4) dX12_readPlug_156 (by decide) ?_
                refine V_iadd (pc := 157) dX12_readPlug_157 ?_
                obtain ⟨x36, h35, h⟩ := bnd h
                refine V_cV1 (pc := 158) dX12_readPlug_158 kw1484 calX12_readWhen kw1486 ks77 (L11_0 H0) rfl (by decide) (Nat.le_of_ble_eq_true rfl) (ctX12_readWhen H0 h35) ?_
                refine V_ifB_ne (pc := 161) (tgt := 166) dX12_readPlug_161 (by decide) (fun c37 => ?_) (fun c37 => ?_)
                · have h := ite_p c37 h
                  refine V_aload_n (pc := 166) 2 dX12_readPlug_166 rfl rfl ?_
                  refine V_lload_n (pc := 167) 1 dX12_readPlug_167 rfl rfl ?_
                  refine V_sipush (pc := 168) (x := 200) dX12_readPlug_168 (by decide) ?_
                  refine V_iload_n (pc := 171) 3 dX12_readPlug_171 rfl rfl ?_
                  refine V_iadd (pc := 172) dX12_readPlug_172 ?_
                  obtain ⟨x39, h38, h⟩ := bnd h
                  refine V_cV2 (pc := 173) dX12_readPlug_173 kw1468 calX12_tells kw1470 ks74 (L11_0 H0) rfl (by decide) (Nat.le_of_ble_eq_true rfl) (ctX12_tells H0 h38) ?_
                  refine V_aload_n (pc := 176) 2 dX12_readPlug_176 rfl rfl ?_
                  refine V_getR (pc := 177) (c := 11) (k := 7) dX12_readPlug_177 (by decide) (by decide) kw1250 rfl rfl (L11_0 H0) (L11_r7 H0) ?_
                  refine V_iconst (pc := 180) (x := 4) dX12_readPlug_180 (by decide) ?_
                  refine V_dup2 (pc := 181) dX12_readPlug_181 rfl rfl ?_
                  obtain ⟨b40, h⟩ := ite_o h
                  refine V_iald (pc := 182) dX12_readPlug_182 (L11_s7 H0) (inB_vp b40) ?_
                  refine V_iconst (pc := 183) (x := 1) dX12_readPlug_183 (by decide) ?_
                  refine V_iadd (pc := 184) dX12_readPlug_184 ?_
                  obtain ⟨b41, h⟩ := ite_o h
                  refine V_iast (pc := 185) dX12_readPlug_185 (L11_s7 H0) (inB_vp b41) ?_
                  refine V_iconst (pc := 186) (x := 1) dX12_readPlug_186 (by decide) ?_
                  cases h
                  exact V_ret (pc := 187) dX12_readPlug_187 ⟨rfl, _, rfl, rfl⟩ ⟨rfl, rfl, rfl⟩
                · have h := ite_f c37 h
                  refine V_iconst (pc := 164) (x := 0) dX12_readPlug_164 (by decide) ?_
                  cases h
                  exact V_ret (pc := 165) dX12_readPlug_165 ⟨rfl, _, rfl, rfl⟩ ⟨rfl, rfl, rfl⟩
      · have h := ite_f c11 h
        refine V_aload_n (pc := 57) 2 dX12_readPlug_57 rfl rfl ?_
        refine V_iconst (pc := 58) (x := 1) dX12_readPlug_58 (by decide) ?_
        refine V_cV1 (pc := 59) dX12_readPlug_59 kw1399 calX12_errs kw1401 ks61 (L11_0 H0) rfl (by decide) (Nat.le_of_ble_eq_true rfl) (ctX12_errs H0) ?_
        refine V_pop (pc := 62) dX12_readPlug_62 rfl ?_
        refine V_iconst (pc := 63) (x := 0) dX12_readPlug_63 (by decide) ?_
        cases h
        exact V_ret (pc := 64) dX12_readPlug_64 ⟨rfl, _, rfl, rfl⟩ ⟨rfl, rfl, rfl⟩
    · have h := ite_f c8 h
      refine V_iconst (pc := 32) (x := 0) dX12_readPlug_32 (by decide) ?_
      cases h
      exact V_ret (pc := 33) dX12_readPlug_33 ⟨rfl, _, rfl, rfl⟩ ⟨rfl, rfl, rfl⟩
theorem calX12_readPlug : Cal yX12_readPlug cX12_readPlug 5 (some .boolean) 0 := ⟨kw1479, kw11, by decide +kernel⟩
theorem ctX12_readPlug {G : Gl} {σ : Sg} {d : Dt} {r0 : Nat} {rr : Bool × Dt} (H0 : L11 σ r0) (h : mX12_readPlug r0 d = some rr) : CTv G yX12_readPlug cX12_readPlug 5 (some .boolean) 11 [.ref (gB G + r0)] σ d [.int (b2i rr.1)] rr.2 := by
  refine CT_of pn_RX12 (Nat.le_of_ble_eq_true rfl) ?_
  rw [mX12_readPlug] at h
  refine V_aload_n (pc := 0) 0 dX12_readPlug_0 rfl rfl ?_
  refine V_getR (pc := 1) (c := 11) (k := 7) dX12_readPlug_1 (by decide) (by decide) kw1250 rfl rfl (L11_0 H0) (L11_r7 H0) ?_
  refine V_iconst (pc := 4) (x := 4) dX12_readPlug_4 (by decide) ?_
  obtain ⟨b1, h⟩ := ite_o h
  refine V_iald (pc := 5) dX12_readPlug_5 (L11_s7 H0) (inB_vp b1) ?_
  refine V_istore_n (pc := 6) (lv1 := [(1, _), (0, _)]) dX12_readPlug_6 rfl (by decide) rfl ?_
  refine V_aload_n (pc := 7) 1 dX12_readPlug_7 rfl rfl ?_
  refine V_iload_n (pc := 8) 0 dX12_readPlug_8 rfl rfl ?_
  refine V_bipush (pc := 9) (x := 8) dX12_readPlug_9 (by decide) ?_
  refine V_icmp_ge (pc := 11) (tgt := 18) dX12_readPlug_11 (by decide) (fun c2 => ?_) (fun c2 => ?_)
  · have h := ite_p c2 h
    refine V_iconst (pc := 18) (x := 0) dX12_readPlug_18 (by decide) ?_
    exact V_sub [1, 0] rfl (wX12_readPlug_19 H0 H0 h)
  · have h := ite_n c2 h
    refine V_iconst (pc := 14) (x := 1) dX12_readPlug_14 (by decide) ?_
    refine V_goto (pc := 15) (tgt := 19) dX12_readPlug_15 (by decide) ?_
    exact V_sub [1, 0] rfl (wX12_readPlug_19 H0 H0 h)
theorem calX12_readKind : Cal yX12_readKind cX12_readKind 2 (some .int) 0 := ⟨kw1495, kw11, by decide +kernel⟩
theorem ctX12_readKind {G : Gl} {σ : Sg} {d : Dt} {r0 : Nat} {rr : Int32 × Dt} (H0 : L11 σ r0) (h : mX12_readKind r0 d = some rr) : CTv G yX12_readKind cX12_readKind 2 (some .int) 7 [.ref (gB G + r0)] σ d [.int rr.1] rr.2 := by
  refine CT_of pn_RX12 (Nat.le_of_ble_eq_true rfl) ?_
  rw [mX12_readKind] at h
  refine V_aload_n (pc := 0) 0 dX12_readKind_0 rfl rfl ?_
  refine V_ldcS (pc := 1) (i := 21) (tx := "power") dX12_readKind_1 (by decide) ?_
  obtain ⟨x2, h1, h⟩ := bnd h
  refine V_cV1 (pc := 3) dX12_readKind_3 kw1389 calX12_isWord kw1391 ks59 (L11_0 H0) rfl (by decide) (Nat.le_of_ble_eq_true rfl) (ctX12_isWord H0 (by decide) h1) ?_
  refine V_ifB_eq (pc := 6) (tgt := 13) dX12_readKind_6 (by decide) (fun c3 => ?_) (fun c3 => ?_)
  · have h := ite_f c3 h
    refine V_aload_n (pc := 13) 0 dX12_readKind_13 rfl rfl ?_
    refine V_ldcS (pc := 14) (i := 22) (tx := "signal") dX12_readKind_14 (by decide) ?_
    obtain ⟨x5, h4, h⟩ := bnd h
    refine V_cV1 (pc := 16) dX12_readKind_16 kw1389 calX12_isWord kw1391 ks59 (L11_0 H0) rfl (by decide) (Nat.le_of_ble_eq_true rfl) (ctX12_isWord H0 (by decide) h4) ?_
    refine V_ifB_eq (pc := 19) (tgt := 26) dX12_readKind_19 (by decide) (fun c6 => ?_) (fun c6 => ?_)
    · have h := ite_f c6 h
      refine V_aload_n (pc := 26) 0 dX12_readKind_26 rfl rfl ?_
      refine V_ldcS (pc := 27) (i := 23) (tx := "ground") dX12_readKind_27 (by decide) ?_
      obtain ⟨x8, h7, h⟩ := bnd h
      refine V_cV1 (pc := 29) dX12_readKind_29 kw1389 calX12_isWord kw1391 ks59 (L11_0 H0) rfl (by decide) (Nat.le_of_ble_eq_true rfl) (ctX12_isWord H0 (by decide) h7) ?_
      refine V_ifB_eq (pc := 32) (tgt := 39) dX12_readKind_32 (by decide) (fun c9 => ?_) (fun c9 => ?_)
      · have h := ite_f c9 h
        refine V_aload_n (pc := 39) 0 dX12_readKind_39 rfl rfl ?_
        refine V_iconst (pc := 40) (x := 1) dX12_readKind_40 (by decide) ?_
        refine V_cV1 (pc := 41) dX12_readKind_41 kw1399 calX12_errs kw1401 ks61 (L11_0 H0) rfl (by decide) (Nat.le_of_ble_eq_true rfl) (ctX12_errs H0) ?_
        refine V_istore_n (pc := 44) (lv1 := [(1, _), (0, _)]) dX12_readKind_44 rfl (by decide) rfl ?_
        refine V_iload_n (pc := 45) 0 dX12_readKind_45 rfl rfl ?_
        refine V_iconst (pc := 46) (x := (-1)) dX12_readKind_46 (by decide) ?_
        refine V_icmp_eq (pc := 47) (tgt := 54) dX12_readKind_47 (by decide) (fun c12 => ?_) (fun c12 => ?_)
        · have h := ite_p c12 h
          refine V_iload_n (pc := 54) 0 dX12_readKind_54 rfl rfl ?_
          cases h
          exact V_ret (pc := 55) dX12_readKind_55 ⟨rfl, _, rfl⟩ ⟨rfl, rfl, rfl⟩
        · have h := ite_n c12 h
          refine V_aload_n (pc := 50) 1 dX12_readKind_50 rfl rfl ?_
          obtain ⟨x14, h13, h⟩ := bnd h
          refine V_cV0 (pc := 51) dX12_readKind_51 kw1376 calX12_goesOn kw1378 ks56 (L11_0 H0) rfl (by decide) (Nat.le_of_ble_eq_true rfl) (ctX12_goesOn H0 h13) ?_
          refine V_iload_n (pc := 54) 0 dX12_readKind_54 rfl rfl ?_
          cases h
          exact V_ret (pc := 55) dX12_readKind_55 ⟨rfl, _, rfl⟩ ⟨rfl, rfl, rfl⟩
      · have h := ite_p c9 h
        refine V_iconst (pc := 35) (x := 2) dX12_readKind_35 (by decide) ?_
        refine V_goto (pc := 36) (tgt := 44) dX12_readKind_36 (by decide) ?_
        refine V_istore_n (pc := 44) (lv1 := [(1, _), (0, _)]) dX12_readKind_44 rfl (by decide) rfl ?_
        refine V_iload_n (pc := 45) 0 dX12_readKind_45 rfl rfl ?_
        refine V_iconst (pc := 46) (x := (-1)) dX12_readKind_46 (by decide) ?_
        refine V_icmp_eq (pc := 47) (tgt := 54) dX12_readKind_47 (by decide) (fun c15 => ?_) (fun c15 => ?_)
        · have h := ite_p c15 h
          refine V_iload_n (pc := 54) 0 dX12_readKind_54 rfl rfl ?_
          cases h
          exact V_ret (pc := 55) dX12_readKind_55 ⟨rfl, _, rfl⟩ ⟨rfl, rfl, rfl⟩
        · have h := ite_n c15 h
          refine V_aload_n (pc := 50) 1 dX12_readKind_50 rfl rfl ?_
          obtain ⟨x17, h16, h⟩ := bnd h
          refine V_cV0 (pc := 51) dX12_readKind_51 kw1376 calX12_goesOn kw1378 ks56 (L11_0 H0) rfl (by decide) (Nat.le_of_ble_eq_true rfl) (ctX12_goesOn H0 h16) ?_
          refine V_iload_n (pc := 54) 0 dX12_readKind_54 rfl rfl ?_
          cases h
          exact V_ret (pc := 55) dX12_readKind_55 ⟨rfl, _, rfl⟩ ⟨rfl, rfl, rfl⟩
    · have h := ite_p c6 h
      refine V_iconst (pc := 22) (x := 1) dX12_readKind_22 (by decide) ?_
      refine V_goto (pc := 23) (tgt := 44) dX12_readKind_23 (by decide) ?_
      refine V_istore_n (pc := 44) (lv1 := [(1, _), (0, _)]) dX12_readKind_44 rfl (by decide) rfl ?_
      refine V_iload_n (pc := 45) 0 dX12_readKind_45 rfl rfl ?_
      refine V_iconst (pc := 46) (x := (-1)) dX12_readKind_46 (by decide) ?_
      refine V_icmp_eq (pc := 47) (tgt := 54) dX12_readKind_47 (by decide) (fun c18 => ?_) (fun c18 => ?_)
      · have h := ite_p c18 h
        refine V_iload_n (pc := 54) 0 dX12_readKind_54 rfl rfl ?_
        cases h
        exact V_ret (pc := 55) dX12_readKind_55 ⟨rfl, _, rfl⟩ ⟨rfl, rfl, rfl⟩
      · have h := ite_n c18 h
        refine V_aload_n (pc := 50) 1 dX12_readKind_50 rfl rfl ?_
        obtain ⟨x20, h19, h⟩ := bnd h
        refine V_cV0 (pc := 51) dX12_readKind_51 kw1376 calX12_goesOn kw1378 ks56 (L11_0 H0) rfl (by decide) (Nat.le_of_ble_eq_true rfl) (ctX12_goesOn H0 h19) ?_
        refine V_iload_n (pc := 54) 0 dX12_readKind_54 rfl rfl ?_
        cases h
        exact V_ret (pc := 55) dX12_readKind_55 ⟨rfl, _, rfl⟩ ⟨rfl, rfl, rfl⟩
  · have h := ite_p c3 h
    refine V_iconst (pc := 9) (x := 0) dX12_readKind_9 (by decide) ?_
    refine V_goto (pc := 10) (tgt := 44) dX12_readKind_10 (by decide) ?_
    refine V_istore_n (pc := 44) (lv1 := [(1, _), (0, _)]) dX12_readKind_44 rfl (by decide) rfl ?_
    refine V_iload_n (pc := 45) 0 dX12_readKind_45 rfl rfl ?_
    refine V_iconst (pc := 46) (x := (-1)) dX12_readKind_46 (by decide) ?_
    refine V_icmp_eq (pc := 47) (tgt := 54) dX12_readKind_47 (by decide) (fun c21 => ?_) (fun c21 => ?_)
    · have h := ite_p c21 h
      refine V_iload_n (pc := 54) 0 dX12_readKind_54 rfl rfl ?_
      cases h
      exact V_ret (pc := 55) dX12_readKind_55 ⟨rfl, _, rfl⟩ ⟨rfl, rfl, rfl⟩
    · have h := ite_n c21 h
      refine V_aload_n (pc := 50) 1 dX12_readKind_50 rfl rfl ?_
      obtain ⟨x23, h22, h⟩ := bnd h
      refine V_cV0 (pc := 51) dX12_readKind_51 kw1376 calX12_goesOn kw1378 ks56 (L11_0 H0) rfl (by decide) (Nat.le_of_ble_eq_true rfl) (ctX12_goesOn H0 h22) ?_
      refine V_iload_n (pc := 54) 0 dX12_readKind_54 rfl rfl ?_
      cases h
      exact V_ret (pc := 55) dX12_readKind_55 ⟨rfl, _, rfl⟩ ⟨rfl, rfl, rfl⟩
theorem wX12_readPin_72 {G : Gl} {σ : Sg} {r0 : Nat} {v1 : Int32} {v2 : Int32} {v3 : Int32} {rr : Bool × Dt} (H0 : L11 σ r0) : ∀ (n : Nat) (v4 : Int32) (d : Dt), mX12_readPin_72 r0 v1 v2 v3 n v4 d = some rr → V G yX12_readPin cX12_readPin 5 (some .boolean) 10 0 0 (PH [.int (b2i rr.1)] σ rr.2) 72 [(0, .ref (gB G + r0)), (1, .int v1), (2, .int v2), (3, .int v3), (4, .int v4)] [] σ d := by
  intro n
  induction n with
  | zero =>
    intro v4 d
    intros
    rename_i h
    exact absurd h (by rw [mX12_readPin_72]; exact fun q => nomatch q)
  | succ n ih =>
    intro v4 d h
    rw [mX12_readPin_72] at h
    refine V_iload (pc := 72) 4 dX12_readPin_72 rfl ?_
    refine V_iload_n (pc := 74) 3 dX12_readPin_74 rfl rfl ?_
    refine V_icmp_ge (pc := 75) (tgt := 133) dX12_readPin_75 (by decide) (fun c12 => ?_) (fun c12 => ?_)
    · have h := ite_p c12 h
      refine V_aload_n (pc := 133) 0 dX12_readPin_133 rfl rfl ?_
      refine V_getR (pc := 134) (c := 11) (k := 7) dX12_readPin_134 (by decide) (by decide) kw1250 rfl rfl (L11_0 H0) (L11_r7 H0) ?_
      refine V_iload_n (pc := 137) 1 dX12_readPin_137 rfl rfl ?_
      refine V_bipush (pc := 138) (x := 6) dX12_readPin_138 (by decide) ?_
      refine V_iadd (pc := 140) dX12_readPin_140 ?_
      refine V_iconst (pc := 141) (x := 2) dX12_readPin_141 (by decide) ?_
      refine V_iload_n (pc := 142) 3 dX12_readPin_142 rfl rfl ?_
      refine V_imul (pc := 143) dX12_readPin_143 ?_
      refine V_iadd (pc := 144) dX12_readPin_144 ?_
      refine V_iload_n (pc := 145) 2 dX12_readPin_145 rfl rfl ?_
      obtain ⟨b13, h⟩ := ite_o h
      refine V_iast (pc := 146) dX12_readPin_146 (L11_s7 H0) (inB_vp b13) ?_
      refine V_aload_n (pc := 147) 0 dX12_readPin_147 rfl rfl ?_
      refine V_getR (pc := 148) (c := 11) (k := 7) dX12_readPin_148 (by decide) (by decide) kw1250 rfl rfl (L11_0 H0) (L11_r7 H0) ?_
      refine V_iload_n (pc := 151) 1 dX12_readPin_151 rfl rfl ?_
      refine V_bipush (pc := 152) (x := 6) dX12_readPin_152 (by decide) ?_
      refine V_iadd (pc := 154) dX12_readPin_154 ?_
      refine V_iconst (pc := 155) (x := 2) dX12_readPin_155 (by decide) ?_
      refine V_iload_n (pc := 156) 3 dX12_readPin_156 rfl rfl ?_
      refine V_imul (pc := 157) dX12_readPin_157 ?_
      refine V_iadd (pc := 158) dX12_readPin_158 ?_
      refine V_iconst (pc := 159) (x := 1) dX12_readPin_159 (by decide) ?_
      refine V_iadd (pc := 160) dX12_readPin_160 ?_
      refine V_aload_n (pc := 161) 0 dX12_readPin_161 rfl rfl ?_
      refine V_getI (pc := 162) (c := 11) (k := 19) dX12_readPin_162 (by decide) (by decide) kw1262 rfl rfl (L11_0 H0) ?_
      obtain ⟨b14, h⟩ := ite_o h
      refine V_iast (pc := 165) dX12_readPin_165 (L11_s7 H0) (inB_vp b14) ?_
      refine V_aload_n (pc := 166) 0 dX12_readPin_166 rfl rfl ?_
      refine V_getR (pc := 167) (c := 11) (k := 7) dX12_readPin_167 (by decide) (by decide) kw1250 rfl rfl (L11_0 H0) (L11_r7 H0) ?_
      refine V_iload_n (pc := 170) 1 dX12_readPin_170 rfl rfl ?_
      refine V_iconst (pc := 171) (x := 2) dX12_readPin_171 (by decide) ?_
      refine V_iadd (pc := 172) dX12_readPin_172 ?_
      refine V_dup2 (pc := 173) dX12_readPin_173 rfl rfl ?_
      obtain ⟨b15, h⟩ := ite_o h
      refine V_iald (pc := 174) dX12_readPin_174 (L11_s7 H0) (inB_vp b15) ?_
      refine V_iconst (pc := 175) (x := 1) dX12_readPin_175 (by decide) ?_
      refine V_iadd (pc := 176) dX12_readPin_176 ?_
      obtain ⟨b16, h⟩ := ite_o h
      refine V_iast (pc := 177) dX12_readPin_177 (L11_s7 H0) (inB_vp b16) ?_
      refine V_aload_n (pc := 178) 0 dX12_readPin_178 rfl rfl ?_
      obtain ⟨x18, h17, h⟩ := bnd h
      refine V_cV0 (pc := 179) dX12_readPin_179 kw1376 calX12_goesOn kw1378 ks56 (L11_0 H0) rfl (by decide) (Nat.le_of_ble_eq_true rfl) (ctX12_goesOn H0 h17) ?_
      refine V_iconst (pc := 182) (x := 1) dX12_readPin_182 (by decide) ?_
      cases h
      exact V_ret (pc := 183) dX12_readPin_183 ⟨rfl, _, rfl, rfl⟩ ⟨rfl, rfl, rfl⟩
    · have h := ite_n c12 h
      refine V_aload_n (pc := 78) 0 dX12_readPin_78 rfl rfl ?_
      refine V_getR (pc := 79) (c := 11) (k := 7) dX12_readPin_79 (by decide) (by decide) kw1250 rfl rfl (L11_0 H0) (L11_r7 H0) ?_
      refine V_iload_n (pc := 82) 1 dX12_readPin_82 rfl rfl ?_
      refine V_bipush (pc := 83) (x := 6) dX12_readPin_83 (by decide) ?_
      refine V_iadd (pc := 85) dX12_readPin_85 ?_
      refine V_iconst (pc := 86) (x := 2) dX12_readPin_86 (by decide) ?_
      refine V_iload (pc := 87) 4 dX12_readPin_87 rfl ?_
      refine V_imul (pc := 89) dX12_readPin_89 ?_
      refine V_iadd (pc := 90) dX12_readPin_90 ?_
      obtain ⟨b19, h⟩ := ite_o h
      refine V_iald (pc := 91) dX12_readPin_91 (L11_s7 H0) (inB_vp b19) ?_
      refine V_iload_n (pc := 92) 2 dX12_readPin_92 rfl rfl ?_
      refine V_icmp_ne (pc := 93) (tgt := 127) dX12_readPin_93 (by decide) (fun c20 => ?_) (fun c20 => ?_)
      · have h := ite_n c20 h
        refine V_iinc (pc := 127) (lv1 := [(4, _), (0, _), (1, _), (2, _), (3, _)]) (z := _ + (1 : Int32)) 4 dX12_readPin_127 rfl rfl (by decide) rfl ?_
        refine V_goto (pc := 130) (tgt := 72) dX12_readPin_130 (by decide) ?_
        exact V_sub [1, 2, 3, 4, 0] rfl (ih (v4 + (1 : Int32)) d h)
      · have h := ite_p c20 h
        refine V_aload_n (pc := 96) 0 dX12_readPin_96 rfl rfl ?_
        refine V_getR (pc := 97) (c := 11) (k := 7) dX12_readPin_97 (by decide) (by decide) kw1250 rfl rfl (L11_0 H0) (L11_r7 H0) ?_
        refine V_iload_n (pc := 100) 1 dX12_readPin_100 rfl rfl ?_
        refine V_bipush (pc := 101) (x := 6) dX12_readPin_101 (by decide) ?_
        refine V_iadd (pc := 103) dX12_readPin_103 ?_
        refine V_iconst (pc := 104) (x := 2) dX12_readPin_104 (by decide) ?_
        refine V_iload (pc := 105) 4 dX12_readPin_105 rfl ?_
        refine V_imul (pc := 107) dX12_readPin_107 ?_
        refine V_iadd (pc := 108) dX12_readPin_108 ?_
        refine V_iconst (pc := 109) (x := 1) dX12_readPin_109 (by decide) ?_
        refine V_iadd (pc := 110) dX12_readPin_110 ?_
        obtain ⟨b21, h⟩ := ite_o h
        refine V_iald (pc := 111) dX12_readPin_111 (L11_s7 H0) (inB_vp b21) ?_
        refine V_aload_n (pc := 112) 0 dX12_readPin_112 rfl rfl ?_
        refine V_getI (pc := 113) (c := 11) (k := 19) dX12_readPin_113 (by decide) (by decide) kw1262 rfl rfl (L11_0 H0) ?_
        refine V_icmp_ne (pc := 116) (tgt := 127) dX12_readPin_116 (by decide) (fun c22 => ?_) (fun c22 => ?_)
        · have h := ite_n c22 h
          refine V_iinc (pc := 127) (lv1 := [(4, _), (0, _), (1, _), (2, _), (3, _)]) (z := _ + (1 : Int32)) 4 dX12_readPin_127 rfl rfl (by decide) rfl ?_
          refine V_goto (pc := 130) (tgt := 72) dX12_readPin_130 (by decide) ?_
          exact V_sub [1, 2, 3, 4, 0] rfl (ih (v4 + (1 : Int32)) d h)
        · have h := ite_p c22 h
          refine V_aload_n (pc := 119) 0 dX12_readPin_119 rfl rfl ?_
          refine V_iconst (pc := 120) (x := 3) dX12_readPin_120 (by decide) ?_
          refine V_cV1 (pc := 121) dX12_readPin_121 kw1399 calX12_errs kw1401 ks61 (L11_0 H0) rfl (by decide) (Nat.le_of_ble_eq_true rfl) (ctX12_errs H0) ?_
          refine V_pop (pc := 124) dX12_readPin_124 rfl ?_
          refine V_iconst (pc := 125) (x := 0) dX12_readPin_125 (by decide) ?_
          cases h
          exact V_ret (pc := 126) dX12_readPin_126 ⟨rfl, _, rfl, rfl⟩ ⟨rfl, rfl, rfl⟩
theorem calX12_readPin : Cal yX12_readPin cX12_readPin 5 (some .boolean) 1 := ⟨kw1502, kw11, by decide +kernel⟩
theorem ctX12_readPin {G : Gl} {σ : Sg} {d : Dt} {r0 : Nat} {v1 : Int32} {rr : Bool × Dt} (H0 : L11 σ r0) (h : mX12_readPin r0 v1 d = some rr) : CTv G yX12_readPin cX12_readPin 5 (some .boolean) 10 [.ref (gB G + r0), .int v1] σ d [.int (b2i rr.1)] rr.2 := by
  refine CT_of pn_RX12 (Nat.le_of_ble_eq_true rfl) ?_
  rw [mX12_readPin] at h
  refine V_aload_n (pc := 0) 0 dX12_readPin_0 rfl rfl ?_
  refine V_sipush (pc := 1) (x := 200) dX12_readPin_1 (by decide) ?_
  obtain ⟨x2, h1, h⟩ := bnd h
  refine V_cV1 (pc := 4) dX12_readPin_4 kw1451 calX12_passesOne kw1453 ks71 (L11_0 H0) rfl (by decide) (Nat.le_of_ble_eq_true rfl) (ctX12_passesOne H0 h1) ?_
  refine V_istore_n (pc := 7) (lv1 := [(2, _), (0, _), (1, _)]) dX12_readPin_7 rfl (by decide) rfl ?_
  refine V_iload_n (pc := 8) 0 dX12_readPin_8 rfl rfl ?_
  refine V_iconst (pc := 9) (x := (-1)) dX12_readPin_9 (by decide) ?_
  refine V_icmp_ne (pc := 10) (tgt := 15) dX12_readPin_10 (by decide) (fun c3 => ?_) (fun c3 => ?_)
  · have h := ite_n c3 h
    refine V_aload_n (pc := 15) 1 dX12_readPin_15 rfl rfl ?_
    refine V_getI (pc := 16) (c := 11) (k := 18) dX12_readPin_16 (by decide) (by decide) kw1261 rfl rfl (L11_0 H0) ?_
    refine V_iconst (pc := 19) (x := 3) dX12_readPin_19 (by decide) ?_
    refine V_icmp_eq (pc := 20) (tgt := 31) dX12_readPin_20 (by decide) (fun c4 => ?_) (fun c4 => ?_)
    · have h := ite_p c4 h
      refine V_aload_n (pc := 31) 1 dX12_readPin_31 rfl rfl ?_
      refine V_getI (pc := 32) (c := 11) (k := 19) dX12_readPin_32 (by decide) (by decide) kw1262 rfl rfl (L11_0 H0) ?_
      refine V_aload_n (pc := 35) 1 dX12_readPin_35 rfl rfl ?_
      refine V_getR (pc := 36) (c := 11) (k := 7) dX12_readPin_36 (by decide) (by decide) kw1250 rfl rfl (L11_0 H0) (L11_r7 H0) ?_
      refine V_bipush (pc := 39) (x := 49) dX12_readPin_39 (by decide) ?_
      refine V_bipush (pc := 41) (x := 6) dX12_readPin_41 (by decide) ?_
      refine V_iload_n (pc := 43) 0 dX12_readPin_43 rfl rfl ?_
      refine V_imul (pc := 44) dX12_readPin_44 ?_
      refine V_iadd (pc := 45) dX12_readPin_45 ?_
      refine V_iconst (pc := 46) (x := 1) dX12_readPin_46 (by decide) ?_
      refine V_iadd (pc := 47) dX12_readPin_47 ?_
      obtain ⟨b5, h⟩ := ite_o h
      refine V_iald (pc := 48) dX12_readPin_48 (L11_s7 H0) (inB_vp b5) ?_
      refine V_icmp_lt (pc := 49) (tgt := 60) dX12_readPin_49 (by decide) (fun c6 => ?_) (fun c6 => ?_)
      · have h := ite_p c6 h
        refine V_aload_n (pc := 60) 1 dX12_readPin_60 rfl rfl ?_
        refine V_getR (pc := 61) (c := 11) (k := 7) dX12_readPin_61 (by decide) (by decide) kw1250 rfl rfl (L11_0 H0) (L11_r7 H0) ?_
        refine V_iload_n (pc := 64) 2 dX12_readPin_64 rfl rfl ?_
        refine V_iconst (pc := 65) (x := 2) dX12_readPin_65 (by decide) ?_
        refine V_iadd (pc := 66) dX12_readPin_66 ?_
        obtain ⟨b7, h⟩ := ite_o h
        refine V_iald (pc := 67) dX12_readPin_67 (L11_s7 H0) (inB_vp b7) ?_
        refine V_istore_n (pc := 68) (lv1 := [(3, _), (2, _), (0, _), (1, _)]) dX12_readPin_68 rfl (by decide) rfl ?_
        refine V_iconst (pc := 69) (x := 0) dX12_readPin_69 (by decide) ?_
        refine V_istore (pc := 70) (lv1 := [(4, _), (3, _), (2, _), (0, _), (1, _)]) dX12_readPin_70 (by decide) rfl ?_
        exact V_sub [3, 4, 2, 1, 0] rfl (wX12_readPin_72 H0 FUEL (0 : Int32) x2.2 h)
      · have h := ite_n c6 h
        refine V_aload_n (pc := 52) 1 dX12_readPin_52 rfl rfl ?_
        refine V_iconst (pc := 53) (x := 4) dX12_readPin_53 (by decide) ?_
        refine V_cV1 (pc := 54) dX12_readPin_54 kw1399 calX12_errs kw1401 ks61 (L11_0 H0) rfl (by decide) (Nat.le_of_ble_eq_true rfl) (ctX12_errs H0) ?_
        refine V_pop (pc := 57) dX12_readPin_57 rfl ?_
        refine V_iconst (pc := 58) (x := 0) dX12_readPin_58 (by decide) ?_
        cases h
        exact V_ret (pc := 59) dX12_readPin_59 ⟨rfl, _, rfl, rfl⟩ ⟨rfl, rfl, rfl⟩
    · have h := ite_n c4 h
      refine V_aload_n (pc := 23) 1 dX12_readPin_23 rfl rfl ?_
      refine V_iconst (pc := 24) (x := 1) dX12_readPin_24 (by decide) ?_
      refine V_cV1 (pc := 25) dX12_readPin_25 kw1399 calX12_errs kw1401 ks61 (L11_0 H0) rfl (by decide) (Nat.le_of_ble_eq_true rfl) (ctX12_errs H0) ?_
      refine V_pop (pc := 28) dX12_readPin_28 rfl ?_
      refine V_iconst (pc := 29) (x := 0) dX12_readPin_29 (by decide) ?_
      cases h
      exact V_ret (pc := 30) dX12_readPin_30 ⟨rfl, _, rfl, rfl⟩ ⟨rfl, rfl, rfl⟩
  · have h := ite_p c3 h
    refine V_iconst (pc := 13) (x := 0) dX12_readPin_13 (by decide) ?_
    cases h
    exact V_ret (pc := 14) dX12_readPin_14 ⟨rfl, _, rfl, rfl⟩ ⟨rfl, rfl, rfl⟩
theorem wX12_readNet_223 {G : Gl} {σ : Sg} {d : Dt} {r0 : Nat} {v1 : Int32} {v2 : Int64} {rr : Bool × Dt} (H0 : L11 σ r0) (h : mX12_readNet_223 r0 v1 v2 d = some rr) : V G yX12_readNet cX12_readNet 5 (some .boolean) 11 0 0 (PH [.int (b2i rr.1)] σ rr.2) 223 [(0, .ref (gB G + r0)), (1, .int v1), (2, .long v2)] [] σ d := by
  rw [mX12_readNet_223] at h
  refine V_aload_n (pc := 223) 0 dX12_readNet_223 rfl rfl ?_
  refine V_lload_n (pc := 224) 2 dX12_readNet_224 rfl rfl ?_
  refine V_sipush (pc := 225) (x := 300) dX12_readNet_225 (by decide) ?_
  refine V_iload_n (pc := 228) 1 dX12_readNet_228 rfl rfl ?_
  refine V_iadd (pc := 229) dX12_readNet_229 ?_
  obtain ⟨x51, h50, h⟩ := bnd h
  refine V_cV2 (pc := 230) dX12_readNet_230 kw1468 calX12_tells kw1470 ks74 (L11_0 H0) rfl (by decide) (Nat.le_of_ble_eq_true rfl) (ctX12_tells H0 h50) ?_
  refine V_aload_n (pc := 233) 0 dX12_readNet_233 rfl rfl ?_
  refine V_getR (pc := 234) (c := 11) (k := 7) dX12_readNet_234 (by decide) (by decide) kw1250 rfl rfl (L11_0 H0) (L11_r7 H0) ?_
  refine V_iconst (pc := 237) (x := 5) dX12_readNet_237 (by decide) ?_
  refine V_dup2 (pc := 238) dX12_readNet_238 rfl rfl ?_
  obtain ⟨b52, h⟩ := ite_o h
  refine V_iald (pc := 239) dX12_readNet_239 (L11_s7 H0) (inB_vp b52) ?_
  refine V_iconst (pc := 240) (x := 1) dX12_readNet_240 (by decide) ?_
  refine V_iadd (pc := 241) dX12_readNet_241 ?_
  obtain ⟨b53, h⟩ := ite_o h
  refine V_iast (pc := 242) dX12_readNet_242 (L11_s7 H0) (inB_vp b53) ?_
  refine V_iconst (pc := 243) (x := 1) dX12_readNet_243 (by decide) ?_
  cases h
  exact V_ret (pc := 244) dX12_readNet_244 ⟨rfl, _, rfl, rfl⟩ ⟨rfl, rfl, rfl⟩
theorem wX12_readNet_186 {G : Gl} {σ : Sg} {d : Dt} {r0 : Nat} {v1 : Int32} {v2 : Int64} {v4 : Int32} {rr : Bool × Dt} (H0 : L11 σ r0) (h : mX12_readNet_186 r0 v1 v2 v4 d = some rr) : V G yX12_readNet cX12_readNet 5 (some .boolean) 11 0 0 (PH [.int (b2i rr.1)] σ rr.2) 186 [(0, .ref (gB G + r0)), (1, .int v1), (2, .long v2), (4, .int v4)] [] σ d := by
  rw [mX12_readNet_186] at h
  refine V_aload_n (pc := 186) 0 dX12_readNet_186 rfl rfl ?_
  refine V_getR (pc := 187) (c := 11) (k := 7) dX12_readNet_187 (by decide) (by decide) kw1250 rfl rfl (L11_0 H0) (L11_r7 H0) ?_
  refine V_iload (pc := 190) 3 dX12_readNet_190 rfl ?_
  refine V_iconst (pc := 192) (x := 2) dX12_readNet_192 (by decide) ?_
  refine V_iadd (pc := 193) dX12_readNet_193 ?_
  obtain ⟨b42, h⟩ := ite_o h
  refine V_iald (pc := 194) dX12_readNet_194 (L11_s7 H0) (inB_vp b42) ?_
  refine V_iconst (pc := 195) (x := 2) dX12_readNet_195 (by decide) ?_
  refine V_icmp_lt (pc := 196) (tgt := 215) dX12_readNet_196 (by decide) (fun c43 => ?_) (fun c43 => ?_)
  · have h := ite_p c43 h
    refine V_aload_n (pc := 215) 0 dX12_readNet_215 rfl rfl ?_
    refine V_iconst (pc := 216) (x := 1) dX12_readNet_216 (by decide) ?_
    refine V_cV1 (pc := 217) dX12_readNet_217 kw1399 calX12_errs kw1401 ks61 (L11_0 H0) rfl (by decide) (Nat.le_of_ble_eq_true rfl) (ctX12_errs H0) ?_
    refine V_pop (pc := 220) dX12_readNet_220 rfl ?_
    refine V_iconst (pc := 221) (x := 0) dX12_readNet_221 (by decide) ?_
    cases h
    exact V_ret (pc := 222) dX12_readNet_222 ⟨rfl, _, rfl, rfl⟩ ⟨rfl, rfl, rfl⟩
  · have h := ite_n c43 h
    refine V_aload_n (pc := 199) 0 dX12_readNet_199 rfl rfl ?_
    refine V_getI (pc := 200) (c := 11) (k := 18) dX12_readNet_200 (by decide) (by decide) kw1261 rfl rfl (L11_0 H0) ?_
    refine V_bipush (pc := 203) (x := 59) dX12_readNet_203 (by decide) ?_
    refine V_icmp_eq (pc := 205) (tgt := 223) dX12_readNet_205 (by decide) (fun c46 => ?_) (fun c46 => ?_)
    · have h := ite_p c46 h
      exact V_sub [0, 1, 2] rfl (wX12_readNet_223 H0 h)
    · have h := ite_n c46 h
      refine V_aload_n (pc := 208) 0 dX12_readNet_208 rfl rfl ?_
      refine V_getI (pc := 209) (c := 11) (k := 18) dX12_readNet_209 (by decide) (by decide) kw1261 rfl rfl (L11_0 H0) ?_
      refine V_if_eq (pc := 212) (tgt := 223) dX12_readNet_212 (by decide) (fun c47 => ?_) (fun c47 => ?_)
      · have h := ite_p c47 h
        exact V_sub [0, 1, 2] rfl (wX12_readNet_223 H0 h)
      · have h := ite_n c47 h
        refine V_aload_n (pc := 215) 0 dX12_readNet_215 rfl rfl ?_
        refine V_iconst (pc := 216) (x := 1) dX12_readNet_216 (by decide) ?_
        refine V_cV1 (pc := 217) dX12_readNet_217 kw1399 calX12_errs kw1401 ks61 (L11_0 H0) rfl (by decide) (Nat.le_of_ble_eq_true rfl) (ctX12_errs H0) ?_
        refine V_pop (pc := 220) dX12_readNet_220 rfl ?_
        refine V_iconst (pc := 221) (x := 0) dX12_readNet_221 (by decide) ?_
        cases h
        exact V_ret (pc := 222) dX12_readNet_222 ⟨rfl, _, rfl, rfl⟩ ⟨rfl, rfl, rfl⟩
theorem wX12_readNet_149 {G : Gl} {σ : Sg} {r0 : Nat} {v1 : Int32} {v2 : Int64} {v4 : Int32} {rr : Bool × Dt} (H0 : L11 σ r0) : ∀ (n : Nat) (d : Dt), mX12_readNet_149 r0 v1 v2 v4 n d = some rr → V G yX12_readNet cX12_readNet 5 (some .boolean) 11 0 0 (PH [.int (b2i rr.1)] σ rr.2) 149 [(0, .ref (gB G + r0)), (1, .int v1), (2, .long v2), (4, .int v4)] [] σ d := by
  intro n
  induction n with
  | zero =>
    intro d
    intros
    rename_i h
    exact absurd h (by rw [mX12_readNet_149]; exact fun q => nomatch q)
  | succ n ih =>
    intro d h
    rw [mX12_readNet_149] at h
    refine V_aload_n (pc := 149) 0 dX12_readNet_149 rfl rfl ?_
    refine V_getI (pc := 150) (c := 11) (k := 18) dX12_readNet_150 (by decide) (by decide) kw1261 rfl rfl (L11_0 H0) ?_
    refine V_bipush (pc := 153) (x := 44) dX12_readNet_153 (by decide) ?_
    refine V_icmp_ne (pc := 155) (tgt := 186) dX12_readNet_155 (by decide) (fun c34 => ?_) (fun c34 => ?_)
    · have h := ite_n c34 h
      exact V_sub [0, 1, 2, 3] rfl (wX12_readNet_186 H0 h)
    · have h := ite_p c34 h
      refine V_aload_n (pc := 158) 0 dX12_readNet_158 rfl rfl ?_
      refine V_getR (pc := 159) (c := 11) (k := 7) dX12_readNet_159 (by decide) (by decide) kw1250 rfl rfl (L11_0 H0) (L11_r7 H0) ?_
      refine V_iload (pc := 162) 3 dX12_readNet_162 rfl ?_
      refine V_iconst (pc := 164) (x := 2) dX12_readNet_164 (by decide) ?_
      refine V_iadd (pc := 165) dX12_readNet_165 ?_
      obtain ⟨b35, h⟩ := ite_o h
      refine V_iald (pc := 166) dX12_readNet_166 (L11_s7 H0) (inB_vp b35) ?_
      refine V_iconst (pc := 167) (x := 5) dX12_readNet_167 (by decide) ?_
      refine V_icmp_ge (pc := 168) (tgt := 186) dX12_readNet_168 (by decide) (fun c36 => ?_) (fun c36 => ?_)
      · have h := ite_p c36 h
        exact V_sub [0, 1, 2, 3] rfl (wX12_readNet_186 H0 h)
      · have h := ite_n c36 h
        refine V_aload_n (pc := 171) 0 dX12_readNet_171 rfl rfl ?_
        obtain ⟨x38, h37, h⟩ := bnd h
        refine V_cV0 (pc := 172) dX12_readNet_172 kw1376 calX12_goesOn kw1378 ks56 (L11_0 H0) rfl (by decide) (Nat.le_of_ble_eq_true rfl) (ctX12_goesOn H0 h37) ?_
        refine V_aload_n (pc := 175) 0 dX12_readNet_175 rfl rfl ?_
        refine V_iload (pc := 176) 3 dX12_readNet_176 rfl ?_
        obtain ⟨x40, h39, h⟩ := bnd h
        refine V_cV1 (pc := 178) dX12_readNet_178 kw1499 calX12_readPin kw1501 ks80 (L11_0 H0) rfl (by decide) (Nat.le_of_ble_eq_true rfl) (ctX12_readPin H0 h39) ?_
        refine V_ifB_ne (pc := 181) (tgt := 149) dX12_readNet_181 (by decide) (fun c41 => ?_) (fun c41 => ?_)
        · have h := ite_p c41 h
          exact V_sub [0, 1, 2, 3] rfl (ih x40.2 h)
        · have h := ite_f c41 h
          refine V_iconst (pc := 184) (x := 0) dX12_readNet_184 (by decide) ?_
          cases h
          exact V_ret (pc := 185) dX12_readNet_185 ⟨rfl, _, rfl, rfl⟩ ⟨rfl, rfl, rfl⟩
theorem wX12_readNet_19 {G : Gl} {σ : Sg} {d : Dt} {r0 : Nat} {v1 : Int32} {vs0 : Int32} {rs1 : Nat} {rr : Bool × Dt} (H0 : L11 σ r0) (Hs1 : L11 σ rs1) (h : mX12_readNet_19 r0 v1 vs0 rs1 d = some rr) : V G yX12_readNet cX12_readNet 5 (some .boolean) 11 0 0 (PH [.int (b2i rr.1)] σ rr.2) 19 [(0, .ref (gB G + r0)), (1, .int v1)] [.int vs0, .ref (gB G + rs1)] σ d := by
  rw [mX12_readNet_19] at h
  obtain ⟨x4, h3, h⟩ := bnd h
  refine V_cV1 (pc := 19) dX12_readNet_19 kw1422 calX12_begins kw1424 ks66 (L11_0 Hs1) rfl (by decide) (Nat.le_of_ble_eq_true rfl) (ctX12_begins Hs1 h3) ?_
  refine V_ifB_eq (pc := 22) (tgt := 32) dX12_readNet_22 (by decide) (fun c5 => ?_) (fun c5 => ?_)
  · have h := ite_f c5 h
    refine V_iconst (pc := 32) (x := 0) dX12_readNet_32 (by decide) ?_
    cases h
    exact V_ret (pc := 33) dX12_readNet_33 ⟨rfl, _, rfl, rfl⟩ ⟨rfl, rfl, rfl⟩
  · have h := ite_p c5 h
    refine V_aload_n (pc := 25) 0 dX12_readNet_25 rfl rfl ?_
    obtain ⟨x7, h6, h⟩ := bnd h
    refine V_cV0 (pc := 26) dX12_readNet_26 kw1426 calX12_passesNew kw1428 ks67 (L11_0 H0) rfl (by decide) (Nat.le_of_ble_eq_true rfl) (ctX12_passesNew H0 h6) ?_
    refine V_ifB_ne (pc := 29) (tgt := 34) dX12_readNet_29 (by decide) (fun c8 => ?_) (fun c8 => ?_)
    · have h := ite_p c8 h
      refine V_aload_n (pc := 34) 0 dX12_readNet_34 rfl rfl ?_
      refine V_getL (pc := 35) (c := 11) (k := 23) dX12_readNet_35 (by decide) (by decide) kw1266 rfl rfl (L11_0 H0) ?_
      refine V_lstore_n (pc := 38) (lv1 := [(2, _), (0, _), (1, _)]) dX12_readNet_38 rfl (by decide) rfl ?_
      refine V_bipush (pc := 39) (x := 97) dX12_readNet_39 (by decide) ?_
      refine V_bipush (pc := 41) (x := 16) dX12_readNet_41 (by decide) ?_
      refine V_iload_n (pc := 43) 2 dX12_readNet_43 rfl rfl ?_
      refine V_imul (pc := 44) dX12_readNet_44 ?_
      refine V_iadd (pc := 45) dX12_readNet_45 ?_
      refine V_istore (pc := 46) (lv1 := [(4, _), (2, _), (0, _), (1, _)]) dX12_readNet_46 (by decide) rfl ?_
      refine V_aload_n (pc := 48) 2 dX12_readNet_48 rfl rfl ?_
      refine V_getR (pc := 49) (c := 11) (k := 7) dX12_readNet_49 (by decide) (by decide) kw1250 rfl rfl (L11_0 H0) (L11_r7 H0) ?_
      refine V_iload (pc := 52) 0 dX12_readNet_52 rfl ?_
      refine V_iconst (pc := 54) (x := 2) dX12_readNet_54 (by decide) ?_
      refine V_iadd (pc := 55) dX12_readNet_55 ?_
      refine V_iconst (pc := 56) (x := 0) dX12_readNet_56 (by decide) ?_
      obtain ⟨b9, h⟩ := ite_o h
      refine V_iast (pc := 57) dX12_readNet_57 (L11_s7 H0) (inB_vp b9) ?_
      refine V_aload_n (pc := 58) 2 dX12_readNet_58 rfl rfl ?_
      refine V_getR (pc := 59) (c := 11) (k := 7) dX12_readNet_59 (by decide) (by decide) kw1250 rfl rfl (L11_0 H0) (L11_r7 H0) ?_
      refine V_iload (pc := 62) 0 dX12_readNet_62 rfl ?_
      refine V_iconst (pc := 64) (x := 5) dX12_readNet_64 (by decide) ?_
      refine V_iadd (pc := 65) dX12_readNet_65 ?_
      refine V_bipush (pc := 66) (x := (-2)) dX12_readNet_66 (by decide) ?_
      obtain ⟨b10, h⟩ := ite_o h
      refine V_iast (pc := 68) dX12_readNet_68 (L11_s7 H0) (inB_vp b10) ?_
      refine V_aload_n (pc := 69) 2 dX12_readNet_69 rfl rfl ?_
      refine V_iload (pc := 70) 0 dX12_readNet_70 rfl ?_
      refine V_iconst (pc := 72) (x := 0) dX12_readNet_72 (by decide) ?_
      refine V_iadd (pc := 73) dX12_readNet_73 ?_
      refine V_aload_n (pc := 74) 2 dX12_readNet_74 rfl rfl ?_
      obtain ⟨x12, h11, h⟩ := bnd h
      refine V_cV0 (pc := 75) dX12_readNet_75 kw1492 calX12_readKind kw1494 ks79 (L11_0 H0) rfl (by decide) (Nat.le_of_ble_eq_true rfl) (ctX12_readKind H0 h11) ?_
      obtain ⟨x14, h13, h⟩ := bnd h
      refine V_cV2 (pc := 78) dX12_readNet_78 kw1412 calX12_lays kw1414 ks64 (L11_0 H0) rfl (by decide) (Nat.le_of_ble_eq_true rfl) (ctX12_lays H0 h13) ?_
      refine V_ifB_eq (pc := 81) (tgt := 115) dX12_readNet_81 (by decide) (fun c15 => ?_) (fun c15 => ?_)
      · have h := ite_f c15 h
        refine V_iconst (pc := 115) (x := 0) dX12_readNet_115 (by decide) ?_
        cases h
        exact V_ret (pc := 116) dX12_readNet_116 ⟨rfl, _, rfl, rfl⟩ ⟨rfl, rfl, rfl⟩
      · have h := ite_p c15 h
        refine V_aload_n (pc := 84) 2 dX12_readNet_84 rfl rfl ?_
        refine V_iload (pc := 85) 0 dX12_readNet_85 rfl ?_
        refine V_iconst (pc := 87) (x := 1) dX12_readNet_87 (by decide) ?_
        refine V_iadd (pc := 88) dX12_readNet_88 ?_
        refine V_aload_n (pc := 89) 2 dX12_readNet_89 rfl rfl ?_
        refine V_ldcS (pc := 90) (i := 19) (tx := "gauge") dX12_readNet_90 (by decide) ?_
        refine V_iconst (pc := 92) (x := 1) dX12_readNet_92 (by decide) ?_
        refine V_bipush (pc := 93) (x := 9) dX12_readNet_93 (by decide) ?_
        obtain ⟨x17, h16, h⟩ := bnd h
        refine V_cV3 (pc := 95) dX12_readNet_95 kw1404 calX12_after kw1406 ks62 (L11_0 H0) rfl (by decide) (Nat.le_of_ble_eq_true rfl) (ctX12_after H0 (by decide) h16) ?_
        obtain ⟨x19, h18, h⟩ := bnd h
        refine V_cV2 (pc := 98) dX12_readNet_98 kw1412 calX12_lays kw1414 ks64 (L11_0 H0) rfl (by decide) (Nat.le_of_ble_eq_true rfl) (ctX12_lays H0 h18) ?_
        refine V_ifB_eq (pc := 101) (tgt := 115) dX12_readNet_101 (by decide) (fun c20 => ?_) (fun c20 => ?_)
        · have h := ite_f c20 h
          refine V_iconst (pc := 115) (x := 0) dX12_readNet_115 (by decide) ?_
          cases h
          exact V_ret (pc := 116) dX12_readNet_116 ⟨rfl, _, rfl, rfl⟩ ⟨rfl, rfl, rfl⟩
        · have h := ite_p c20 h
          refine V_aload_n (pc := 104) 2 dX12_readNet_104 rfl rfl ?_
          refine V_iload (pc := 105) 0 dX12_readNet_105 rfl ?_
          refine V_iconst (pc := 107) (x := 3) dX12_readNet_107 (by decide) ?_
          refine V_iadd (pc := 108) dX12_readNet_108 ?_
          obtain ⟨x22, h21, h⟩ := bnd h
          refine V_cV1 (pc := 109) dX12_readNet_109 kw1484 calX12_readWhen kw1486 ks77 (L11_0 H0) rfl (by decide) (Nat.le_of_ble_eq_true rfl) (ctX12_readWhen H0 h21) ?_
          refine V_ifB_ne (pc := 112) (tgt := 117) dX12_readNet_112 (by decide) (fun c23 => ?_) (fun c23 => ?_)
          · have h := ite_p c23 h
            refine V_aload_n (pc := 117) 2 dX12_readNet_117 rfl rfl ?_
            refine V_ldcS (pc := 118) (i := 9) (tx := "of") dX12_readNet_118 (by decide) ?_
            obtain ⟨x25, h24, h⟩ := bnd h
            refine V_cV1 (pc := 120) dX12_readNet_120 kw1389 calX12_isWord kw1391 ks59 (L11_0 H0) rfl (by decide) (Nat.le_of_ble_eq_true rfl) (ctX12_isWord H0 (by decide) h24) ?_
            refine V_ifB_ne (pc := 123) (tgt := 134) dX12_readNet_123 (by decide) (fun c26 => ?_) (fun c26 => ?_)
            · have h := ite_p c26 h
              refine V_aload_n (pc := 134) 2 dX12_readNet_134 rfl rfl ?_
              obtain ⟨x28, h27, h⟩ := bnd h
              refine V_cV0 (pc := 135) dX12_readNet_135 kw1376 calX12_goesOn kw1378 ks56 (L11_0 H0) rfl (by decide) (Nat.le_of_ble_eq_true rfl) (ctX12_goesOn H0 h27) ?_
              refine V_aload_n (pc := 138) 2 dX12_readNet_138 rfl rfl ?_
              refine V_iload (pc := 139) 0 dX12_readNet_139 rfl ?_
              obtain ⟨x30, h29, h⟩ := bnd h
              refine V_cV1 (pc := 141) dX12_readNet_141 kw1499 calX12_readPin kw1501 ks80 (L11_0 H0) rfl (by decide) (Nat.le_of_ble_eq_true rfl) (ctX12_readPin H0 h29) ?_
              refine V_ifB_ne (pc := 144) (tgt := 149) dX12_readNet_144 (by decide) (fun c31 => ?_) (fun c31 => ?_)
              · have h := ite_p c31 h
                exact V_sub [2, 3, 1, 0] rfl (wX12_readNet_149 H0 FUEL x30.2 h)
              · have h := ite_f c31 h
                refine V_iconst (pc := 147) (x := 0) dX12_readNet_147 (by decide) ?_
                cases h
                exact V_ret (pc := 148) dX12_readNet_148 ⟨rfl, _, rfl, rfl⟩ ⟨rfl, rfl, rfl⟩
            · have h := ite_f c26 h
              refine V_aload_n (pc := 126) 2 dX12_readNet_126 rfl rfl ?_
              refine V_iconst (pc := 127) (x := 1) dX12_readNet_127 (by decide) ?_
              refine V_cV1 (pc := 128) dX12_readNet_128 kw1399 calX12_errs kw1401 ks61 (L11_0 H0) rfl (by decide) (Nat.le_of_ble_eq_true rfl) (ctX12_errs H0) ?_
              refine V_pop (pc := 131) dX12_readNet_131 rfl ?_
              refine V_iconst (pc := 132) (x := 0) dX12_readNet_132 (by decide) ?_
              cases h
              exact V_ret (pc := 133) dX12_readNet_133 ⟨rfl, _, rfl, rfl⟩ ⟨rfl, rfl, rfl⟩
          · have h := ite_f c23 h
            refine V_iconst (pc := 115) (x := 0) dX12_readNet_115 (by decide) ?_
            cases h
            exact V_ret (pc := 116) dX12_readNet_116 ⟨rfl, _, rfl, rfl⟩ ⟨rfl, rfl, rfl⟩
    · have h := ite_f c8 h
      refine V_iconst (pc := 32) (x := 0) dX12_readNet_32 (by decide) ?_
      cases h
      exact V_ret (pc := 33) dX12_readNet_33 ⟨rfl, _, rfl, rfl⟩ ⟨rfl, rfl, rfl⟩
theorem calX12_readNet : Cal yX12_readNet cX12_readNet 5 (some .boolean) 0 := ⟨kw1491, kw11, by decide +kernel⟩
theorem ctX12_readNet {G : Gl} {σ : Sg} {d : Dt} {r0 : Nat} {rr : Bool × Dt} (H0 : L11 σ r0) (h : mX12_readNet r0 d = some rr) : CTv G yX12_readNet cX12_readNet 5 (some .boolean) 11 [.ref (gB G + r0)] σ d [.int (b2i rr.1)] rr.2 := by
  refine CT_of pn_RX12 (Nat.le_of_ble_eq_true rfl) ?_
  rw [mX12_readNet] at h
  refine V_aload_n (pc := 0) 0 dX12_readNet_0 rfl rfl ?_
  refine V_getR (pc := 1) (c := 11) (k := 7) dX12_readNet_1 (by decide) (by decide) kw1250 rfl rfl (L11_0 H0) (L11_r7 H0) ?_
  refine V_iconst (pc := 4) (x := 5) dX12_readNet_4 (by decide) ?_
  obtain ⟨b1, h⟩ := ite_o h
  refine V_iald (pc := 5) dX12_readNet_5 (L11_s7 H0) (inB_vp b1) ?_
  refine V_istore_n (pc := 6) (lv1 := [(1, _), (0, _)]) dX12_readNet_6 rfl (by decide) rfl ?_
  refine V_aload_n (pc := 7) 1 dX12_readNet_7 rfl rfl ?_
  refine V_iload_n (pc := 8) 0 dX12_readNet_8 rfl rfl ?_
  refine V_bipush (pc := 9) (x := 10) dX12_readNet_9 (by decide) ?_
  refine V_icmp_ge (pc := 11) (tgt := 18) dX12_readNet_11 (by decide) (fun c2 => ?_) (fun c2 => ?_)
  · have h := ite_p c2 h
    refine V_iconst (pc := 18) (x := 0) dX12_readNet_18 (by decide) ?_
    exact V_sub [1, 0] rfl (wX12_readNet_19 H0 H0 h)
  · have h := ite_n c2 h
    refine V_iconst (pc := 14) (x := 1) dX12_readNet_14 (by decide) ?_
    refine V_goto (pc := 15) (tgt := 19) dX12_readNet_15 (by decide) ?_
    exact V_sub [1, 0] rfl (wX12_readNet_19 H0 H0 h)
theorem wX12_readBuild_114 {G : Gl} {σ : Sg} {r0 : Nat} {v1 : Int32} {v2 : Int32} {rr : Bool × Dt} (H0 : L11 σ r0) : ∀ (n : Nat) (v3 : Int32) (d : Dt), mX12_readBuild_114 r0 v1 v2 n v3 d = some rr → V G yX12_readBuild cX12_readBuild 4 (some .boolean) 9 0 0 (PH [.int (b2i rr.1)] σ rr.2) 114 [(0, .ref (gB G + r0)), (1, .int v1), (2, .int v2), (3, .int v3)] [] σ d := by
  intro n
  induction n with
  | zero =>
    intro v3 d
    intros
    rename_i h
    exact absurd h (by rw [mX12_readBuild_114]; exact fun q => nomatch q)
  | succ n ih =>
    intro v3 d h
    rw [mX12_readBuild_114] at h
    refine V_iload_n (pc := 114) 3 dX12_readBuild_114 rfl rfl ?_
    refine V_iload_n (pc := 115) 1 dX12_readBuild_115 rfl rfl ?_
    refine V_icmp_ge (pc := 116) (tgt := 150) dX12_readBuild_116 (by decide) (fun c21 => ?_) (fun c21 => ?_)
    · have h := ite_p c21 h
      refine V_aload_n (pc := 150) 0 dX12_readBuild_150 rfl rfl ?_
      refine V_getR (pc := 151) (c := 11) (k := 7) dX12_readBuild_151 (by decide) (by decide) kw1250 rfl rfl (L11_0 H0) (L11_r7 H0) ?_
      refine V_sipush (pc := 154) (x := 257) dX12_readBuild_154 (by decide) ?_
      refine V_iconst (pc := 157) (x := 2) dX12_readBuild_157 (by decide) ?_
      refine V_iload_n (pc := 158) 1 dX12_readBuild_158 rfl rfl ?_
      refine V_imul (pc := 159) dX12_readBuild_159 ?_
      refine V_iadd (pc := 160) dX12_readBuild_160 ?_
      refine V_iload_n (pc := 161) 2 dX12_readBuild_161 rfl rfl ?_
      obtain ⟨b22, h⟩ := ite_o h
      refine V_iast (pc := 162) dX12_readBuild_162 (L11_s7 H0) (inB_vp b22) ?_
      refine V_aload_n (pc := 163) 0 dX12_readBuild_163 rfl rfl ?_
      refine V_getR (pc := 164) (c := 11) (k := 7) dX12_readBuild_164 (by decide) (by decide) kw1250 rfl rfl (L11_0 H0) (L11_r7 H0) ?_
      refine V_bipush (pc := 167) (x := 6) dX12_readBuild_167 (by decide) ?_
      refine V_dup2 (pc := 169) dX12_readBuild_169 rfl rfl ?_
      obtain ⟨b23, h⟩ := ite_o h
      refine V_iald (pc := 170) dX12_readBuild_170 (L11_s7 H0) (inB_vp b23) ?_
      refine V_iconst (pc := 171) (x := 1) dX12_readBuild_171 (by decide) ?_
      refine V_iadd (pc := 172) dX12_readBuild_172 ?_
      obtain ⟨b24, h⟩ := ite_o h
      refine V_iast (pc := 173) dX12_readBuild_173 (L11_s7 H0) (inB_vp b24) ?_
      refine V_iconst (pc := 174) (x := 1) dX12_readBuild_174 (by decide) ?_
      cases h
      exact V_ret (pc := 175) dX12_readBuild_175 ⟨rfl, _, rfl, rfl⟩ ⟨rfl, rfl, rfl⟩
    · have h := ite_n c21 h
      refine V_aload_n (pc := 119) 0 dX12_readBuild_119 rfl rfl ?_
      refine V_getR (pc := 120) (c := 11) (k := 7) dX12_readBuild_120 (by decide) (by decide) kw1250 rfl rfl (L11_0 H0) (L11_r7 H0) ?_
      refine V_sipush (pc := 123) (x := 257) dX12_readBuild_123 (by decide) ?_
      refine V_iconst (pc := 126) (x := 2) dX12_readBuild_126 (by decide) ?_
      refine V_iload_n (pc := 127) 3 dX12_readBuild_127 rfl rfl ?_
      refine V_imul (pc := 128) dX12_readBuild_128 ?_
      refine V_iadd (pc := 129) dX12_readBuild_129 ?_
      obtain ⟨b25, h⟩ := ite_o h
      refine V_iald (pc := 130) dX12_readBuild_130 (L11_s7 H0) (inB_vp b25) ?_
      refine V_iload_n (pc := 131) 2 dX12_readBuild_131 rfl rfl ?_
      refine V_icmp_ne (pc := 132) (tgt := 144) dX12_readBuild_132 (by decide) (fun c26 => ?_) (fun c26 => ?_)
      · have h := ite_n c26 h
        refine V_iinc (pc := 144) (lv1 := [(3, _), (0, _), (1, _), (2, _)]) (z := _ + (1 : Int32)) 3 dX12_readBuild_144 rfl rfl (by decide) rfl ?_
        refine V_goto (pc := 147) (tgt := 114) dX12_readBuild_147 (by decide) ?_
        exact V_sub [1, 2, 3, 0] rfl (ih (v3 + (1 : Int32)) d h)
      · have h := ite_p c26 h
        refine V_aload_n (pc := 135) 0 dX12_readBuild_135 rfl rfl ?_
        refine V_bipush (pc := 136) (x := 7) dX12_readBuild_136 (by decide) ?_
        refine V_cV1 (pc := 138) dX12_readBuild_138 kw1399 calX12_errs kw1401 ks61 (L11_0 H0) rfl (by decide) (Nat.le_of_ble_eq_true rfl) (ctX12_errs H0) ?_
        refine V_pop (pc := 141) dX12_readBuild_141 rfl ?_
        refine V_iconst (pc := 142) (x := 0) dX12_readBuild_142 (by decide) ?_
        cases h
        exact V_ret (pc := 143) dX12_readBuild_143 ⟨rfl, _, rfl, rfl⟩ ⟨rfl, rfl, rfl⟩
theorem wX12_readBuild_52 {G : Gl} {σ : Sg} {r0 : Nat} {v1 : Int32} {rr : Bool × Dt} (H0 : L11 σ r0) : ∀ (n : Nat) (v2 : Int32) (d : Dt), mX12_readBuild_52 r0 v1 n v2 d = some rr → V G yX12_readBuild cX12_readBuild 4 (some .boolean) 9 0 0 (PH [.int (b2i rr.1)] σ rr.2) 52 [(0, .ref (gB G + r0)), (1, .int v1), (2, .int v2)] [] σ d := by
  intro n
  induction n with
  | zero =>
    intro v2 d
    intros
    rename_i h
    exact absurd h (by rw [mX12_readBuild_52]; exact fun q => nomatch q)
  | succ n ih =>
    intro v2 d h
    rw [mX12_readBuild_52] at h
    refine V_aload_n (pc := 52) 0 dX12_readBuild_52 rfl rfl ?_
    refine V_getI (pc := 53) (c := 11) (k := 18) dX12_readBuild_53 (by decide) (by decide) kw1261 rfl rfl (L11_0 H0) ?_
    refine V_bipush (pc := 56) (x := 59) dX12_readBuild_56 (by decide) ?_
    refine V_icmp_eq (pc := 58) (tgt := 112) dX12_readBuild_58 (by decide) (fun c11 => ?_) (fun c11 => ?_)
    · have h := ite_p c11 h
      refine V_iconst (pc := 112) (x := 0) dX12_readBuild_112 (by decide) ?_
      refine V_istore_n (pc := 113) (lv1 := [(3, _), (0, _), (1, _), (2, _)]) dX12_readBuild_113 rfl (by decide) rfl ?_
      exact V_sub [1, 2, 3, 0] rfl (wX12_readBuild_114 H0 FUEL (0 : Int32) d h)
    · have h := ite_n c11 h
      refine V_aload_n (pc := 61) 0 dX12_readBuild_61 rfl rfl ?_
      refine V_getI (pc := 62) (c := 11) (k := 18) dX12_readBuild_62 (by decide) (by decide) kw1261 rfl rfl (L11_0 H0) ?_
      refine V_if_eq (pc := 65) (tgt := 112) dX12_readBuild_65 (by decide) (fun c12 => ?_) (fun c12 => ?_)
      · have h := ite_p c12 h
        refine V_iconst (pc := 112) (x := 0) dX12_readBuild_112 (by decide) ?_
        refine V_istore_n (pc := 113) (lv1 := [(3, _), (0, _), (1, _), (2, _)]) dX12_readBuild_113 rfl (by decide) rfl ?_
        exact V_sub [1, 2, 3, 0] rfl (wX12_readBuild_114 H0 FUEL (0 : Int32) d h)
      · have h := ite_n c12 h
        refine V_aload_n (pc := 68) 0 dX12_readBuild_68 rfl rfl ?_
        refine V_bipush (pc := 69) (x := 100) dX12_readBuild_69 (by decide) ?_
        obtain ⟨x14, h13, h⟩ := bnd h
        refine V_cV1 (pc := 71) dX12_readBuild_71 kw1455 calX12_here kw1457 ks72 (L11_0 H0) rfl (by decide) (Nat.le_of_ble_eq_true rfl) (ctX12_here H0 h13) ?_
        refine V_istore_n (pc := 74) (lv1 := [(3, _), (0, _), (1, _), (2, _)]) dX12_readBuild_74 rfl (by decide) rfl ?_
        refine V_iload_n (pc := 75) 0 dX12_readBuild_75 rfl rfl ?_
        refine V_iconst (pc := 76) (x := (-1)) dX12_readBuild_76 (by decide) ?_
        refine V_icmp_ne (pc := 77) (tgt := 82) dX12_readBuild_77 (by decide) (fun c15 => ?_) (fun c15 => ?_)
        · have h := ite_n c15 h
          refine V_iload_n (pc := 82) 3 dX12_readBuild_82 rfl rfl ?_
          refine V_iload_n (pc := 83) 0 dX12_readBuild_83 rfl rfl ?_
          refine V_ishr (pc := 84) dX12_readBuild_84 ?_
          refine V_iconst (pc := 85) (x := 1) dX12_readBuild_85 (by decide) ?_
          refine V_iand (pc := 86) dX12_readBuild_86 ?_
          refine V_iconst (pc := 87) (x := 1) dX12_readBuild_87 (by decide) ?_
          refine V_icmp_ne (pc := 88) (tgt := 99) dX12_readBuild_88 (by decide) (fun c16 => ?_) (fun c16 => ?_)
          · have h := ite_n c16 h
            refine V_iload_n (pc := 99) 3 dX12_readBuild_99 rfl rfl ?_
            refine V_iconst (pc := 100) (x := 1) dX12_readBuild_100 (by decide) ?_
            refine V_iload_n (pc := 101) 0 dX12_readBuild_101 rfl rfl ?_
            refine V_ishl (pc := 102) dX12_readBuild_102 ?_
            refine V_ior (pc := 103) dX12_readBuild_103 ?_
            refine V_istore_n (pc := 104) (lv1 := [(2, _), (3, _), (0, _), (1, _)]) dX12_readBuild_104 rfl (by decide) rfl ?_
            refine V_aload_n (pc := 105) 2 dX12_readBuild_105 rfl rfl ?_
            obtain ⟨x18, h17, h⟩ := bnd h
            refine V_cV0 (pc := 106) dX12_readBuild_106 kw1376 calX12_goesOn kw1378 ks56 (L11_0 H0) rfl (by decide) (Nat.le_of_ble_eq_true rfl) (ctX12_goesOn H0 h17) ?_
            refine V_goto (pc := 109) (tgt := 52) dX12_readBuild_109 (by decide) ?_
            exact V_sub [2, 3, 0] rfl (ih (v2 ||| ((1 : Int32) <<< (x14.1 &&& 31))) x18 h)
          · have h := ite_p c16 h
            refine V_aload_n (pc := 91) 1 dX12_readBuild_91 rfl rfl ?_
            refine V_iconst (pc := 92) (x := 3) dX12_readBuild_92 (by decide) ?_
            refine V_cV1 (pc := 93) dX12_readBuild_93 kw1399 calX12_errs kw1401 ks61 (L11_0 H0) rfl (by decide) (Nat.le_of_ble_eq_true rfl) (ctX12_errs H0) ?_
            refine V_pop (pc := 96) dX12_readBuild_96 rfl ?_
            refine V_iconst (pc := 97) (x := 0) dX12_readBuild_97 (by decide) ?_
            cases h
            exact V_ret (pc := 98) dX12_readBuild_98 ⟨rfl, _, rfl, rfl⟩ ⟨rfl, rfl, rfl⟩
        · have h := ite_p c15 h
          refine V_iconst (pc := 80) (x := 0) dX12_readBuild_80 (by decide) ?_
          cases h
          exact V_ret (pc := 81) dX12_readBuild_81 ⟨rfl, _, rfl, rfl⟩ ⟨rfl, rfl, rfl⟩
theorem wX12_readBuild_19 {G : Gl} {σ : Sg} {d : Dt} {r0 : Nat} {v1 : Int32} {vs0 : Int32} {rs1 : Nat} {rr : Bool × Dt} (H0 : L11 σ r0) (Hs1 : L11 σ rs1) (h : mX12_readBuild_19 r0 v1 vs0 rs1 d = some rr) : V G yX12_readBuild cX12_readBuild 4 (some .boolean) 9 0 0 (PH [.int (b2i rr.1)] σ rr.2) 19 [(0, .ref (gB G + r0)), (1, .int v1)] [.int vs0, .ref (gB G + rs1)] σ d := by
  rw [mX12_readBuild_19] at h
  obtain ⟨x4, h3, h⟩ := bnd h
  refine V_cV1 (pc := 19) dX12_readBuild_19 kw1422 calX12_begins kw1424 ks66 (L11_0 Hs1) rfl (by decide) (Nat.le_of_ble_eq_true rfl) (ctX12_begins Hs1 h3) ?_
  refine V_ifB_eq (pc := 22) (tgt := 48) dX12_readBuild_22 (by decide) (fun c5 => ?_) (fun c5 => ?_)
  · have h := ite_f c5 h
    refine V_iconst (pc := 48) (x := 0) dX12_readBuild_48 (by decide) ?_
    cases h
    exact V_ret (pc := 49) dX12_readBuild_49 ⟨rfl, _, rfl, rfl⟩ ⟨rfl, rfl, rfl⟩
  · have h := ite_p c5 h
    refine V_aload_n (pc := 25) 0 dX12_readBuild_25 rfl rfl ?_
    refine V_sipush (pc := 26) (x := 257) dX12_readBuild_26 (by decide) ?_
    refine V_iconst (pc := 29) (x := 2) dX12_readBuild_29 (by decide) ?_
    refine V_iload_n (pc := 30) 1 dX12_readBuild_30 rfl rfl ?_
    refine V_imul (pc := 31) dX12_readBuild_31 ?_
    refine V_iadd (pc := 32) dX12_readBuild_32 ?_
    refine V_iconst (pc := 33) (x := 1) dX12_readBuild_33 (by decide) ?_
    refine V_iadd (pc := 34) dX12_readBuild_34 ?_
    refine V_aload_n (pc := 35) 0 dX12_readBuild_35 rfl rfl ?_
    refine V_iconst (pc := 36) (x := 1) dX12_readBuild_36 (by decide) ?_
    refine V_bipush (pc := 37) (x := 99) dX12_readBuild_37 (by decide) ?_
    obtain ⟨x7, h6, h⟩ := bnd h
    refine V_cV2 (pc := 39) dX12_readBuild_39 kw1408 calX12_passes kw1410 ks63 (L11_0 H0) rfl (by decide) (Nat.le_of_ble_eq_true rfl) (ctX12_passes H0 h6) ?_
    obtain ⟨x9, h8, h⟩ := bnd h
    refine V_cV2 (pc := 42) dX12_readBuild_42 kw1412 calX12_lays kw1414 ks64 (L11_0 H0) rfl (by decide) (Nat.le_of_ble_eq_true rfl) (ctX12_lays H0 h8) ?_
    refine V_ifB_ne (pc := 45) (tgt := 50) dX12_readBuild_45 (by decide) (fun c10 => ?_) (fun c10 => ?_)
    · have h := ite_p c10 h
      refine V_iconst (pc := 50) (x := 0) dX12_readBuild_50 (by decide) ?_
      refine V_istore_n (pc := 51) (lv1 := [(2, _), (0, _), (1, _)]) dX12_readBuild_51 rfl (by decide) rfl ?_
      exact V_sub [1, 2, 0] rfl (wX12_readBuild_52 H0 FUEL (0 : Int32) x9.2 h)
    · have h := ite_f c10 h
      refine V_iconst (pc := 48) (x := 0) dX12_readBuild_48 (by decide) ?_
      cases h
      exact V_ret (pc := 49) dX12_readBuild_49 ⟨rfl, _, rfl, rfl⟩ ⟨rfl, rfl, rfl⟩
theorem calX12_readBuild : Cal yX12_readBuild cX12_readBuild 4 (some .boolean) 0 := ⟨kw1506, kw11, by decide +kernel⟩
theorem ctX12_readBuild {G : Gl} {σ : Sg} {d : Dt} {r0 : Nat} {rr : Bool × Dt} (H0 : L11 σ r0) (h : mX12_readBuild r0 d = some rr) : CTv G yX12_readBuild cX12_readBuild 4 (some .boolean) 9 [.ref (gB G + r0)] σ d [.int (b2i rr.1)] rr.2 := by
  refine CT_of pn_RX12 (Nat.le_of_ble_eq_true rfl) ?_
  rw [mX12_readBuild] at h
  refine V_aload_n (pc := 0) 0 dX12_readBuild_0 rfl rfl ?_
  refine V_getR (pc := 1) (c := 11) (k := 7) dX12_readBuild_1 (by decide) (by decide) kw1250 rfl rfl (L11_0 H0) (L11_r7 H0) ?_
  refine V_bipush (pc := 4) (x := 6) dX12_readBuild_4 (by decide) ?_
  obtain ⟨b1, h⟩ := ite_o h
  refine V_iald (pc := 6) dX12_readBuild_6 (L11_s7 H0) (inB_vp b1) ?_
  refine V_istore_n (pc := 7) (lv1 := [(1, _), (0, _)]) dX12_readBuild_7 rfl (by decide) rfl ?_
  refine V_aload_n (pc := 8) 1 dX12_readBuild_8 rfl rfl ?_
  refine V_iload_n (pc := 9) 0 dX12_readBuild_9 rfl rfl ?_
  refine V_iconst (pc := 10) (x := 5) dX12_readBuild_10 (by decide) ?_
  refine V_icmp_ge (pc := 11) (tgt := 18) dX12_readBuild_11 (by decide) (fun c2 => ?_) (fun c2 => ?_)
  · have h := ite_p c2 h
    refine V_iconst (pc := 18) (x := 0) dX12_readBuild_18 (by decide) ?_
    exact V_sub [1, 0] rfl (wX12_readBuild_19 H0 H0 h)
  · have h := ite_n c2 h
    refine V_iconst (pc := 14) (x := 1) dX12_readBuild_14 (by decide) ?_
    refine V_goto (pc := 15) (tgt := 19) dX12_readBuild_15 (by decide) ?_
    exact V_sub [1, 0] rfl (wX12_readBuild_19 H0 H0 h)
theorem calX12_readLine : Cal yX12_readLine cX12_readLine 1 (some .boolean) 0 := ⟨kw1387, kw11, by decide +kernel⟩
theorem ctX12_readLine {G : Gl} {σ : Sg} {d : Dt} {r0 : Nat} {rr : Bool × Dt} (H0 : L11 σ r0) (h : mX12_readLine r0 d = some rr) : CTv G yX12_readLine cX12_readLine 1 (some .boolean) 12 [.ref (gB G + r0)] σ d [.int (b2i rr.1)] rr.2 := by
  refine CT_of pn_RX12 (Nat.le_of_ble_eq_true rfl) ?_
  rw [mX12_readLine] at h
  refine V_aload_n (pc := 0) 0 dX12_readLine_0 rfl rfl ?_
  refine V_ldcS (pc := 1) (i := 0) (tx := "board") dX12_readLine_1 (by decide) ?_
  obtain ⟨x2, h1, h⟩ := bnd h
  refine V_cV1 (pc := 3) dX12_readLine_3 kw1389 calX12_isWord kw1391 ks59 (L11_0 H0) rfl (by decide) (Nat.le_of_ble_eq_true rfl) (ctX12_isWord H0 (by decide) h1) ?_
  refine V_ifB_eq (pc := 6) (tgt := 14) dX12_readLine_6 (by decide) (fun c3 => ?_) (fun c3 => ?_)
  · have h := ite_f c3 h
    refine V_aload_n (pc := 14) 0 dX12_readLine_14 rfl rfl ?_
    refine V_ldcS (pc := 15) (i := 1) (tx := "node") dX12_readLine_15 (by decide) ?_
    obtain ⟨x5, h4, h⟩ := bnd h
    refine V_cV1 (pc := 17) dX12_readLine_17 kw1389 calX12_isWord kw1391 ks59 (L11_0 H0) rfl (by decide) (Nat.le_of_ble_eq_true rfl) (ctX12_isWord H0 (by decide) h4) ?_
    refine V_ifB_eq (pc := 20) (tgt := 28) dX12_readLine_20 (by decide) (fun c6 => ?_) (fun c6 => ?_)
    · have h := ite_f c6 h
      refine V_aload_n (pc := 28) 0 dX12_readLine_28 rfl rfl ?_
      refine V_ldcS (pc := 29) (i := 2) (tx := "option") dX12_readLine_29 (by decide) ?_
      obtain ⟨x8, h7, h⟩ := bnd h
      refine V_cV1 (pc := 31) dX12_readLine_31 kw1389 calX12_isWord kw1391 ks59 (L11_0 H0) rfl (by decide) (Nat.le_of_ble_eq_true rfl) (ctX12_isWord H0 (by decide) h7) ?_
      refine V_ifB_eq (pc := 34) (tgt := 42) dX12_readLine_34 (by decide) (fun c9 => ?_) (fun c9 => ?_)
      · have h := ite_f c9 h
        refine V_aload_n (pc := 42) 0 dX12_readLine_42 rfl rfl ?_
        refine V_ldcS (pc := 43) (i := 3) (tx := "plug") dX12_readLine_43 (by decide) ?_
        obtain ⟨x11, h10, h⟩ := bnd h
        refine V_cV1 (pc := 45) dX12_readLine_45 kw1389 calX12_isWord kw1391 ks59 (L11_0 H0) rfl (by decide) (Nat.le_of_ble_eq_true rfl) (ctX12_isWord H0 (by decide) h10) ?_
        refine V_ifB_eq (pc := 48) (tgt := 56) dX12_readLine_48 (by decide) (fun c12 => ?_) (fun c12 => ?_)
        · have h := ite_f c12 h
          refine V_aload_n (pc := 56) 0 dX12_readLine_56 rfl rfl ?_
          refine V_ldcS (pc := 57) (i := 4) (tx := "net") dX12_readLine_57 (by decide) ?_
          obtain ⟨x14, h13, h⟩ := bnd h
          refine V_cV1 (pc := 59) dX12_readLine_59 kw1389 calX12_isWord kw1391 ks59 (L11_0 H0) rfl (by decide) (Nat.le_of_ble_eq_true rfl) (ctX12_isWord H0 (by decide) h13) ?_
          refine V_ifB_eq (pc := 62) (tgt := 70) dX12_readLine_62 (by decide) (fun c15 => ?_) (fun c15 => ?_)
          · have h := ite_f c15 h
            refine V_aload_n (pc := 70) 0 dX12_readLine_70 rfl rfl ?_
            refine V_ldcS (pc := 71) (i := 5) (tx := "build") dX12_readLine_71 (by decide) ?_
            obtain ⟨x17, h16, h⟩ := bnd h
            refine V_cV1 (pc := 73) dX12_readLine_73 kw1389 calX12_isWord kw1391 ks59 (L11_0 H0) rfl (by decide) (Nat.le_of_ble_eq_true rfl) (ctX12_isWord H0 (by decide) h16) ?_
            refine V_ifB_eq (pc := 76) (tgt := 84) dX12_readLine_76 (by decide) (fun c18 => ?_) (fun c18 => ?_)
            · have h := ite_f c18 h
              refine V_aload_n (pc := 84) 0 dX12_readLine_84 rfl rfl ?_
              refine V_iconst (pc := 85) (x := 1) dX12_readLine_85 (by decide) ?_
              refine V_cV1 (pc := 86) dX12_readLine_86 kw1399 calX12_errs kw1401 ks61 (L11_0 H0) rfl (by decide) (Nat.le_of_ble_eq_true rfl) (ctX12_errs H0) ?_
              refine V_pop (pc := 89) dX12_readLine_89 rfl ?_
              refine V_iconst (pc := 90) (x := 0) dX12_readLine_90 (by decide) ?_
              cases h
              exact V_ret (pc := 91) dX12_readLine_91 ⟨rfl, _, rfl, rfl⟩ ⟨rfl, rfl, rfl⟩
            · have h := ite_p c18 h
              refine V_aload_n (pc := 79) 0 dX12_readLine_79 rfl rfl ?_
              obtain ⟨x22, h21, h⟩ := bnd h
              refine V_cV0 (pc := 80) dX12_readLine_80 kw1503 calX12_readBuild kw1505 ks81 (L11_0 H0) rfl (by decide) (Nat.le_of_ble_eq_true rfl) (ctX12_readBuild H0 h21) ?_
              cases h
              exact V_ret (pc := 83) dX12_readLine_83 ⟨rfl, _, rfl, b2i_nar _⟩ ⟨rfl, rfl, rfl⟩
          · have h := ite_p c15 h
            refine V_aload_n (pc := 65) 0 dX12_readLine_65 rfl rfl ?_
            obtain ⟨x24, h23, h⟩ := bnd h
            refine V_cV0 (pc := 66) dX12_readLine_66 kw1488 calX12_readNet kw1490 ks78 (L11_0 H0) rfl (by decide) (Nat.le_of_ble_eq_true rfl) (ctX12_readNet H0 h23) ?_
            cases h
            exact V_ret (pc := 69) dX12_readLine_69 ⟨rfl, _, rfl, b2i_nar _⟩ ⟨rfl, rfl, rfl⟩
        · have h := ite_p c12 h
          refine V_aload_n (pc := 51) 0 dX12_readLine_51 rfl rfl ?_
          obtain ⟨x26, h25, h⟩ := bnd h
          refine V_cV0 (pc := 52) dX12_readLine_52 kw1476 calX12_readPlug kw1478 ks76 (L11_0 H0) rfl (by decide) (Nat.le_of_ble_eq_true rfl) (ctX12_readPlug H0 h25) ?_
          cases h
          exact V_ret (pc := 55) dX12_readLine_55 ⟨rfl, _, rfl, b2i_nar _⟩ ⟨rfl, rfl, rfl⟩
      · have h := ite_p c9 h
        refine V_aload_n (pc := 37) 0 dX12_readLine_37 rfl rfl ?_
        obtain ⟨x28, h27, h⟩ := bnd h
        refine V_cV0 (pc := 38) dX12_readLine_38 kw1472 calX12_readOption kw1474 ks75 (L11_0 H0) rfl (by decide) (Nat.le_of_ble_eq_true rfl) (ctX12_readOption H0 h27) ?_
        cases h
        exact V_ret (pc := 41) dX12_readLine_41 ⟨rfl, _, rfl, b2i_nar _⟩ ⟨rfl, rfl, rfl⟩
    · have h := ite_p c6 h
      refine V_aload_n (pc := 23) 0 dX12_readLine_23 rfl rfl ?_
      obtain ⟨x30, h29, h⟩ := bnd h
      refine V_cV0 (pc := 24) dX12_readLine_24 kw1418 calX12_readNode kw1420 ks65 (L11_0 H0) rfl (by decide) (Nat.le_of_ble_eq_true rfl) (ctX12_readNode H0 h29) ?_
      cases h
      exact V_ret (pc := 27) dX12_readLine_27 ⟨rfl, _, rfl, b2i_nar _⟩ ⟨rfl, rfl, rfl⟩
  · have h := ite_p c3 h
    refine V_aload_n (pc := 9) 0 dX12_readLine_9 rfl rfl ?_
    obtain ⟨x32, h31, h⟩ := bnd h
    refine V_cV0 (pc := 10) dX12_readLine_10 kw1395 calX12_readBoard kw1397 ks60 (L11_0 H0) rfl (by decide) (Nat.le_of_ble_eq_true rfl) (ctX12_readBoard H0 h31) ?_
    cases h
    exact V_ret (pc := 13) dX12_readLine_13 ⟨rfl, _, rfl, b2i_nar _⟩ ⟨rfl, rfl, rfl⟩
theorem wX12_readAll_92 {G : Gl} {σ : Sg} {d : Dt} {r0 : Nat} {rr : Bool × Dt} (H0 : L11 σ r0) (h : mX12_readAll_92 r0 d = some rr) : V G yX12_readAll cX12_readAll 3 (some .boolean) 13 0 0 (PH [.int (b2i rr.1)] σ rr.2) 92 [(0, .ref (gB G + r0))] [] σ d := by
  rw [mX12_readAll_92] at h
  refine V_aload_n (pc := 92) 0 dX12_readAll_92 rfl rfl ?_
  refine V_aload_n (pc := 93) 0 dX12_readAll_93 rfl rfl ?_
  refine V_getI (pc := 94) (c := 11) (k := 18) dX12_readAll_94 (by decide) (by decide) kw1261 rfl rfl (L11_0 H0) ?_
  refine V_if_eq (pc := 97) (tgt := 104) dX12_readAll_97 (by decide) (fun c17 => ?_) (fun c17 => ?_)
  · have h := ite_p c17 h
    refine V_bipush (pc := 104) (x := 6) dX12_readAll_104 (by decide) ?_
    refine V_cV1 (pc := 106) dX12_readAll_106 kw1399 calX12_errs kw1401 ks61 (L11_0 H0) rfl (by decide) (Nat.le_of_ble_eq_true rfl) (ctX12_errs H0) ?_
    refine V_pop (pc := 109) dX12_readAll_109 rfl ?_
    refine V_iconst (pc := 110) (x := 0) dX12_readAll_110 (by decide) ?_
    cases h
    exact V_ret (pc := 111) dX12_readAll_111 ⟨rfl, _, rfl, rfl⟩ ⟨rfl, rfl, rfl⟩
  · have h := ite_n c17 h
    refine V_iconst (pc := 100) (x := 1) dX12_readAll_100 (by decide) ?_
    refine V_goto (pc := 101) (tgt := 106) dX12_readAll_101 (by decide) ?_
    refine V_cV1 (pc := 106) dX12_readAll_106 kw1399 calX12_errs kw1401 ks61 (L11_0 H0) rfl (by decide) (Nat.le_of_ble_eq_true rfl) (ctX12_errs H0) ?_
    refine V_pop (pc := 109) dX12_readAll_109 rfl ?_
    refine V_iconst (pc := 110) (x := 0) dX12_readAll_110 (by decide) ?_
    cases h
    exact V_ret (pc := 111) dX12_readAll_111 ⟨rfl, _, rfl, rfl⟩ ⟨rfl, rfl, rfl⟩
theorem wX12_readAll_54 {G : Gl} {σ : Sg} {r0 : Nat} {rr : Bool × Dt} (H0 : L11 σ r0) : ∀ (n : Nat) (d : Dt), mX12_readAll_54 r0 n d = some rr → V G yX12_readAll cX12_readAll 3 (some .boolean) 13 0 0 (PH [.int (b2i rr.1)] σ rr.2) 54 [(0, .ref (gB G + r0))] [] σ d := by
  intro n
  induction n with
  | zero =>
    intro d
    intros
    rename_i h
    exact absurd h (by rw [mX12_readAll_54]; exact fun q => nomatch q)
  | succ n ih =>
    intro d h
    rw [mX12_readAll_54] at h
    refine V_aload_n (pc := 54) 0 dX12_readAll_54 rfl rfl ?_
    refine V_getI (pc := 55) (c := 11) (k := 18) dX12_readAll_55 (by decide) (by decide) kw1261 rfl rfl (L11_0 H0) ?_
    refine V_bipush (pc := 58) (x := 59) dX12_readAll_58 (by decide) ?_
    refine V_icmp_ne (pc := 60) (tgt := 76) dX12_readAll_60 (by decide) (fun c8 => ?_) (fun c8 => ?_)
    · have h := ite_n c8 h
      refine V_aload_n (pc := 76) 0 dX12_readAll_76 rfl rfl ?_
      refine V_getI (pc := 77) (c := 11) (k := 18) dX12_readAll_77 (by decide) (by decide) kw1261 rfl rfl (L11_0 H0) ?_
      refine V_if_ne (pc := 80) (tgt := 92) dX12_readAll_80 (by decide) (fun c9 => ?_) (fun c9 => ?_)
      · have h := ite_n c9 h
        exact V_sub [0] rfl (wX12_readAll_92 H0 h)
      · have h := ite_p c9 h
        refine V_aload_n (pc := 83) 0 dX12_readAll_83 rfl rfl ?_
        refine V_getR (pc := 84) (c := 11) (k := 7) dX12_readAll_84 (by decide) (by decide) kw1250 rfl rfl (L11_0 H0) (L11_r7 H0) ?_
        refine V_iconst (pc := 87) (x := 5) dX12_readAll_87 (by decide) ?_
        obtain ⟨b10, h⟩ := ite_o h
        refine V_iald (pc := 88) dX12_readAll_88 (L11_s7 H0) (inB_vp b10) ?_
        refine V_if_ne (pc := 89) (tgt := 112) dX12_readAll_89 (by decide) (fun c11 => ?_) (fun c11 => ?_)
        · have h := ite_n c11 h
          refine V_iconst (pc := 112) (x := 1) dX12_readAll_112 (by decide) ?_
          cases h
          exact V_ret (pc := 113) dX12_readAll_113 ⟨rfl, _, rfl, rfl⟩ ⟨rfl, rfl, rfl⟩
        · have h := ite_p c11 h
          exact V_sub [0] rfl (wX12_readAll_92 H0 h)
    · have h := ite_p c8 h
      refine V_aload_n (pc := 63) 0 dX12_readAll_63 rfl rfl ?_
      obtain ⟨x13, h12, h⟩ := bnd h
      refine V_cV0 (pc := 64) dX12_readAll_64 kw1376 calX12_goesOn kw1378 ks56 (L11_0 H0) rfl (by decide) (Nat.le_of_ble_eq_true rfl) (ctX12_goesOn H0 h12) ?_
      refine V_aload_n (pc := 67) 0 dX12_readAll_67 rfl rfl ?_
      obtain ⟨x15, h14, h⟩ := bnd h
      refine V_cV0 (pc := 68) dX12_readAll_68 kw1384 calX12_readLine kw1386 ks58 (L11_0 H0) rfl (by decide) (Nat.le_of_ble_eq_true rfl) (ctX12_readLine H0 h14) ?_
      refine V_ifB_ne (pc := 71) (tgt := 54) dX12_readAll_71 (by decide) (fun c16 => ?_) (fun c16 => ?_)
      · have h := ite_p c16 h
        exact V_sub [0] rfl (ih x15.2 h)
      · have h := ite_f c16 h
        refine V_iconst (pc := 74) (x := 0) dX12_readAll_74 (by decide) ?_
        cases h
        exact V_ret (pc := 75) dX12_readAll_75 ⟨rfl, _, rfl, rfl⟩ ⟨rfl, rfl, rfl⟩
theorem wX12_readAll_22 {G : Gl} {σ : Sg} {r0 : Nat} {rr : Bool × Dt} (H0 : L11 σ r0) : ∀ (n : Nat) (v2 : Int32) (d : Dt), mX12_readAll_22 r0 n v2 d = some rr → V G yX12_readAll cX12_readAll 3 (some .boolean) 13 0 0 (PH [.int (b2i rr.1)] σ rr.2) 22 [(0, .ref (gB G + r0)), (2, .int v2)] [] σ d := by
  intro n
  induction n with
  | zero =>
    intro v2 d
    intros
    rename_i h
    exact absurd h (by rw [mX12_readAll_22]; exact fun q => nomatch q)
  | succ n ih =>
    intro v2 d h
    rw [mX12_readAll_22] at h
    refine V_iload_n (pc := 22) 1 dX12_readAll_22 rfl rfl ?_
    refine V_bipush (pc := 23) (x := 6) dX12_readAll_23 (by decide) ?_
    refine V_icmp_gt (pc := 25) (tgt := 41) dX12_readAll_25 (by decide) (fun c1 => ?_) (fun c1 => ?_)
    · have h := ite_p c1 h
      refine V_aload_n (pc := 41) 0 dX12_readAll_41 rfl rfl ?_
      obtain ⟨x3, h2, h⟩ := bnd h
      refine V_cV0 (pc := 42) dX12_readAll_42 kw1376 calX12_goesOn kw1378 ks56 (L11_0 H0) rfl (by decide) (Nat.le_of_ble_eq_true rfl) (ctX12_goesOn H0 h2) ?_
      refine V_aload_n (pc := 45) 0 dX12_readAll_45 rfl rfl ?_
      obtain ⟨x5, h4, h⟩ := bnd h
      refine V_cV0 (pc := 46) dX12_readAll_46 kw1384 calX12_readLine kw1386 ks58 (L11_0 H0) rfl (by decide) (Nat.le_of_ble_eq_true rfl) (ctX12_readLine H0 h4) ?_
      refine V_ifB_ne (pc := 49) (tgt := 54) dX12_readAll_49 (by decide) (fun c6 => ?_) (fun c6 => ?_)
      · have h := ite_p c6 h
        exact V_sub [0] rfl (wX12_readAll_54 H0 FUEL x5.2 h)
      · have h := ite_f c6 h
        refine V_iconst (pc := 52) (x := 0) dX12_readAll_52 (by decide) ?_
        cases h
        exact V_ret (pc := 53) dX12_readAll_53 ⟨rfl, _, rfl, rfl⟩ ⟨rfl, rfl, rfl⟩
    · have h := ite_n c1 h
      refine V_aload_n (pc := 28) 0 dX12_readAll_28 rfl rfl ?_
      refine V_getR (pc := 29) (c := 11) (k := 7) dX12_readAll_29 (by decide) (by decide) kw1250 rfl rfl (L11_0 H0) (L11_r7 H0) ?_
      refine V_iload_n (pc := 32) 1 dX12_readAll_32 rfl rfl ?_
      refine V_iconst (pc := 33) (x := 0) dX12_readAll_33 (by decide) ?_
      obtain ⟨b7, h⟩ := ite_o h
      refine V_iast (pc := 34) dX12_readAll_34 (L11_s7 H0) (inB_vp b7) ?_
      refine V_iinc (pc := 35) (lv1 := [(2, _), (0, _)]) (z := _ + (1 : Int32)) 1 dX12_readAll_35 rfl rfl (by decide) rfl ?_
      refine V_goto (pc := 38) (tgt := 22) dX12_readAll_38 (by decide) ?_
      exact V_sub [1, 0] rfl (ih (v2 + (1 : Int32)) (uI d (r0 + 3) v2.toNatClampNeg (0 : Int32)) h)
theorem calX12_readAll : Cal yX12_readAll cX12_readAll 3 (some .boolean) 1 := ⟨kw1375, kw11, by decide +kernel⟩
theorem ctX12_readAll {G : Gl} {σ : Sg} {d : Dt} {r0 : Nat} {v1 : Int32} {rr : Bool × Dt} (H0 : L11 σ r0) (h : mX12_readAll r0 v1 d = some rr) : CTv G yX12_readAll cX12_readAll 3 (some .boolean) 13 [.ref (gB G + r0), .int v1] σ d [.int (b2i rr.1)] rr.2 := by
  refine CT_of pn_RX12 (Nat.le_of_ble_eq_true rfl) ?_
  rw [mX12_readAll] at h
  refine V_aload_n (pc := 0) 0 dX12_readAll_0 rfl rfl ?_
  refine V_iload_n (pc := 1) 1 dX12_readAll_1 rfl rfl ?_
  refine V_putI (pc := 2) (c := 11) (k := 15) dX12_readAll_2 (by decide) (by decide) kw1258 rfl rfl rfl ⟨rfl, rfl⟩ (L11_0 H0) ?_
  refine V_aload_n (pc := 5) 0 dX12_readAll_5 rfl rfl ?_
  refine V_iconst (pc := 6) (x := 0) dX12_readAll_6 (by decide) ?_
  refine V_putI (pc := 7) (c := 11) (k := 17) dX12_readAll_7 (by decide) (by decide) kw1260 rfl rfl rfl ⟨rfl, rfl⟩ (L11_0 H0) ?_
  refine V_aload_n (pc := 10) 0 dX12_readAll_10 rfl rfl ?_
  refine V_iconst (pc := 11) (x := 0) dX12_readAll_11 (by decide) ?_
  refine V_putI (pc := 12) (c := 11) (k := 22) dX12_readAll_12 (by decide) (by decide) kw1265 rfl rfl rfl ⟨rfl, rfl⟩ (L11_0 H0) ?_
  refine V_aload_n (pc := 15) 0 dX12_readAll_15 rfl rfl ?_
  refine V_iconst (pc := 16) (x := 0) dX12_readAll_16 (by decide) ?_
  refine V_putI (pc := 17) (c := 11) (k := 13) dX12_readAll_17 (by decide) (by decide) kw1256 rfl rfl rfl ⟨rfl, rfl⟩ (L11_0 H0) ?_
  refine V_iconst (pc := 20) (x := 2) dX12_readAll_20 (by decide) ?_
  refine V_istore_n (pc := 21) (lv1 := [(2, _), (0, _), (1, _)]) dX12_readAll_21 rfl (by decide) rfl ?_
  exact V_sub [1, 0] rfl (wX12_readAll_22 H0 FUEL (2 : Int32) (uI (uI (uI (uI d r0 15 v1) r0 17 (0 : Int32)) r0 22 (0 : Int32)) r0 13 (0 : Int32)) h)
theorem wX12_harness_95 {G : Gl} {σ : Sg} {r0 : Nat} {rr : Int32 × Dt} (H0 : L11 σ r0) : ∀ (n : Nat) (v2 : Int32) (d : Dt), mX12_harness_95 r0 n v2 d = some rr → V G yX12_harness cX12_harness 3 (some .int) 14 0 0 (PH [.int rr.1] σ rr.2) 95 [(0, .ref (gB G + r0)), (2, .int v2)] [] σ d := by
  intro n
  induction n with
  | zero =>
    intro v2 d
    intros
    rename_i h
    exact absurd h (by rw [mX12_harness_95]; exact fun q => nomatch q)
  | succ n ih =>
    intro v2 d h
    rw [mX12_harness_95] at h
    refine V_iload_n (pc := 95) 1 dX12_harness_95 rfl rfl ?_
    refine V_bipush (pc := 96) (x := 36) dX12_harness_96 (by decide) ?_
    refine V_icmp_ge (pc := 98) (tgt := 131) dX12_harness_98 (by decide) (fun c15 => ?_) (fun c15 => ?_)
    · have h := ite_p c15 h
      refine V_aload_n (pc := 131) 0 dX12_harness_131 rfl rfl ?_
      refine V_aload_n (pc := 132) 0 dX12_harness_132 rfl rfl ?_
      refine V_getI (pc := 133) (c := 11) (k := 13) dX12_harness_133 (by decide) (by decide) kw1256 rfl rfl (L11_0 H0) ?_
      refine V_putI (pc := 136) (c := 11) (k := 10) dX12_harness_136 (by decide) (by decide) kw1253 rfl rfl rfl ⟨rfl, rfl⟩ (L11_0 H0) ?_
      refine V_aload_n (pc := 139) 0 dX12_harness_139 rfl rfl ?_
      refine V_iconst (pc := 140) (x := 1) dX12_harness_140 (by decide) ?_
      refine V_putI (pc := 141) (c := 11) (k := 14) dX12_harness_141 (by decide) (by decide) kw1257 rfl rfl rfl ⟨rfl, rfl⟩ (L11_0 H0) ?_
      refine V_aload_n (pc := 144) 0 dX12_harness_144 rfl rfl ?_
      refine V_iconst (pc := 145) (x := 0) dX12_harness_145 (by decide) ?_
      refine V_putI (pc := 146) (c := 11) (k := 34) dX12_harness_146 (by decide) (by decide) kw1277 rfl rfl rfl ⟨rfl, rfl⟩ (L11_0 H0) ?_
      refine V_aload_n (pc := 149) 0 dX12_harness_149 rfl rfl ?_
      refine V_getR (pc := 150) (c := 11) (k := 6) dX12_harness_150 (by decide) (by decide) kw1249 rfl rfl (L11_0 H0) (L11_r6 H0) ?_
      refine V_iconst (pc := 153) (x := 5) dX12_harness_153 (by decide) ?_
      obtain ⟨b16, h⟩ := ite_o h
      refine V_iald (pc := 154) dX12_harness_154 (L11_s6 H0) (inB_vp b16) ?_
      cases h
      exact V_ret (pc := 155) dX12_harness_155 ⟨rfl, _, rfl⟩ ⟨rfl, rfl, rfl⟩
    · have h := ite_n c15 h
      refine V_aload_n (pc := 101) 0 dX12_harness_101 rfl rfl ?_
      refine V_getR (pc := 102) (c := 11) (k := 8) dX12_harness_102 (by decide) (by decide) kw1251 rfl rfl (L11_0 H0) (L11_r8 H0) ?_
      refine V_iload_n (pc := 105) 1 dX12_harness_105 rfl rfl ?_
      refine V_aload_n (pc := 106) 0 dX12_harness_106 rfl rfl ?_
      refine V_getR (pc := 107) (c := 11) (k := 11) dX12_harness_107 (by decide) (by decide) kw1254 rfl rfl (L11_0 H0) (L11_r11 H0) ?_
      refine V_iload_n (pc := 110) 1 dX12_harness_110 rfl rfl ?_
      obtain ⟨b17, h⟩ := ite_o h
      refine V_lald (pc := 111) dX12_harness_111 (L11_s11 H0) (inB_vp b17) ?_
      obtain ⟨b18, h⟩ := ite_o h
      refine V_last (pc := 112) dX12_harness_112 (L11_s8 H0) (inB_vp b18) ?_
      refine V_aload_n (pc := 113) 0 dX12_harness_113 rfl rfl ?_
      refine V_getR (pc := 114) (c := 11) (k := 9) dX12_harness_114 (by decide) (by decide) kw1252 rfl rfl (L11_0 H0) (L11_r9 H0) ?_
      refine V_iload_n (pc := 117) 1 dX12_harness_117 rfl rfl ?_
      refine V_aload_n (pc := 118) 0 dX12_harness_118 rfl rfl ?_
      refine V_getR (pc := 119) (c := 11) (k := 12) dX12_harness_119 (by decide) (by decide) kw1255 rfl rfl (L11_0 H0) (L11_r12 H0) ?_
      refine V_iload_n (pc := 122) 1 dX12_harness_122 rfl rfl ?_
      obtain ⟨b19, h⟩ := ite_o h
      refine V_iald (pc := 123) dX12_harness_123 (L11_s12 H0) (inB_vp b19) ?_
      obtain ⟨b20, h⟩ := ite_o h
      refine V_iast (pc := 124) dX12_harness_124 (L11_s9 H0) (inB_vp b20) ?_
      refine V_iinc (pc := 125) (lv1 := [(2, _), (0, _)]) (z := _ + (1 : Int32)) 1 dX12_harness_125 rfl rfl (by decide) rfl ?_
      refine V_goto (pc := 128) (tgt := 95) dX12_harness_128 (by decide) ?_
      exact V_sub [1, 0] rfl (ih (v2 + (1 : Int32)) (uI (uL d (r0 + 4) v2.toNatClampNeg (d.2 (r0 + 6) v2.toNatClampNeg)) (r0 + 5) v2.toNatClampNeg ((uL d (r0 + 4) v2.toNatClampNeg (d.2 (r0 + 6) v2.toNatClampNeg)).1 (r0 + 7) v2.toNatClampNeg)) h)
theorem wX12_harness_68 {G : Gl} {σ : Sg} {r0 : Nat} {rr : Int32 × Dt} (H0 : L11 σ r0) : ∀ (n : Nat) (v2 : Int32) (d : Dt), mX12_harness_68 r0 n v2 d = some rr → V G yX12_harness cX12_harness 3 (some .int) 14 0 0 (PH [.int rr.1] σ rr.2) 68 [(0, .ref (gB G + r0)), (2, .int v2)] [] σ d := by
  intro n
  induction n with
  | zero =>
    intro v2 d
    intros
    rename_i h
    exact absurd h (by rw [mX12_harness_68]; exact fun q => nomatch q)
  | succ n ih =>
    intro v2 d h
    rw [mX12_harness_68] at h
    refine V_iload_n (pc := 68) 1 dX12_harness_68 rfl rfl ?_
    refine V_sipush (pc := 69) (x := 267) dX12_harness_69 (by decide) ?_
    refine V_icmp_ge (pc := 72) (tgt := 93) dX12_harness_72 (by decide) (fun c12 => ?_) (fun c12 => ?_)
    · have h := ite_p c12 h
      refine V_iconst (pc := 93) (x := 0) dX12_harness_93 (by decide) ?_
      refine V_istore_n (pc := 94) (lv1 := [(2, _), (0, _)]) dX12_harness_94 rfl (by decide) rfl ?_
      exact V_sub [1, 0] rfl (wX12_harness_95 H0 FUEL (0 : Int32) d h)
    · have h := ite_n c12 h
      refine V_aload_n (pc := 75) 0 dX12_harness_75 rfl rfl ?_
      refine V_getR (pc := 76) (c := 11) (k := 6) dX12_harness_76 (by decide) (by decide) kw1249 rfl rfl (L11_0 H0) (L11_r6 H0) ?_
      refine V_iload_n (pc := 79) 1 dX12_harness_79 rfl rfl ?_
      refine V_aload_n (pc := 80) 0 dX12_harness_80 rfl rfl ?_
      refine V_getR (pc := 81) (c := 11) (k := 7) dX12_harness_81 (by decide) (by decide) kw1250 rfl rfl (L11_0 H0) (L11_r7 H0) ?_
      refine V_iload_n (pc := 84) 1 dX12_harness_84 rfl rfl ?_
      obtain ⟨b13, h⟩ := ite_o h
      refine V_iald (pc := 85) dX12_harness_85 (L11_s7 H0) (inB_vp b13) ?_
      obtain ⟨b14, h⟩ := ite_o h
      refine V_iast (pc := 86) dX12_harness_86 (L11_s6 H0) (inB_vp b14) ?_
      refine V_iinc (pc := 87) (lv1 := [(2, _), (0, _)]) (z := _ + (1 : Int32)) 1 dX12_harness_87 rfl rfl (by decide) rfl ?_
      refine V_goto (pc := 90) (tgt := 68) dX12_harness_90 (by decide) ?_
      exact V_sub [1, 0] rfl (ih (v2 + (1 : Int32)) (uI d (r0 + 2) v2.toNatClampNeg (d.1 (r0 + 3) v2.toNatClampNeg)) h)
theorem wX12_harness_18 {G : Gl} {σ : Sg} {d : Dt} {r0 : Nat} {v1 : Int32} {vs0 : Int32} {rs1 : Nat} {rr : Int32 × Dt} (H0 : L11 σ r0) (Hs1 : L11 σ rs1) (h : mX12_harness_18 r0 v1 vs0 rs1 d = some rr) : V G yX12_harness cX12_harness 3 (some .int) 14 0 0 (PH [.int rr.1] σ rr.2) 18 [(0, .ref (gB G + r0)), (1, .int v1)] [.int vs0, .ref (gB G + rs1)] σ d := by
  rw [mX12_harness_18] at h
  refine V_cV1 (pc := 18) dX12_harness_18 kw1368 calX12_isRefused kw1370 ks54 (L11_0 Hs1) rfl (by decide) (Nat.le_of_ble_eq_true rfl) (ctX12_isRefused Hs1) ?_
  refine V_ifB_eq (pc := 21) (tgt := 26) dX12_harness_21 (by decide) (fun c6 => ?_) (fun c6 => ?_)
  · have h := ite_f c6 h
    refine V_aload_n (pc := 26) 0 dX12_harness_26 rfl rfl ?_
    refine V_iconst (pc := 27) (x := 0) dX12_harness_27 (by decide) ?_
    refine V_putI (pc := 28) (c := 11) (k := 5) dX12_harness_28 (by decide) (by decide) kw1248 rfl rfl rfl ⟨rfl, rfl⟩ (L11_0 H0) ?_
    refine V_aload_n (pc := 31) 0 dX12_harness_31 rfl rfl ?_
    refine V_iconst (pc := 32) (x := 0) dX12_harness_32 (by decide) ?_
    refine V_putI (pc := 33) (c := 11) (k := 2) dX12_harness_33 (by decide) (by decide) kw1245 rfl rfl rfl ⟨rfl, rfl⟩ (L11_0 H0) ?_
    refine V_aload_n (pc := 36) 0 dX12_harness_36 rfl rfl ?_
    refine V_iload_n (pc := 37) 1 dX12_harness_37 rfl rfl ?_
    obtain ⟨x8, h7, h⟩ := bnd h
    refine V_cV1 (pc := 38) dX12_harness_38 kw1372 calX12_readAll kw1374 ks55 (L11_0 H0) rfl (by decide) (Nat.le_of_ble_eq_true rfl) (ctX12_readAll H0 h7) ?_
    refine V_ifB_ne (pc := 41) (tgt := 66) dX12_harness_41 (by decide) (fun c9 => ?_) (fun c9 => ?_)
    · have h := ite_p c9 h
      refine V_iconst (pc := 66) (x := 0) dX12_harness_66 (by decide) ?_
      refine V_istore_n (pc := 67) (lv1 := [(2, _), (0, _), (1, _)]) dX12_harness_67 rfl (by decide) rfl ?_
      exact V_sub [1, 0] rfl (wX12_harness_68 H0 FUEL (0 : Int32) x8.2 h)
    · have h := ite_f c9 h
      refine V_aload_n (pc := 44) 0 dX12_harness_44 rfl rfl ?_
      refine V_aload_n (pc := 45) 0 dX12_harness_45 rfl rfl ?_
      refine V_getI (pc := 46) (c := 11) (k := 20) dX12_harness_46 (by decide) (by decide) kw1263 rfl rfl (L11_0 H0) ?_
      refine V_putI (pc := 49) (c := 11) (k := 2) dX12_harness_49 (by decide) (by decide) kw1245 rfl rfl rfl ⟨rfl, rfl⟩ (L11_0 H0) ?_
      refine V_aload_n (pc := 52) 0 dX12_harness_52 rfl rfl ?_
      refine V_aload_n (pc := 53) 0 dX12_harness_53 rfl rfl ?_
      refine V_getI (pc := 54) (c := 11) (k := 21) dX12_harness_54 (by decide) (by decide) kw1264 rfl rfl (L11_0 H0) ?_
      refine V_putI (pc := 57) (c := 11) (k := 3) dX12_harness_57 (by decide) (by decide) kw1246 rfl rfl rfl ⟨rfl, rfl⟩ (L11_0 H0) ?_
      refine V_aload_n (pc := 60) 0 dX12_harness_60 rfl rfl ?_
      refine V_iconst (pc := 61) (x := 4) dX12_harness_61 (by decide) ?_
      refine V_cV1 (pc := 62) dX12_harness_62 kw1507 calX12_no kw1509 ks82 (L11_0 H0) rfl (by decide) (Nat.le_of_ble_eq_true rfl) (ctX12_no H0) ?_
      cases h
      exact V_ret (pc := 65) dX12_harness_65 ⟨rfl, _, rfl⟩ ⟨rfl, rfl, rfl⟩
  · have h := ite_p c6 h
    refine V_iconst (pc := 24) (x := (-1)) dX12_harness_24 (by decide) ?_
    cases h
    exact V_ret (pc := 25) dX12_harness_25 ⟨rfl, _, rfl⟩ ⟨rfl, rfl, rfl⟩
theorem calX12_harness : Cal yX12_harness cX12_harness 3 (some .int) 1 := ⟨kw1364, kw11, by decide +kernel⟩
theorem ctX12_harness {G : Gl} {σ : Sg} {d : Dt} {r0 : Nat} {v1 : Int32} {rr : Int32 × Dt} (H0 : L11 σ r0) (h : mX12_harness r0 v1 d = some rr) : CTv G yX12_harness cX12_harness 3 (some .int) 14 [.ref (gB G + r0), .int v1] σ d [.int rr.1] rr.2 := by
  refine CT_of pn_RX12 (Nat.le_of_ble_eq_true rfl) ?_
  rw [mX12_harness] at h
  refine V_aload_n (pc := 0) 0 dX12_harness_0 rfl rfl ?_
  refine V_iload_n (pc := 1) 1 dX12_harness_1 rfl rfl ?_
  refine V_iconst (pc := 2) (x := 0) dX12_harness_2 (by decide) ?_
  refine V_aload_n (pc := 3) 0 dX12_harness_3 rfl rfl ?_
  refine V_getI (pc := 4) (c := 11) (k := 5) dX12_harness_4 (by decide) (by decide) kw1248 rfl rfl (L11_0 H0) ?_
  refine V_cS3 (pc := 7) dX12_harness_7 kw1365 calX12_in kw1366 (by decide) (Nat.le_of_ble_eq_true rfl) (ctX12_in) ?_
  refine V_ifB_eq (pc := 10) (tgt := 17) dX12_harness_10 (by decide) (fun c3 => ?_) (fun c3 => ?_)
  · have h := ite_f c3 h
    refine V_iconst (pc := 17) (x := 2) dX12_harness_17 (by decide) ?_
    exact V_sub [0, 1] rfl (wX12_harness_18 H0 H0 h)
  · have h := ite_p c3 h
    refine V_iconst (pc := 13) (x := 0) dX12_harness_13 (by decide) ?_
    refine V_goto (pc := 14) (tgt := 18) dX12_harness_14 (by decide) ?_
    exact V_sub [0, 1] rfl (wX12_harness_18 H0 H0 h)
theorem calX12_isPin : Cal yX12_isPin cX12_isPin 3 (some .boolean) 2 := ⟨kw1647, kw11, by decide +kernel⟩
theorem ctX12_isPin {G : Gl} {σ : Sg} {d : Dt} {r0 : Nat} {v1 : Int32} {v2 : Int32} {rr : Bool} (H0 : L11 σ r0) (h : mX12_isPin r0 v1 v2 d = some rr) : CTv G yX12_isPin cX12_isPin 3 (some .boolean) 2 [.ref (gB G + r0), .int v1, .int v2] σ d [.int (b2i rr)] d := by
  refine CT_of pn_RX12 (Nat.le_of_ble_eq_true rfl) ?_
  rw [mX12_isPin] at h
  refine V_aload_n (pc := 0) 0 dX12_isPin_0 rfl rfl ?_
  refine V_iload_n (pc := 1) 1 dX12_isPin_1 rfl rfl ?_
  obtain ⟨x2, h1, h⟩ := bnd h
  refine V_cV1 (pc := 2) dX12_isPin_2 kw1632 calX12_isNet kw1634 ks94 (L11_0 H0) rfl (by decide) (Nat.le_of_ble_eq_true rfl) (ctX12_isNet H0 h1) ?_
  refine V_ifB_eq (pc := 5) (tgt := 28) dX12_isPin_5 (by decide) (fun c3 => ?_) (fun c3 => ?_)
  · have h := ite_f c3 h
    refine V_iconst (pc := 28) (x := 0) dX12_isPin_28 (by decide) ?_
    cases h
    exact V_ret (pc := 29) dX12_isPin_29 ⟨rfl, _, rfl, rfl⟩ ⟨rfl, rfl, rfl⟩
  · have h := ite_p c3 h
    refine V_iload_n (pc := 8) 2 dX12_isPin_8 rfl rfl ?_
    refine V_iconst (pc := 9) (x := 0) dX12_isPin_9 (by decide) ?_
    refine V_aload_n (pc := 10) 0 dX12_isPin_10 rfl rfl ?_
    refine V_iload_n (pc := 11) 1 dX12_isPin_11 rfl rfl ?_
    refine V_iconst (pc := 12) (x := 2) dX12_isPin_12 (by decide) ?_
    obtain ⟨x5, h4, h⟩ := bnd h
    refine V_cV2 (pc := 13) dX12_isPin_13 kw1636 calX12_netOf kw1638 ks95 (L11_0 H0) rfl (by decide) (Nat.le_of_ble_eq_true rfl) (ctX12_netOf H0 h4) ?_
    refine V_iconst (pc := 16) (x := 1) dX12_isPin_16 (by decide) ?_
    refine V_isub (pc := 17) dX12_isPin_17 ?_
    refine V_cS3 (pc := 18) dX12_isPin_18 kw1365 calX12_in kw1366 (by decide) (Nat.le_of_ble_eq_true rfl) (ctX12_in) ?_
    refine V_ifB_eq (pc := 21) (tgt := 28) dX12_isPin_21 (by decide) (fun c8 => ?_) (fun c8 => ?_)
    · have h := ite_f c8 h
      refine V_iconst (pc := 28) (x := 0) dX12_isPin_28 (by decide) ?_
      cases h
      exact V_ret (pc := 29) dX12_isPin_29 ⟨rfl, _, rfl, rfl⟩ ⟨rfl, rfl, rfl⟩
    · have h := ite_p c8 h
      refine V_iconst (pc := 24) (x := 1) dX12_isPin_24 (by decide) ?_
      refine V_goto (pc := 25) (tgt := 29) dX12_isPin_25 (by decide) ?_
      cases h
      exact V_ret (pc := 29) dX12_isPin_29 ⟨rfl, _, rfl, rfl⟩ ⟨rfl, rfl, rfl⟩
theorem calX12_isPlug : Cal yX12_isPlug cX12_isPlug 2 (some .boolean) 1 := ⟨kw1623, kw11, by decide +kernel⟩
theorem ctX12_isPlug {G : Gl} {σ : Sg} {d : Dt} {r0 : Nat} {v1 : Int32} {rr : Bool} (H0 : L11 σ r0) (h : mX12_isPlug r0 v1 d = some rr) : CTv G yX12_isPlug cX12_isPlug 2 (some .boolean) 1 [.ref (gB G + r0), .int v1] σ d [.int (b2i rr)] d := by
  refine CT_of pn_RX12 (Nat.le_of_ble_eq_true rfl) ?_
  rw [mX12_isPlug] at h
  refine V_aload_n (pc := 0) 0 dX12_isPlug_0 rfl rfl ?_
  refine V_getI (pc := 1) (c := 11) (k := 14) dX12_isPlug_1 (by decide) (by decide) kw1257 rfl rfl (L11_0 H0) ?_
  refine V_if_eq (pc := 4) (tgt := 27) dX12_isPlug_4 (by decide) (fun c1 => ?_) (fun c1 => ?_)
  · have h := ite_p c1 h
    refine V_iconst (pc := 27) (x := 0) dX12_isPlug_27 (by decide) ?_
    cases h
    exact V_ret (pc := 28) dX12_isPlug_28 ⟨rfl, _, rfl, rfl⟩ ⟨rfl, rfl, rfl⟩
  · have h := ite_n c1 h
    refine V_iload_n (pc := 7) 1 dX12_isPlug_7 rfl rfl ?_
    refine V_iconst (pc := 8) (x := 0) dX12_isPlug_8 (by decide) ?_
    refine V_aload_n (pc := 9) 0 dX12_isPlug_9 rfl rfl ?_
    refine V_getR (pc := 10) (c := 11) (k := 6) dX12_isPlug_10 (by decide) (by decide) kw1249 rfl rfl (L11_0 H0) (L11_r6 H0) ?_
    refine V_iconst (pc := 13) (x := 4) dX12_isPlug_13 (by decide) ?_
    obtain ⟨b2, h⟩ := ite_o h
    refine V_iald (pc := 14) dX12_isPlug_14 (L11_s6 H0) (inB_vp b2) ?_
    refine V_iconst (pc := 15) (x := 1) dX12_isPlug_15 (by decide) ?_
    refine V_isub (pc := 16) dX12_isPlug_16 ?_
    refine V_cS3 (pc := 17) dX12_isPlug_17 kw1365 calX12_in kw1366 (by decide) (Nat.le_of_ble_eq_true rfl) (ctX12_in) ?_
    refine V_ifB_eq (pc := 20) (tgt := 27) dX12_isPlug_20 (by decide) (fun c5 => ?_) (fun c5 => ?_)
    · have h := ite_f c5 h
      refine V_iconst (pc := 27) (x := 0) dX12_isPlug_27 (by decide) ?_
      cases h
      exact V_ret (pc := 28) dX12_isPlug_28 ⟨rfl, _, rfl, rfl⟩ ⟨rfl, rfl, rfl⟩
    · have h := ite_p c5 h
      refine V_iconst (pc := 23) (x := 1) dX12_isPlug_23 (by decide) ?_
      refine V_goto (pc := 24) (tgt := 28) dX12_isPlug_24 (by decide) ?_
      cases h
      exact V_ret (pc := 28) dX12_isPlug_28 ⟨rfl, _, rfl, rfl⟩ ⟨rfl, rfl, rfl⟩
theorem calX12_wiresOf : Cal yX12_wiresOf cX12_wiresOf 2 (some .int) 1 := ⟨kw1703, kw11, by decide +kernel⟩
theorem ctX12_wiresOf {G : Gl} {σ : Sg} {d : Dt} {v0 : Int32} {rr : Int32} (h : mX12_wiresOf v0 = some rr) : CTv G yX12_wiresOf cX12_wiresOf 2 (some .int) 1 [.int v0] σ d [.int rr] d := by
  refine CT_of pn_RX12 (Nat.le_of_ble_eq_true rfl) ?_
  rw [mX12_wiresOf] at h
  refine V_iload_n (pc := 0) 0 dX12_wiresOf_0 rfl rfl ?_
  obtain ⟨x2, h1, h⟩ := bnd h
  refine V_cS1 (pc := 1) dX12_wiresOf_1 kw1683 calX12_bitsOf kw1684 (by decide) (Nat.le_of_ble_eq_true rfl) (ctX12_bitsOf h1) ?_
  refine V_istore_n (pc := 4) (lv1 := [(1, _), (0, _)]) dX12_wiresOf_4 rfl (by decide) rfl ?_
  refine V_iload_n (pc := 5) 0 dX12_wiresOf_5 rfl rfl ?_
  refine V_iconst (pc := 6) (x := 2) dX12_wiresOf_6 (by decide) ?_
  refine V_icmp_ge (pc := 7) (tgt := 14) dX12_wiresOf_7 (by decide) (fun c3 => ?_) (fun c3 => ?_)
  · have h := ite_p c3 h
    refine V_iload_n (pc := 14) 0 dX12_wiresOf_14 rfl rfl ?_
    refine V_iconst (pc := 15) (x := 2) dX12_wiresOf_15 (by decide) ?_
    refine V_icmp_ne (pc := 16) (tgt := 23) dX12_wiresOf_16 (by decide) (fun c4 => ?_) (fun c4 => ?_)
    · have h := ite_n c4 h
      refine V_iload_n (pc := 23) 0 dX12_wiresOf_23 rfl rfl ?_
      cases h
      exact V_ret (pc := 24) dX12_wiresOf_24 ⟨rfl, _, rfl⟩ ⟨rfl, rfl, rfl⟩
    · have h := ite_p c4 h
      refine V_iconst (pc := 19) (x := 1) dX12_wiresOf_19 (by decide) ?_
      refine V_goto (pc := 20) (tgt := 24) dX12_wiresOf_20 (by decide) ?_
      cases h
      exact V_ret (pc := 24) dX12_wiresOf_24 ⟨rfl, _, rfl⟩ ⟨rfl, rfl, rfl⟩
  · have h := ite_n c3 h
    refine V_iconst (pc := 10) (x := 0) dX12_wiresOf_10 (by decide) ?_
    refine V_goto (pc := 11) (tgt := 24) dX12_wiresOf_11 (by decide) ?_
    cases h
    exact V_ret (pc := 24) dX12_wiresOf_24 ⟨rfl, _, rfl⟩ ⟨rfl, rfl, rfl⟩
theorem wX12_isUnused_2 {G : Gl} {σ : Sg} {d : Dt} {r0 : Nat} {v1 : Int32} {rr : Bool} (H0 : L11 σ r0) : ∀ (n : Nat) (v2 : Int32), mX12_isUnused_2 d r0 v1 n v2 = some rr → V G yX12_isUnused cX12_isUnused 3 (some .boolean) 3 0 0 (PH [.int (b2i rr)] σ d) 2 [(0, .ref (gB G + r0)), (1, .int v1), (2, .int v2)] [] σ d := by
  intro n
  induction n with
  | zero =>
    intro v2
    intros
    rename_i h
    exact absurd h (by rw [mX12_isUnused_2]; exact fun q => nomatch q)
  | succ n ih =>
    intro v2 h
    rw [mX12_isUnused_2] at h
    refine V_iload_n (pc := 2) 2 dX12_isUnused_2 rfl rfl ?_
    refine V_aload_n (pc := 3) 0 dX12_isUnused_3 rfl rfl ?_
    refine V_getR (pc := 4) (c := 11) (k := 6) dX12_isUnused_4 (by decide) (by decide) kw1249 rfl rfl (L11_0 H0) (L11_r6 H0) ?_
    refine V_bipush (pc := 7) (x := 6) dX12_isUnused_7 (by decide) ?_
    obtain ⟨b1, h⟩ := ite_o h
    refine V_iald (pc := 9) dX12_isUnused_9 (L11_s6 H0) (inB_vp b1) ?_
    refine V_icmp_ge (pc := 10) (tgt := 37) dX12_isUnused_10 (by decide) (fun c2 => ?_) (fun c2 => ?_)
    · have h := ite_p c2 h
      refine V_iconst (pc := 37) (x := 1) dX12_isUnused_37 (by decide) ?_
      cases h
      exact V_ret (pc := 38) dX12_isUnused_38 ⟨rfl, _, rfl, rfl⟩ ⟨rfl, rfl, rfl⟩
    · have h := ite_n c2 h
      refine V_aload_n (pc := 13) 0 dX12_isUnused_13 rfl rfl ?_
      refine V_aload_n (pc := 14) 0 dX12_isUnused_14 rfl rfl ?_
      refine V_iload_n (pc := 15) 2 dX12_isUnused_15 rfl rfl ?_
      obtain ⟨x4, h3, h⟩ := bnd h
      refine V_cV1 (pc := 16) dX12_isUnused_16 kw1787 calX12_variantOf kw1789 ks114 (L11_0 H0) rfl (by decide) (Nat.le_of_ble_eq_true rfl) (ctX12_variantOf H0 h3) ?_
      refine V_iload_n (pc := 19) 1 dX12_isUnused_19 rfl rfl ?_
      obtain ⟨x6, h5, h⟩ := bnd h
      refine V_cV2 (pc := 20) dX12_isUnused_20 kw1667 calX12_pinsOf kw1669 ks99 (L11_0 H0) rfl (by decide) (Nat.le_of_ble_eq_true rfl) (ctX12_pinsOf H0 h5) ?_
      obtain ⟨x8, h7, h⟩ := bnd h
      refine V_cS1 (pc := 23) dX12_isUnused_23 kw1701 calX12_wiresOf kw1702 (by decide) (Nat.le_of_ble_eq_true rfl) (ctX12_wiresOf h7) ?_
      refine V_if_le (pc := 26) (tgt := 31) dX12_isUnused_26 (by decide) (fun c9 => ?_) (fun c9 => ?_)
      · have h := ite_p c9 h
        refine V_iinc (pc := 31) (lv1 := [(2, _), (0, _), (1, _)]) (z := _ + (1 : Int32)) 2 dX12_isUnused_31 rfl rfl (by decide) rfl ?_
        refine V_goto (pc := 34) (tgt := 2) dX12_isUnused_34 (by decide) ?_
        exact V_sub [1, 2, 0] rfl (ih (v2 + (1 : Int32)) h)
      · have h := ite_n c9 h
        refine V_iconst (pc := 29) (x := 0) dX12_isUnused_29 (by decide) ?_
        cases h
        exact V_ret (pc := 30) dX12_isUnused_30 ⟨rfl, _, rfl, rfl⟩ ⟨rfl, rfl, rfl⟩
theorem calX12_isUnused : Cal yX12_isUnused cX12_isUnused 3 (some .boolean) 1 := ⟨kw1878, kw11, by decide +kernel⟩
theorem ctX12_isUnused {G : Gl} {σ : Sg} {d : Dt} {r0 : Nat} {v1 : Int32} {rr : Bool} (H0 : L11 σ r0) (h : mX12_isUnused r0 v1 d = some rr) : CTv G yX12_isUnused cX12_isUnused 3 (some .boolean) 3 [.ref (gB G + r0), .int v1] σ d [.int (b2i rr)] d := by
  refine CT_of pn_RX12 (Nat.le_of_ble_eq_true rfl) ?_
  rw [mX12_isUnused] at h
  refine V_iconst (pc := 0) (x := 0) dX12_isUnused_0 (by decide) ?_
  refine V_istore_n (pc := 1) (lv1 := [(2, _), (0, _), (1, _)]) dX12_isUnused_1 rfl (by decide) rfl ?_
  exact V_sub [1, 2, 0] rfl (wX12_isUnused_2 H0 FUEL (0 : Int32) h)
theorem wX12_lying_135 {G : Gl} {σ : Sg} {d : Dt} {g25 : Int32 → Int32 → Dt → Option (Int32 × Dt)} {r0 : Nat} {v1 : Int32} {v2 : Int32} {v3 : Int32} {v4 : Int32} {vs0 : Int32} {rr : Int32 × Dt} (H0 : L11 σ r0) (hg25 : ∀ (v3 : Int32) (v4 : Int32) (d : Dt), g25 v3 v4 d = some rr → V G yX12_lying cX12_lying 7 (some .int) 1 0 0 (PH [.int rr.1] σ rr.2) 25 [(0, .ref (gB G + r0)), (1, .int v1), (2, .int v2), (3, .int v3), (4, .int v4)] [] σ d) (h : mX12_lying_135 g25 r0 v1 v2 v3 v4 vs0 d = some rr) : V G yX12_lying cX12_lying 7 (some .int) 1 0 0 (PH [.int rr.1] σ rr.2) 135 [(0, .ref (gB G + r0)), (1, .int v1), (2, .int v2), (3, .int v3), (4, .int v4)] [.int vs0] σ d := by
  rw [mX12_lying_135] at h
  refine V_istore (pc := 135) (lv1 := [(6, _), (0, _), (1, _), (2, _), (3, _), (4, _)]) dX12_lying_135 (by decide) rfl ?_
  refine V_iload_n (pc := 137) 4 dX12_lying_137 rfl rfl ?_
  refine V_iload (pc := 138) 0 dX12_lying_138 rfl ?_
  refine V_if_eq (pc := 140) (tgt := 150) dX12_lying_140 (by decide) (fun c33 => ?_) (fun c33 => ?_)
  · have h := ite_p c33 h
    refine V_iconst (pc := 150) (x := 0) dX12_lying_150 (by decide) ?_
    refine V_ior (pc := 151) dX12_lying_151 ?_
    refine V_istore_n (pc := 152) (lv1 := [(3, _), (6, _), (0, _), (1, _), (2, _), (4, _)]) dX12_lying_152 rfl (by decide) rfl ?_
    refine V_iinc (pc := 153) (lv1 := [(4, _), (3, _), (6, _), (0, _), (1, _), (2, _)]) (z := _ + (1 : Int32)) 5 dX12_lying_153 rfl rfl (by decide) rfl ?_
    refine V_goto (pc := 156) (tgt := 25) dX12_lying_156 (by decide) ?_
    exact V_sub [3, 4, 5, 1, 0] rfl (hg25 (v3 ||| (0 : Int32)) (v4 + (1 : Int32)) d h)
  · have h := ite_n c33 h
    refine V_iconst (pc := 143) (x := 1) dX12_lying_143 (by decide) ?_
    refine V_iload (pc := 144) 5 dX12_lying_144 rfl ?_
    refine V_ishl (pc := 146) dX12_lying_146 ?_
    refine V_goto (pc := 147) (tgt := 151) dX12_lying_147 (by decide) ?_
    refine V_ior (pc := 151) dX12_lying_151 ?_
    refine V_istore_n (pc := 152) (lv1 := [(3, _), (6, _), (0, _), (1, _), (2, _), (4, _)]) dX12_lying_152 rfl (by decide) rfl ?_
    refine V_iinc (pc := 153) (lv1 := [(4, _), (3, _), (6, _), (0, _), (1, _), (2, _)]) (z := _ + (1 : Int32)) 5 dX12_lying_153 rfl rfl (by decide) rfl ?_
    refine V_goto (pc := 156) (tgt := 25) dX12_lying_156 (by decide) ?_
    exact V_sub [3, 4, 5, 1, 0] rfl (hg25 (v3 ||| ((1 : Int32) <<< (v4 &&& 31))) (v4 + (1 : Int32)) d h)
theorem wX12_lying_25 {G : Gl} {σ : Sg} {r0 : Nat} {v1 : Int32} {v2 : Int32} {rr : Int32 × Dt} (H0 : L11 σ r0) : ∀ (n : Nat) (v3 : Int32) (v4 : Int32) (d : Dt), mX12_lying_25 r0 v1 v2 n v3 v4 d = some rr → V G yX12_lying cX12_lying 7 (some .int) 1 0 0 (PH [.int rr.1] σ rr.2) 25 [(0, .ref (gB G + r0)), (1, .int v1), (2, .int v2), (3, .int v3), (4, .int v4)] [] σ d := by
  intro n
  induction n with
  | zero =>
    intro v3 v4 d
    intros
    rename_i h
    exact absurd h (by rw [mX12_lying_25]; exact fun q => nomatch q)
  | succ n ih =>
    intro v3 v4 d h
    rw [mX12_lying_25] at h
    refine V_iload (pc := 25) 4 dX12_lying_25 rfl ?_
    refine V_aload_n (pc := 27) 0 dX12_lying_27 rfl rfl ?_
    refine V_getR (pc := 28) (c := 11) (k := 6) dX12_lying_28 (by decide) (by decide) kw1249 rfl rfl (L11_0 H0) (L11_r6 H0) ?_
    refine V_iconst (pc := 31) (x := 2) dX12_lying_31 (by decide) ?_
    obtain ⟨b8, h⟩ := ite_o h
    refine V_iald (pc := 32) dX12_lying_32 (L11_s6 H0) (inB_vp b8) ?_
    refine V_icmp_ge (pc := 33) (tgt := 159) dX12_lying_33 (by decide) (fun c9 => ?_) (fun c9 => ?_)
    · have h := ite_p c9 h
      refine V_iload_n (pc := 159) 3 dX12_lying_159 rfl rfl ?_
      cases h
      exact V_ret (pc := 160) dX12_lying_160 ⟨rfl, _, rfl⟩ ⟨rfl, rfl, rfl⟩
    · have h := ite_n c9 h
      refine V_aload_n (pc := 36) 0 dX12_lying_36 rfl rfl ?_
      refine V_getR (pc := 37) (c := 11) (k := 6) dX12_lying_37 (by decide) (by decide) kw1249 rfl rfl (L11_0 H0) (L11_r6 H0) ?_
      refine V_bipush (pc := 40) (x := 7) dX12_lying_40 (by decide) ?_
      refine V_iload (pc := 42) 4 dX12_lying_42 rfl ?_
      refine V_iadd (pc := 44) dX12_lying_44 ?_
      obtain ⟨b10, h⟩ := ite_o h
      refine V_iald (pc := 45) dX12_lying_45 (L11_s6 H0) (inB_vp b10) ?_
      refine V_istore (pc := 46) (lv1 := [(5, _), (0, _), (1, _), (2, _), (3, _), (4, _)]) dX12_lying_46 (by decide) rfl ?_
      refine V_iload_n (pc := 48) 2 dX12_lying_48 rfl rfl ?_
      refine V_aload_n (pc := 49) 1 dX12_lying_49 rfl rfl ?_
      refine V_getR (pc := 50) (c := 11) (k := 24) dX12_lying_50 (by decide) (by decide) kw1267 rfl rfl (L11_0 H0) (L11_r24 H0) ?_
      refine V_iload (pc := 53) 5 dX12_lying_53 rfl ?_
      obtain ⟨b11, h⟩ := ite_o h
      refine V_iald (pc := 55) dX12_lying_55 (L11_s24 H0) (inB_vp b11) ?_
      refine V_aload_n (pc := 56) 1 dX12_lying_56 rfl rfl ?_
      refine V_getR (pc := 57) (c := 11) (k := 24) dX12_lying_57 (by decide) (by decide) kw1267 rfl rfl (L11_0 H0) (L11_r24 H0) ?_
      refine V_iload (pc := 60) 0 dX12_lying_60 rfl ?_
      obtain ⟨b12, h⟩ := ite_o h
      refine V_iald (pc := 62) dX12_lying_62 (L11_s24 H0) (inB_vp b12) ?_
      refine V_cS2 (pc := 63) dX12_lying_63 kw1597 calX12_least kw1598 (by decide) (Nat.le_of_ble_eq_true rfl) (ctX12_least) ?_
      refine V_aload_n (pc := 66) 1 dX12_lying_66 rfl rfl ?_
      refine V_getR (pc := 67) (c := 11) (k := 24) dX12_lying_67 (by decide) (by decide) kw1267 rfl rfl (L11_0 H0) (L11_r24 H0) ?_
      refine V_iload (pc := 70) 5 dX12_lying_70 rfl ?_
      obtain ⟨b15, h⟩ := ite_o h
      refine V_iald (pc := 72) dX12_lying_72 (L11_s24 H0) (inB_vp b15) ?_
      refine V_aload_n (pc := 73) 1 dX12_lying_73 rfl rfl ?_
      refine V_getR (pc := 74) (c := 11) (k := 24) dX12_lying_74 (by decide) (by decide) kw1267 rfl rfl (L11_0 H0) (L11_r24 H0) ?_
      refine V_iload (pc := 77) 0 dX12_lying_77 rfl ?_
      obtain ⟨b16, h⟩ := ite_o h
      refine V_iald (pc := 79) dX12_lying_79 (L11_s24 H0) (inB_vp b16) ?_
      refine V_cS2 (pc := 80) dX12_lying_80 kw1594 calX12_most kw1595 (by decide) (Nat.le_of_ble_eq_true rfl) (ctX12_most) ?_
      refine V_cS3 (pc := 83) dX12_lying_83 kw1365 calX12_in kw1366 (by decide) (Nat.le_of_ble_eq_true rfl) (ctX12_in) ?_
      refine V_ifB_eq (pc := 86) (tgt := 134) dX12_lying_86 (by decide) (fun c21 => ?_) (fun c21 => ?_)
      · have h := ite_f c21 h
        refine V_iconst (pc := 134) (x := 0) dX12_lying_134 (by decide) ?_
        exact V_sub [1, 2, 3, 4, 5] rfl (wX12_lying_135 H0 ih h)
      · have h := ite_p c21 h
        refine V_iload_n (pc := 89) 3 dX12_lying_89 rfl rfl ?_
        refine V_aload_n (pc := 90) 1 dX12_lying_90 rfl rfl ?_
        refine V_getR (pc := 91) (c := 11) (k := 25) dX12_lying_91 (by decide) (by decide) kw1268 rfl rfl (L11_0 H0) (L11_r25 H0) ?_
        refine V_iload (pc := 94) 5 dX12_lying_94 rfl ?_
        obtain ⟨b22, h⟩ := ite_o h
        refine V_iald (pc := 96) dX12_lying_96 (L11_s25 H0) (inB_vp b22) ?_
        refine V_aload_n (pc := 97) 1 dX12_lying_97 rfl rfl ?_
        refine V_getR (pc := 98) (c := 11) (k := 25) dX12_lying_98 (by decide) (by decide) kw1268 rfl rfl (L11_0 H0) (L11_r25 H0) ?_
        refine V_iload (pc := 101) 0 dX12_lying_101 rfl ?_
        obtain ⟨b23, h⟩ := ite_o h
        refine V_iald (pc := 103) dX12_lying_103 (L11_s25 H0) (inB_vp b23) ?_
        refine V_cS2 (pc := 104) dX12_lying_104 kw1597 calX12_least kw1598 (by decide) (Nat.le_of_ble_eq_true rfl) (ctX12_least) ?_
        refine V_aload_n (pc := 107) 1 dX12_lying_107 rfl rfl ?_
        refine V_getR (pc := 108) (c := 11) (k := 25) dX12_lying_108 (by decide) (by decide) kw1268 rfl rfl (L11_0 H0) (L11_r25 H0) ?_
        refine V_iload (pc := 111) 5 dX12_lying_111 rfl ?_
        obtain ⟨b26, h⟩ := ite_o h
        refine V_iald (pc := 113) dX12_lying_113 (L11_s25 H0) (inB_vp b26) ?_
        refine V_aload_n (pc := 114) 1 dX12_lying_114 rfl rfl ?_
        refine V_getR (pc := 115) (c := 11) (k := 25) dX12_lying_115 (by decide) (by decide) kw1268 rfl rfl (L11_0 H0) (L11_r25 H0) ?_
        refine V_iload (pc := 118) 0 dX12_lying_118 rfl ?_
        obtain ⟨b27, h⟩ := ite_o h
        refine V_iald (pc := 120) dX12_lying_120 (L11_s25 H0) (inB_vp b27) ?_
        refine V_cS2 (pc := 121) dX12_lying_121 kw1594 calX12_most kw1595 (by decide) (Nat.le_of_ble_eq_true rfl) (ctX12_most) ?_
        refine V_cS3 (pc := 124) dX12_lying_124 kw1365 calX12_in kw1366 (by decide) (Nat.le_of_ble_eq_true rfl) (ctX12_in) ?_
        refine V_ifB_eq (pc := 127) (tgt := 134) dX12_lying_127 (by decide) (fun c32 => ?_) (fun c32 => ?_)
        · have h := ite_f c32 h
          refine V_iconst (pc := 134) (x := 0) dX12_lying_134 (by decide) ?_
          exact V_sub [1, 2, 3, 4, 5] rfl (wX12_lying_135 H0 ih h)
        · have h := ite_p c32 h
          refine V_iconst (pc := 130) (x := 1) dX12_lying_130 (by decide) ?_
          refine V_goto (pc := 131) (tgt := 135) dX12_lying_131 (by decide) ?_
          exact V_sub [1, 2, 3, 4, 5] rfl (wX12_lying_135 H0 ih h)
theorem calX12_lying : Cal yX12_lying cX12_lying 7 (some .int) 2 := ⟨kw1611, kw11, by decide +kernel⟩
theorem ctX12_lying {G : Gl} {σ : Sg} {d : Dt} {r0 : Nat} {v1 : Int32} {v2 : Int32} {rr : Int32 × Dt} (H0 : L11 σ r0) (h : mX12_lying r0 v1 v2 d = some rr) : CTv G yX12_lying cX12_lying 7 (some .int) 1 [.ref (gB G + r0), .int v1, .int v2] σ d [.int rr.1] rr.2 := by
  refine CT_of pn_RX12 (Nat.le_of_ble_eq_true rfl) ?_
  rw [mX12_lying] at h
  refine V_aload_n (pc := 0) 0 dX12_lying_0 rfl rfl ?_
  refine V_aload_n (pc := 1) 0 dX12_lying_1 rfl rfl ?_
  refine V_getI (pc := 2) (c := 11) (k := 14) dX12_lying_2 (by decide) (by decide) kw1257 rfl rfl (L11_0 H0) ?_
  refine V_cS1 (pc := 5) dX12_lying_5 kw1523 calX12_unless kw1524 (by decide) (Nat.le_of_ble_eq_true rfl) (ctX12_unless) ?_
  refine V_cV1 (pc := 8) dX12_lying_8 kw1368 calX12_isRefused kw1370 ks54 (L11_0 H0) rfl (by decide) (Nat.le_of_ble_eq_true rfl) (ctX12_isRefused H0) ?_
  refine V_ifB_eq (pc := 11) (tgt := 16) dX12_lying_11 (by decide) (fun c5 => ?_) (fun c5 => ?_)
  · have h := ite_f c5 h
    refine V_aload_n (pc := 16) 0 dX12_lying_16 rfl rfl ?_
    obtain ⟨x7, h6, h⟩ := bnd h
    refine V_cV0 (pc := 17) dX12_lying_17 kw1579 calX12_laysPlaces kw1581 ks89 (L11_0 H0) rfl (by decide) (Nat.le_of_ble_eq_true rfl) (ctX12_laysPlaces H0 h6) ?_
    refine V_iconst (pc := 20) (x := 0) dX12_lying_20 (by decide) ?_
    refine V_istore_n (pc := 21) (lv1 := [(3, _), (0, _), (1, _), (2, _)]) dX12_lying_21 rfl (by decide) rfl ?_
    refine V_iconst (pc := 22) (x := 1) dX12_lying_22 (by decide) ?_
    refine V_istore (pc := 23) (lv1 := [(4, _), (3, _), (0, _), (1, _), (2, _)]) dX12_lying_23 (by decide) rfl ?_
    exact V_sub [2, 3, 4, 1, 0] rfl (wX12_lying_25 H0 FUEL (0 : Int32) (1 : Int32) x7 h)
  · have h := ite_p c5 h
    refine V_iconst (pc := 14) (x := (-1)) dX12_lying_14 (by decide) ?_
    cases h
    exact V_ret (pc := 15) dX12_lying_15 ⟨rfl, _, rfl⟩ ⟨rfl, rfl, rfl⟩
theorem wX12_meet_27 {G : Gl} {σ : Sg} {d : Dt} {r0 : Nat} {v1 : Int32} {v2 : Int32} {vs0 : Int32} {rs1 : Nat} {rr : Int32 × Dt} (H0 : L11 σ r0) (Hs1 : L11 σ rs1) (h : mX12_meet_27 r0 v1 v2 vs0 rs1 d = some rr) : V G yX12_meet cX12_meet 3 (some .int) 3 0 0 (PH [.int rr.1] σ rr.2) 27 [(0, .ref (gB G + r0)), (1, .int v1), (2, .int v2)] [.int vs0, .ref (gB G + rs1)] σ d := by
  rw [mX12_meet_27] at h
  refine V_cS1 (pc := 27) dX12_meet_27 kw1523 calX12_unless kw1524 (by decide) (Nat.le_of_ble_eq_true rfl) (ctX12_unless) ?_
  refine V_cV1 (pc := 30) dX12_meet_30 kw1368 calX12_isRefused kw1370 ks54 (L11_0 Hs1) rfl (by decide) (Nat.le_of_ble_eq_true rfl) (ctX12_isRefused Hs1) ?_
  refine V_ifB_eq (pc := 33) (tgt := 38) dX12_meet_33 (by decide) (fun c12 => ?_) (fun c12 => ?_)
  · have h := ite_f c12 h
    refine V_aload_n (pc := 38) 0 dX12_meet_38 rfl rfl ?_
    obtain ⟨x14, h13, h⟩ := bnd h
    refine V_cV0 (pc := 39) dX12_meet_39 kw1579 calX12_laysPlaces kw1581 ks89 (L11_0 H0) rfl (by decide) (Nat.le_of_ble_eq_true rfl) (ctX12_laysPlaces H0 h13) ?_
    refine V_aload_n (pc := 42) 0 dX12_meet_42 rfl rfl ?_
    refine V_iload_n (pc := 43) 1 dX12_meet_43 rfl rfl ?_
    refine V_iload_n (pc := 44) 2 dX12_meet_44 rfl rfl ?_
    obtain ⟨x16, h15, h⟩ := bnd h
    refine V_cV2 (pc := 45) dX12_meet_45 kw1587 calX12_doMeet kw1589 ks90 (L11_0 H0) rfl (by decide) (Nat.le_of_ble_eq_true rfl) (ctX12_doMeet H0 h15) ?_
    refine V_ifB_eq (pc := 48) (tgt := 55) dX12_meet_48 (by decide) (fun c17 => ?_) (fun c17 => ?_)
    · have h := ite_f c17 h
      refine V_iconst (pc := 55) (x := 0) dX12_meet_55 (by decide) ?_
      cases h
      exact V_ret (pc := 56) dX12_meet_56 ⟨rfl, _, rfl⟩ ⟨rfl, rfl, rfl⟩
    · have h := ite_p c17 h
      refine V_iconst (pc := 51) (x := 1) dX12_meet_51 (by decide) ?_
      refine V_goto (pc := 52) (tgt := 56) dX12_meet_52 (by decide) ?_
      cases h
      exact V_ret (pc := 56) dX12_meet_56 ⟨rfl, _, rfl⟩ ⟨rfl, rfl, rfl⟩
  · have h := ite_p c12 h
    refine V_iconst (pc := 36) (x := (-1)) dX12_meet_36 (by decide) ?_
    cases h
    exact V_ret (pc := 37) dX12_meet_37 ⟨rfl, _, rfl⟩ ⟨rfl, rfl, rfl⟩
theorem calX12_meet : Cal yX12_meet cX12_meet 3 (some .int) 2 := ⟨kw1586, kw11, by decide +kernel⟩
theorem ctX12_meet {G : Gl} {σ : Sg} {d : Dt} {r0 : Nat} {v1 : Int32} {v2 : Int32} {rr : Int32 × Dt} (H0 : L11 σ r0) (h : mX12_meet r0 v1 v2 d = some rr) : CTv G yX12_meet cX12_meet 3 (some .int) 3 [.ref (gB G + r0), .int v1, .int v2] σ d [.int rr.1] rr.2 := by
  refine CT_of pn_RX12 (Nat.le_of_ble_eq_true rfl) ?_
  rw [mX12_meet] at h
  refine V_aload_n (pc := 0) 0 dX12_meet_0 rfl rfl ?_
  refine V_aload_n (pc := 1) 0 dX12_meet_1 rfl rfl ?_
  refine V_iload_n (pc := 2) 1 dX12_meet_2 rfl rfl ?_
  obtain ⟨x2, h1, h⟩ := bnd h
  refine V_cV1 (pc := 3) dX12_meet_3 kw1570 calX12_isBundle kw1572 ks88 (L11_0 H0) rfl (by decide) (Nat.le_of_ble_eq_true rfl) (ctX12_isBundle H0 h1) ?_
  refine V_ifB_eq (pc := 6) (tgt := 26) dX12_meet_6 (by decide) (fun c3 => ?_) (fun c3 => ?_)
  · have h := ite_f c3 h
    refine V_iconst (pc := 26) (x := 0) dX12_meet_26 (by decide) ?_
    exact V_sub [0, 1, 2] rfl (wX12_meet_27 H0 H0 h)
  · have h := ite_p c3 h
    refine V_aload_n (pc := 9) 0 dX12_meet_9 rfl rfl ?_
    refine V_iload_n (pc := 10) 2 dX12_meet_10 rfl rfl ?_
    obtain ⟨x5, h4, h⟩ := bnd h
    refine V_cV1 (pc := 11) dX12_meet_11 kw1570 calX12_isBundle kw1572 ks88 (L11_0 H0) rfl (by decide) (Nat.le_of_ble_eq_true rfl) (ctX12_isBundle H0 h4) ?_
    refine V_ifB_eq (pc := 14) (tgt := 26) dX12_meet_14 (by decide) (fun c6 => ?_) (fun c6 => ?_)
    · have h := ite_f c6 h
      refine V_iconst (pc := 26) (x := 0) dX12_meet_26 (by decide) ?_
      exact V_sub [0, 1, 2] rfl (wX12_meet_27 H0 H0 h)
    · have h := ite_p c6 h
      refine V_iload_n (pc := 17) 1 dX12_meet_17 rfl rfl ?_
      refine V_iload_n (pc := 18) 2 dX12_meet_18 rfl rfl ?_
      refine V_icmp_eq (pc := 19) (tgt := 26) dX12_meet_19 (by decide) (fun c7 => ?_) (fun c7 => ?_)
      · have h := ite_p c7 h
        refine V_iconst (pc := 26) (x := 0) dX12_meet_26 (by decide) ?_
        exact V_sub [0, 1, 2] rfl (wX12_meet_27 H0 H0 h)
      · have h := ite_n c7 h
        refine V_iconst (pc := 22) (x := 1) dX12_meet_22 (by decide) ?_
        refine V_goto (pc := 23) (tgt := 27) dX12_meet_23 (by decide) ?_
        exact V_sub [0, 1, 2] rfl (wX12_meet_27 H0 H0 h)
theorem wX12_meetings_36 {G : Gl} {σ : Sg} {g24 : Int32 → Int32 → Dt → Option (Int32 × Dt)} {r0 : Nat} {v2 : Int32} {rr : Int32 × Dt} (H0 : L11 σ r0) (hg24 : ∀ (v1 : Int32) (v2 : Int32) (d : Dt), g24 v1 v2 d = some rr → V G yX12_meetings cX12_meetings 4 (some .int) 3 0 0 (PH [.int rr.1] σ rr.2) 24 [(0, .ref (gB G + r0)), (1, .int v1), (2, .int v2)] [] σ d) : ∀ (n : Nat) (v1 : Int32) (v3 : Int32) (d : Dt), mX12_meetings_36 g24 r0 v2 n v1 v3 d = some rr → V G yX12_meetings cX12_meetings 4 (some .int) 3 0 0 (PH [.int rr.1] σ rr.2) 36 [(0, .ref (gB G + r0)), (1, .int v1), (2, .int v2), (3, .int v3)] [] σ d := by
  intro n
  induction n with
  | zero =>
    intro v1 v3 d
    intros
    rename_i h
    exact absurd h (by rw [mX12_meetings_36]; exact fun q => nomatch q)
  | succ n ih =>
    intro v1 v3 d h
    rw [mX12_meetings_36] at h
    refine V_iload_n (pc := 36) 3 dX12_meetings_36 rfl rfl ?_
    refine V_iload_n (pc := 37) 2 dX12_meetings_37 rfl rfl ?_
    refine V_icmp_ge (pc := 38) (tgt := 64) dX12_meetings_38 (by decide) (fun c10 => ?_) (fun c10 => ?_)
    · have h := ite_p c10 h
      refine V_iinc (pc := 64) (lv1 := [(2, _), (0, _), (1, _), (3, _)]) (z := _ + (1 : Int32)) 2 dX12_meetings_64 rfl rfl (by decide) rfl ?_
      refine V_goto (pc := 67) (tgt := 24) dX12_meetings_67 (by decide) ?_
      exact V_sub [1, 2, 0] rfl (hg24 v1 (v2 + (1 : Int32)) d h)
    · have h := ite_n c10 h
      refine V_iload_n (pc := 41) 1 dX12_meetings_41 rfl rfl ?_
      refine V_aload_n (pc := 42) 0 dX12_meetings_42 rfl rfl ?_
      refine V_iload_n (pc := 43) 2 dX12_meetings_43 rfl rfl ?_
      refine V_iload_n (pc := 44) 3 dX12_meetings_44 rfl rfl ?_
      obtain ⟨x12, h11, h⟩ := bnd h
      refine V_cV2 (pc := 45) dX12_meetings_45 kw1587 calX12_doMeet kw1589 ks90 (L11_0 H0) rfl (by decide) (Nat.le_of_ble_eq_true rfl) (ctX12_doMeet H0 h11) ?_
      refine V_ifB_eq (pc := 48) (tgt := 55) dX12_meetings_48 (by decide) (fun c13 => ?_) (fun c13 => ?_)
      · have h := ite_f c13 h
        refine V_iconst (pc := 55) (x := 0) dX12_meetings_55 (by decide) ?_
        refine V_iadd (pc := 56) dX12_meetings_56 ?_
        refine V_istore_n (pc := 57) (lv1 := [(1, _), (0, _), (2, _), (3, _)]) dX12_meetings_57 rfl (by decide) rfl ?_
        refine V_iinc (pc := 58) (lv1 := [(3, _), (1, _), (0, _), (2, _)]) (z := _ + (1 : Int32)) 3 dX12_meetings_58 rfl rfl (by decide) rfl ?_
        refine V_goto (pc := 61) (tgt := 36) dX12_meetings_61 (by decide) ?_
        exact V_sub [2, 1, 3, 0] rfl (ih (v1 + (0 : Int32)) (v3 + (1 : Int32)) d h)
      · have h := ite_p c13 h
        refine V_iconst (pc := 51) (x := 1) dX12_meetings_51 (by decide) ?_
        refine V_goto (pc := 52) (tgt := 56) dX12_meetings_52 (by decide) ?_
        refine V_iadd (pc := 56) dX12_meetings_56 ?_
        refine V_istore_n (pc := 57) (lv1 := [(1, _), (0, _), (2, _), (3, _)]) dX12_meetings_57 rfl (by decide) rfl ?_
        refine V_iinc (pc := 58) (lv1 := [(3, _), (1, _), (0, _), (2, _)]) (z := _ + (1 : Int32)) 3 dX12_meetings_58 rfl rfl (by decide) rfl ?_
        refine V_goto (pc := 61) (tgt := 36) dX12_meetings_61 (by decide) ?_
        exact V_sub [2, 1, 3, 0] rfl (ih (v1 + (1 : Int32)) (v3 + (1 : Int32)) d h)
theorem wX12_meetings_24 {G : Gl} {σ : Sg} {r0 : Nat} {rr : Int32 × Dt} (H0 : L11 σ r0) : ∀ (n : Nat) (v1 : Int32) (v2 : Int32) (d : Dt), mX12_meetings_24 r0 n v1 v2 d = some rr → V G yX12_meetings cX12_meetings 4 (some .int) 3 0 0 (PH [.int rr.1] σ rr.2) 24 [(0, .ref (gB G + r0)), (1, .int v1), (2, .int v2)] [] σ d := by
  intro n
  induction n with
  | zero =>
    intro v1 v2 d
    intros
    rename_i h
    exact absurd h (by rw [mX12_meetings_24]; exact fun q => nomatch q)
  | succ n ih =>
    intro v1 v2 d h
    rw [mX12_meetings_24] at h
    refine V_iload_n (pc := 24) 2 dX12_meetings_24 rfl rfl ?_
    refine V_aload_n (pc := 25) 0 dX12_meetings_25 rfl rfl ?_
    refine V_getR (pc := 26) (c := 11) (k := 6) dX12_meetings_26 (by decide) (by decide) kw1249 rfl rfl (L11_0 H0) (L11_r6 H0) ?_
    refine V_iconst (pc := 29) (x := 2) dX12_meetings_29 (by decide) ?_
    obtain ⟨b8, h⟩ := ite_o h
    refine V_iald (pc := 30) dX12_meetings_30 (L11_s6 H0) (inB_vp b8) ?_
    refine V_icmp_ge (pc := 31) (tgt := 70) dX12_meetings_31 (by decide) (fun c9 => ?_) (fun c9 => ?_)
    · have h := ite_p c9 h
      refine V_iload_n (pc := 70) 1 dX12_meetings_70 rfl rfl ?_
      cases h
      exact V_ret (pc := 71) dX12_meetings_71 ⟨rfl, _, rfl⟩ ⟨rfl, rfl, rfl⟩
    · have h := ite_n c9 h
      refine V_iconst (pc := 34) (x := 1) dX12_meetings_34 (by decide) ?_
      refine V_istore_n (pc := 35) (lv1 := [(3, _), (0, _), (1, _), (2, _)]) dX12_meetings_35 rfl (by decide) rfl ?_
      exact V_sub [1, 2, 3, 0] rfl (wX12_meetings_36 H0 ih FUEL v1 (1 : Int32) d h)
theorem calX12_meetings : Cal yX12_meetings cX12_meetings 4 (some .int) 0 := ⟨kw1607, kw11, by decide +kernel⟩
theorem ctX12_meetings {G : Gl} {σ : Sg} {d : Dt} {r0 : Nat} {rr : Int32 × Dt} (H0 : L11 σ r0) (h : mX12_meetings r0 d = some rr) : CTv G yX12_meetings cX12_meetings 4 (some .int) 3 [.ref (gB G + r0)] σ d [.int rr.1] rr.2 := by
  refine CT_of pn_RX12 (Nat.le_of_ble_eq_true rfl) ?_
  rw [mX12_meetings] at h
  refine V_aload_n (pc := 0) 0 dX12_meetings_0 rfl rfl ?_
  refine V_aload_n (pc := 1) 0 dX12_meetings_1 rfl rfl ?_
  refine V_getI (pc := 2) (c := 11) (k := 14) dX12_meetings_2 (by decide) (by decide) kw1257 rfl rfl (L11_0 H0) ?_
  refine V_cS1 (pc := 5) dX12_meetings_5 kw1523 calX12_unless kw1524 (by decide) (Nat.le_of_ble_eq_true rfl) (ctX12_unless) ?_
  refine V_cV1 (pc := 8) dX12_meetings_8 kw1368 calX12_isRefused kw1370 ks54 (L11_0 H0) rfl (by decide) (Nat.le_of_ble_eq_true rfl) (ctX12_isRefused H0) ?_
  refine V_ifB_eq (pc := 11) (tgt := 16) dX12_meetings_11 (by decide) (fun c5 => ?_) (fun c5 => ?_)
  · have h := ite_f c5 h
    refine V_aload_n (pc := 16) 0 dX12_meetings_16 rfl rfl ?_
    obtain ⟨x7, h6, h⟩ := bnd h
    refine V_cV0 (pc := 17) dX12_meetings_17 kw1579 calX12_laysPlaces kw1581 ks89 (L11_0 H0) rfl (by decide) (Nat.le_of_ble_eq_true rfl) (ctX12_laysPlaces H0 h6) ?_
    refine V_iconst (pc := 20) (x := 0) dX12_meetings_20 (by decide) ?_
    refine V_istore_n (pc := 21) (lv1 := [(1, _), (0, _)]) dX12_meetings_21 rfl (by decide) rfl ?_
    refine V_iconst (pc := 22) (x := 1) dX12_meetings_22 (by decide) ?_
    refine V_istore_n (pc := 23) (lv1 := [(2, _), (1, _), (0, _)]) dX12_meetings_23 rfl (by decide) rfl ?_
    exact V_sub [2, 1, 0] rfl (wX12_meetings_24 H0 FUEL (0 : Int32) (1 : Int32) x7 h)
  · have h := ite_p c5 h
    refine V_iconst (pc := 14) (x := (-1)) dX12_meetings_14 (by decide) ?_
    cases h
    exact V_ret (pc := 15) dX12_meetings_15 ⟨rfl, _, rfl⟩ ⟨rfl, rfl, rfl⟩
theorem wX12_named_18 {G : Gl} {σ : Sg} {r0 : Nat} {v1 : Int64} {rr : Int32 × Dt} (H0 : L11 σ r0) : ∀ (n : Nat) (v3 : Int32) (d : Dt), mX12_named_18 r0 v1 n v3 d = some rr → V G yX12_named cX12_named 4 (some .int) 1 0 0 (PH [.int rr.1] σ rr.2) 18 [(0, .ref (gB G + r0)), (1, .long v1), (3, .int v3)] [] σ d := by
  intro n
  induction n with
  | zero =>
    intro v3 d
    intros
    rename_i h
    exact absurd h (by rw [mX12_named_18]; exact fun q => nomatch q)
  | succ n ih =>
    intro v3 d h
    rw [mX12_named_18] at h
    refine V_iload_n (pc := 18) 2 dX12_named_18 rfl rfl ?_
    refine V_aload_n (pc := 19) 0 dX12_named_19 rfl rfl ?_
    refine V_getI (pc := 20) (c := 11) (k := 10) dX12_named_20 (by decide) (by decide) kw1253 rfl rfl (L11_0 H0) ?_
    refine V_icmp_ge (pc := 23) (tgt := 50) dX12_named_23 (by decide) (fun c6 => ?_) (fun c6 => ?_)
    · have h := ite_p c6 h
      refine V_aload_n (pc := 50) 0 dX12_named_50 rfl rfl ?_
      refine V_iconst (pc := 51) (x := 1) dX12_named_51 (by decide) ?_
      refine V_cV1 (pc := 52) dX12_named_52 kw1507 calX12_no kw1509 ks82 (L11_0 H0) rfl (by decide) (Nat.le_of_ble_eq_true rfl) (ctX12_no H0) ?_
      cases h
      exact V_ret (pc := 55) dX12_named_55 ⟨rfl, _, rfl⟩ ⟨rfl, rfl, rfl⟩
    · have h := ite_n c6 h
      refine V_aload_n (pc := 26) 0 dX12_named_26 rfl rfl ?_
      refine V_getR (pc := 27) (c := 11) (k := 8) dX12_named_27 (by decide) (by decide) kw1251 rfl rfl (L11_0 H0) (L11_r8 H0) ?_
      refine V_iload_n (pc := 30) 2 dX12_named_30 rfl rfl ?_
      obtain ⟨b9, h⟩ := ite_o h
      refine V_lald (pc := 31) dX12_named_31 (L11_s8 H0) (inB_vp b9) ?_
      refine V_lload_n (pc := 32) 1 dX12_named_32 rfl rfl ?_
      refine V_lcmp_ne (pc := 33) (tgt := 44) dX12_named_33 dX12_named_34 (by decide) (fun c10 => ?_) (fun c10 => ?_)
      · have h := ite_n c10 h
        refine V_iinc (pc := 44) (lv1 := [(3, _), (0, _), (1, _)]) (z := _ + (1 : Int32)) 2 dX12_named_44 rfl rfl (by decide) rfl ?_
        refine V_goto (pc := 47) (tgt := 18) dX12_named_47 (by decide) ?_
        exact V_sub [1, 2, 0] rfl (ih (v3 + (1 : Int32)) d h)
      · have h := ite_p c10 h
        refine V_aload_n (pc := 37) 0 dX12_named_37 rfl rfl ?_
        refine V_getR (pc := 38) (c := 11) (k := 9) dX12_named_38 (by decide) (by decide) kw1252 rfl rfl (L11_0 H0) (L11_r9 H0) ?_
        refine V_iload_n (pc := 41) 2 dX12_named_41 rfl rfl ?_
        obtain ⟨b11, h⟩ := ite_o h
        refine V_iald (pc := 42) dX12_named_42 (L11_s9 H0) (inB_vp b11) ?_
        cases h
        exact V_ret (pc := 43) dX12_named_43 ⟨rfl, _, rfl⟩ ⟨rfl, rfl, rfl⟩
theorem calX12_named : Cal yX12_named cX12_named 4 (some .int) 1 := ⟨kw1529, kw11, by decide +kernel⟩
theorem ctX12_named {G : Gl} {σ : Sg} {d : Dt} {r0 : Nat} {v1 : Int64} {rr : Int32 × Dt} (H0 : L11 σ r0) (h : mX12_named r0 v1 d = some rr) : CTv G yX12_named cX12_named 4 (some .int) 1 [.ref (gB G + r0), .long v1] σ d [.int rr.1] rr.2 := by
  refine CT_of pn_RX12 (Nat.le_of_ble_eq_true rfl) ?_
  rw [mX12_named] at h
  refine V_aload_n (pc := 0) 0 dX12_named_0 rfl rfl ?_
  refine V_aload_n (pc := 1) 0 dX12_named_1 rfl rfl ?_
  refine V_getI (pc := 2) (c := 11) (k := 14) dX12_named_2 (by decide) (by decide) kw1257 rfl rfl (L11_0 H0) ?_
  refine V_cS1 (pc := 5) dX12_named_5 kw1523 calX12_unless kw1524 (by decide) (Nat.le_of_ble_eq_true rfl) (ctX12_unless) ?_
  refine V_cV1 (pc := 8) dX12_named_8 kw1368 calX12_isRefused kw1370 ks54 (L11_0 H0) rfl (by decide) (Nat.le_of_ble_eq_true rfl) (ctX12_isRefused H0) ?_
  refine V_ifB_eq (pc := 11) (tgt := 16) dX12_named_11 (by decide) (fun c5 => ?_) (fun c5 => ?_)
  · have h := ite_f c5 h
    refine V_iconst (pc := 16) (x := 0) dX12_named_16 (by decide) ?_
    refine V_istore_n (pc := 17) (lv1 := [(3, _), (0, _), (1, _)]) dX12_named_17 rfl (by decide) rfl ?_
    exact V_sub [1, 2, 0] rfl (wX12_named_18 H0 FUEL (0 : Int32) ((mX12_isRefused r0 (mX12_unless (d.1 r0 14)) d).2) h)
  · have h := ite_p c5 h
    refine V_iconst (pc := 14) (x := (-1)) dX12_named_14 (by decide) ?_
    cases h
    exact V_ret (pc := 15) dX12_named_15 ⟨rfl, _, rfl⟩ ⟨rfl, rfl, rfl⟩
theorem wX12_net_23 {G : Gl} {σ : Sg} {d : Dt} {r0 : Nat} {v1 : Int32} {v2 : Int32} {vs0 : Int32} {rs1 : Nat} {rr : Int32 × Dt} (H0 : L11 σ r0) (Hs1 : L11 σ rs1) (h : mX12_net_23 r0 v1 v2 vs0 rs1 d = some rr) : V G yX12_net cX12_net 3 (some .int) 2 0 0 (PH [.int rr.1] σ rr.2) 23 [(0, .ref (gB G + r0)), (1, .int v1), (2, .int v2)] [.int vs0, .ref (gB G + rs1)] σ d := by
  rw [mX12_net_23] at h
  refine V_cS1 (pc := 23) dX12_net_23 kw1523 calX12_unless kw1524 (by decide) (Nat.le_of_ble_eq_true rfl) (ctX12_unless) ?_
  refine V_cV1 (pc := 26) dX12_net_26 kw1368 calX12_isRefused kw1370 ks54 (L11_0 Hs1) rfl (by decide) (Nat.le_of_ble_eq_true rfl) (ctX12_isRefused Hs1) ?_
  refine V_ifB_eq (pc := 29) (tgt := 36) dX12_net_29 (by decide) (fun c11 => ?_) (fun c11 => ?_)
  · have h := ite_f c11 h
    refine V_aload_n (pc := 36) 0 dX12_net_36 rfl rfl ?_
    refine V_iload_n (pc := 37) 1 dX12_net_37 rfl rfl ?_
    refine V_iload_n (pc := 38) 2 dX12_net_38 rfl rfl ?_
    obtain ⟨x13, h12, h⟩ := bnd h
    refine V_cV2 (pc := 39) dX12_net_39 kw1636 calX12_netOf kw1638 ks95 (L11_0 H0) rfl (by decide) (Nat.le_of_ble_eq_true rfl) (ctX12_netOf H0 h12) ?_
    cases h
    exact V_ret (pc := 42) dX12_net_42 ⟨rfl, _, rfl⟩ ⟨rfl, rfl, rfl⟩
  · have h := ite_p c11 h
    refine V_iconst (pc := 32) (x := (-1)) dX12_net_32 (by decide) ?_
    refine V_goto (pc := 33) (tgt := 42) dX12_net_33 (by decide) ?_
    cases h
    exact V_ret (pc := 42) dX12_net_42 ⟨rfl, _, rfl⟩ ⟨rfl, rfl, rfl⟩
theorem calX12_net : Cal yX12_net cX12_net 3 (some .int) 2 := ⟨kw1631, kw11, by decide +kernel⟩
theorem ctX12_net {G : Gl} {σ : Sg} {d : Dt} {r0 : Nat} {v1 : Int32} {v2 : Int32} {rr : Int32 × Dt} (H0 : L11 σ r0) (h : mX12_net r0 v1 v2 d = some rr) : CTv G yX12_net cX12_net 3 (some .int) 2 [.ref (gB G + r0), .int v1, .int v2] σ d [.int rr.1] rr.2 := by
  refine CT_of pn_RX12 (Nat.le_of_ble_eq_true rfl) ?_
  rw [mX12_net] at h
  refine V_aload_n (pc := 0) 0 dX12_net_0 rfl rfl ?_
  refine V_aload_n (pc := 1) 0 dX12_net_1 rfl rfl ?_
  refine V_iload_n (pc := 2) 1 dX12_net_2 rfl rfl ?_
  obtain ⟨x2, h1, h⟩ := bnd h
  refine V_cV1 (pc := 3) dX12_net_3 kw1632 calX12_isNet kw1634 ks94 (L11_0 H0) rfl (by decide) (Nat.le_of_ble_eq_true rfl) (ctX12_isNet H0 h1) ?_
  refine V_ifB_eq (pc := 6) (tgt := 22) dX12_net_6 (by decide) (fun c3 => ?_) (fun c3 => ?_)
  · have h := ite_f c3 h
    refine V_iconst (pc := 22) (x := 0) dX12_net_22 (by decide) ?_
    exact V_sub [0, 1, 2] rfl (wX12_net_23 H0 H0 h)
  · have h := ite_p c3 h
    refine V_iload_n (pc := 9) 2 dX12_net_9 rfl rfl ?_
    refine V_iconst (pc := 10) (x := 0) dX12_net_10 (by decide) ?_
    refine V_iconst (pc := 11) (x := 5) dX12_net_11 (by decide) ?_
    refine V_cS3 (pc := 12) dX12_net_12 kw1365 calX12_in kw1366 (by decide) (Nat.le_of_ble_eq_true rfl) (ctX12_in) ?_
    refine V_ifB_eq (pc := 15) (tgt := 22) dX12_net_15 (by decide) (fun c6 => ?_) (fun c6 => ?_)
    · have h := ite_f c6 h
      refine V_iconst (pc := 22) (x := 0) dX12_net_22 (by decide) ?_
      exact V_sub [0, 1, 2] rfl (wX12_net_23 H0 H0 h)
    · have h := ite_p c6 h
      refine V_iconst (pc := 18) (x := 1) dX12_net_18 (by decide) ?_
      refine V_goto (pc := 19) (tgt := 23) dX12_net_19 (by decide) ?_
      exact V_sub [0, 1, 2] rfl (wX12_net_23 H0 H0 h)
theorem wX12_nextTo_21 {G : Gl} {σ : Sg} {d : Dt} {r0 : Nat} {v1 : Int32} {rr : Int32} (H0 : L11 σ r0) : ∀ (n : Nat) (v3 : Int32), mX12_nextTo_21 d r0 v1 n v3 = some rr → V G yX12_nextTo cX12_nextTo 4 (some .int) 1 0 0 (PH [.int rr] σ d) 21 [(0, .ref (gB G + r0)), (1, .int v1), (3, .int v3)] [] σ d := by
  intro n
  induction n with
  | zero =>
    intro v3
    intros
    rename_i h
    exact absurd h (by rw [mX12_nextTo_21]; exact fun q => nomatch q)
  | succ n ih =>
    intro v3 h
    rw [mX12_nextTo_21] at h
    refine V_aload_n (pc := 21) 0 dX12_nextTo_21 rfl rfl ?_
    refine V_getR (pc := 22) (c := 11) (k := 6) dX12_nextTo_22 (by decide) (by decide) kw1249 rfl rfl (L11_0 H0) (L11_r6 H0) ?_
    refine V_bipush (pc := 25) (x := 7) dX12_nextTo_25 (by decide) ?_
    refine V_iload_n (pc := 27) 2 dX12_nextTo_27 rfl rfl ?_
    refine V_iadd (pc := 28) dX12_nextTo_28 ?_
    obtain ⟨b5, h⟩ := ite_o h
    refine V_iald (pc := 29) dX12_nextTo_29 (L11_s6 H0) (inB_vp b5) ?_
    refine V_iload_n (pc := 30) 1 dX12_nextTo_30 rfl rfl ?_
    refine V_icmp_eq (pc := 31) (tgt := 47) dX12_nextTo_31 (by decide) (fun c6 => ?_) (fun c6 => ?_)
    · have h := ite_p c6 h
      refine V_iload_n (pc := 47) 2 dX12_nextTo_47 rfl rfl ?_
      cases h
      exact V_ret (pc := 48) dX12_nextTo_48 ⟨rfl, _, rfl⟩ ⟨rfl, rfl, rfl⟩
    · have h := ite_n c6 h
      refine V_aload_n (pc := 34) 0 dX12_nextTo_34 rfl rfl ?_
      refine V_getR (pc := 35) (c := 11) (k := 6) dX12_nextTo_35 (by decide) (by decide) kw1249 rfl rfl (L11_0 H0) (L11_r6 H0) ?_
      refine V_bipush (pc := 38) (x := 7) dX12_nextTo_38 (by decide) ?_
      refine V_iload_n (pc := 40) 2 dX12_nextTo_40 rfl rfl ?_
      refine V_iadd (pc := 41) dX12_nextTo_41 ?_
      obtain ⟨b7, h⟩ := ite_o h
      refine V_iald (pc := 42) dX12_nextTo_42 (L11_s6 H0) (inB_vp b7) ?_
      refine V_istore_n (pc := 43) (lv1 := [(3, _), (0, _), (1, _)]) dX12_nextTo_43 rfl (by decide) rfl ?_
      refine V_goto (pc := 44) (tgt := 21) dX12_nextTo_44 (by decide) ?_
      exact V_sub [1, 2, 0] rfl (ih (d.1 (r0 + 2) ((7 : Int32) + v3).toNatClampNeg) h)
theorem calX12_nextTo : Cal yX12_nextTo cX12_nextTo 4 (some .int) 2 := ⟨kw1561, kw11, by decide +kernel⟩
theorem ctX12_nextTo {G : Gl} {σ : Sg} {d : Dt} {r0 : Nat} {v1 : Int32} {v2 : Int32} {rr : Int32} (H0 : L11 σ r0) (h : mX12_nextTo r0 v1 v2 d = some rr) : CTv G yX12_nextTo cX12_nextTo 4 (some .int) 1 [.ref (gB G + r0), .int v1, .int v2] σ d [.int rr] d := by
  refine CT_of pn_RX12 (Nat.le_of_ble_eq_true rfl) ?_
  rw [mX12_nextTo] at h
  refine V_aload_n (pc := 0) 0 dX12_nextTo_0 rfl rfl ?_
  refine V_iload_n (pc := 1) 2 dX12_nextTo_1 rfl rfl ?_
  refine V_iload_n (pc := 2) 1 dX12_nextTo_2 rfl rfl ?_
  obtain ⟨x2, h1, h⟩ := bnd h
  refine V_cV2 (pc := 3) dX12_nextTo_3 kw1550 calX12_isBeyond kw1552 ks86 (L11_0 H0) rfl (by decide) (Nat.le_of_ble_eq_true rfl) (ctX12_isBeyond H0 h1) ?_
  refine V_ifB_ne (pc := 6) (tgt := 19) dX12_nextTo_6 (by decide) (fun c3 => ?_) (fun c3 => ?_)
  · have h := ite_p c3 h
    refine V_iload_n (pc := 19) 2 dX12_nextTo_19 rfl rfl ?_
    refine V_istore_n (pc := 20) (lv1 := [(3, _), (0, _), (1, _), (2, _)]) dX12_nextTo_20 rfl (by decide) rfl ?_
    exact V_sub [1, 2, 0] rfl (wX12_nextTo_21 H0 FUEL v2 h)
  · have h := ite_f c3 h
    refine V_aload_n (pc := 9) 0 dX12_nextTo_9 rfl rfl ?_
    refine V_getR (pc := 10) (c := 11) (k := 6) dX12_nextTo_10 (by decide) (by decide) kw1249 rfl rfl (L11_0 H0) (L11_r6 H0) ?_
    refine V_bipush (pc := 13) (x := 7) dX12_nextTo_13 (by decide) ?_
    refine V_iload_n (pc := 15) 1 dX12_nextTo_15 rfl rfl ?_
    refine V_iadd (pc := 16) dX12_nextTo_16 ?_
    obtain ⟨b4, h⟩ := ite_o h
    refine V_iald (pc := 17) dX12_nextTo_17 (L11_s6 H0) (inB_vp b4) ?_
    cases h
    exact V_ret (pc := 18) dX12_nextTo_18 ⟨rfl, _, rfl⟩ ⟨rfl, rfl, rfl⟩
theorem wX12_node_63 {G : Gl} {σ : Sg} {r0 : Nat} {v1 : Int32} {rr : Int32 × Dt} (H0 : L11 σ r0) : ∀ (n : Nat) (v3 : Int32) (v4 : Int32) (d : Dt), mX12_node_63 r0 v1 n v3 v4 d = some rr → V G yX12_node cX12_node 5 (some .int) 2 0 0 (PH [.int rr.1] σ rr.2) 63 [(0, .ref (gB G + r0)), (1, .int v1), (3, .int v3), (4, .int v4)] [] σ d := by
  intro n
  induction n with
  | zero =>
    intro v3 v4 d
    intros
    rename_i h
    exact absurd h (by rw [mX12_node_63]; exact fun q => nomatch q)
  | succ n ih =>
    intro v3 v4 d h
    rw [mX12_node_63] at h
    refine V_iload (pc := 63) 3 dX12_node_63 rfl ?_
    refine V_aload_n (pc := 65) 0 dX12_node_65 rfl rfl ?_
    refine V_getR (pc := 66) (c := 11) (k := 6) dX12_node_66 (by decide) (by decide) kw1249 rfl rfl (L11_0 H0) (L11_r6 H0) ?_
    refine V_iconst (pc := 69) (x := 2) dX12_node_69 (by decide) ?_
    obtain ⟨b16, h⟩ := ite_o h
    refine V_iald (pc := 70) dX12_node_70 (L11_s6 H0) (inB_vp b16) ?_
    refine V_icmp_ge (pc := 71) (tgt := 102) dX12_node_71 (by decide) (fun c17 => ?_) (fun c17 => ?_)
    · have h := ite_p c17 h
      refine V_iload_n (pc := 102) 2 dX12_node_102 rfl rfl ?_
      cases h
      exact V_ret (pc := 103) dX12_node_103 ⟨rfl, _, rfl⟩ ⟨rfl, rfl, rfl⟩
    · have h := ite_n c17 h
      refine V_iload_n (pc := 74) 2 dX12_node_74 rfl rfl ?_
      refine V_aload_n (pc := 75) 0 dX12_node_75 rfl rfl ?_
      refine V_getR (pc := 76) (c := 11) (k := 6) dX12_node_76 (by decide) (by decide) kw1249 rfl rfl (L11_0 H0) (L11_r6 H0) ?_
      refine V_bipush (pc := 79) (x := 7) dX12_node_79 (by decide) ?_
      refine V_iload (pc := 81) 3 dX12_node_81 rfl ?_
      refine V_iadd (pc := 83) dX12_node_83 ?_
      obtain ⟨b18, h⟩ := ite_o h
      refine V_iald (pc := 84) dX12_node_84 (L11_s6 H0) (inB_vp b18) ?_
      refine V_iload_n (pc := 85) 1 dX12_node_85 rfl rfl ?_
      refine V_icmp_ne (pc := 86) (tgt := 93) dX12_node_86 (by decide) (fun c19 => ?_) (fun c19 => ?_)
      · have h := ite_n c19 h
        refine V_iconst (pc := 93) (x := 0) dX12_node_93 (by decide) ?_
        refine V_iadd (pc := 94) dX12_node_94 ?_
        refine V_istore_n (pc := 95) (lv1 := [(3, _), (0, _), (1, _), (4, _)]) dX12_node_95 rfl (by decide) rfl ?_
        refine V_iinc (pc := 96) (lv1 := [(4, _), (3, _), (0, _), (1, _)]) (z := _ + (1 : Int32)) 3 dX12_node_96 rfl rfl (by decide) rfl ?_
        refine V_goto (pc := 99) (tgt := 63) dX12_node_99 (by decide) ?_
        exact V_sub [2, 3, 1, 0] rfl (ih (v3 + (0 : Int32)) (v4 + (1 : Int32)) d h)
      · have h := ite_p c19 h
        refine V_iconst (pc := 89) (x := 1) dX12_node_89 (by decide) ?_
        refine V_goto (pc := 90) (tgt := 94) dX12_node_90 (by decide) ?_
        refine V_iadd (pc := 94) dX12_node_94 ?_
        refine V_istore_n (pc := 95) (lv1 := [(3, _), (0, _), (1, _), (4, _)]) dX12_node_95 rfl (by decide) rfl ?_
        refine V_iinc (pc := 96) (lv1 := [(4, _), (3, _), (0, _), (1, _)]) (z := _ + (1 : Int32)) 3 dX12_node_96 rfl rfl (by decide) rfl ?_
        refine V_goto (pc := 99) (tgt := 63) dX12_node_99 (by decide) ?_
        exact V_sub [2, 3, 1, 0] rfl (ih (v3 + (1 : Int32)) (v4 + (1 : Int32)) d h)
theorem wX12_node_23 {G : Gl} {σ : Sg} {d : Dt} {r0 : Nat} {v1 : Int32} {v2 : Int32} {vs0 : Int32} {rs1 : Nat} {rr : Int32 × Dt} (H0 : L11 σ r0) (Hs1 : L11 σ rs1) (h : mX12_node_23 r0 v1 v2 vs0 rs1 d = some rr) : V G yX12_node cX12_node 5 (some .int) 2 0 0 (PH [.int rr.1] σ rr.2) 23 [(0, .ref (gB G + r0)), (1, .int v1), (2, .int v2)] [.int vs0, .ref (gB G + rs1)] σ d := by
  rw [mX12_node_23] at h
  refine V_cS1 (pc := 23) dX12_node_23 kw1523 calX12_unless kw1524 (by decide) (Nat.le_of_ble_eq_true rfl) (ctX12_unless) ?_
  refine V_cV1 (pc := 26) dX12_node_26 kw1368 calX12_isRefused kw1370 ks54 (L11_0 Hs1) rfl (by decide) (Nat.le_of_ble_eq_true rfl) (ctX12_isRefused Hs1) ?_
  refine V_ifB_eq (pc := 29) (tgt := 34) dX12_node_29 (by decide) (fun c11 => ?_) (fun c11 => ?_)
  · have h := ite_f c11 h
    refine V_iload_n (pc := 34) 2 dX12_node_34 rfl rfl ?_
    refine V_iconst (pc := 35) (x := 2) dX12_node_35 (by decide) ?_
    refine V_icmp_ge (pc := 36) (tgt := 58) dX12_node_36 (by decide) (fun c12 => ?_) (fun c12 => ?_)
    · have h := ite_p c12 h
      refine V_iconst (pc := 58) (x := 0) dX12_node_58 (by decide) ?_
      refine V_istore_n (pc := 59) (lv1 := [(3, _), (0, _), (1, _), (2, _)]) dX12_node_59 rfl (by decide) rfl ?_
      refine V_iconst (pc := 60) (x := 1) dX12_node_60 (by decide) ?_
      refine V_istore (pc := 61) (lv1 := [(4, _), (3, _), (0, _), (1, _), (2, _)]) dX12_node_61 (by decide) rfl ?_
      exact V_sub [2, 3, 1, 0] rfl (wX12_node_63 H0 FUEL (0 : Int32) (1 : Int32) ((mX12_isRefused rs1 (mX12_unless vs0) d).2) h)
    · have h := ite_n c12 h
      refine V_aload_n (pc := 39) 0 dX12_node_39 rfl rfl ?_
      refine V_getR (pc := 40) (c := 11) (k := 6) dX12_node_40 (by decide) (by decide) kw1249 rfl rfl (L11_0 H0) (L11_r6 H0) ?_
      refine V_iload_n (pc := 43) 2 dX12_node_43 rfl rfl ?_
      refine V_if_ne (pc := 44) (tgt := 52) dX12_node_44 (by decide) (fun c13 => ?_) (fun c13 => ?_)
      · have h := ite_n c13 h
        refine V_bipush (pc := 52) (x := 21) dX12_node_52 (by decide) ?_
        refine V_iload_n (pc := 54) 1 dX12_node_54 rfl rfl ?_
        refine V_iadd (pc := 55) dX12_node_55 ?_
        obtain ⟨b14, h⟩ := ite_o h
        refine V_iald (pc := 56) dX12_node_56 (L11_s6 H0) (inB_vp b14) ?_
        cases h
        exact V_ret (pc := 57) dX12_node_57 ⟨rfl, _, rfl⟩ ⟨rfl, rfl, rfl⟩
      · have h := ite_p c13 h
        refine V_bipush (pc := 47) (x := 7) dX12_node_47 (by decide) ?_
        refine V_goto (pc := 49) (tgt := 54) dX12_node_49 (by decide) ?_
        refine V_iload_n (pc := 54) 1 dX12_node_54 rfl rfl ?_
        refine V_iadd (pc := 55) dX12_node_55 ?_
        obtain ⟨b15, h⟩ := ite_o h
        refine V_iald (pc := 56) dX12_node_56 (L11_s6 H0) (inB_vp b15) ?_
        cases h
        exact V_ret (pc := 57) dX12_node_57 ⟨rfl, _, rfl⟩ ⟨rfl, rfl, rfl⟩
  · have h := ite_p c11 h
    refine V_iconst (pc := 32) (x := (-1)) dX12_node_32 (by decide) ?_
    cases h
    exact V_ret (pc := 33) dX12_node_33 ⟨rfl, _, rfl⟩ ⟨rfl, rfl, rfl⟩
theorem calX12_node : Cal yX12_node cX12_node 5 (some .int) 2 := ⟨kw1533, kw11, by decide +kernel⟩
theorem ctX12_node {G : Gl} {σ : Sg} {d : Dt} {r0 : Nat} {v1 : Int32} {v2 : Int32} {rr : Int32 × Dt} (H0 : L11 σ r0) (h : mX12_node r0 v1 v2 d = some rr) : CTv G yX12_node cX12_node 5 (some .int) 2 [.ref (gB G + r0), .int v1, .int v2] σ d [.int rr.1] rr.2 := by
  refine CT_of pn_RX12 (Nat.le_of_ble_eq_true rfl) ?_
  rw [mX12_node] at h
  refine V_aload_n (pc := 0) 0 dX12_node_0 rfl rfl ?_
  refine V_aload_n (pc := 1) 0 dX12_node_1 rfl rfl ?_
  refine V_iload_n (pc := 2) 1 dX12_node_2 rfl rfl ?_
  obtain ⟨x2, h1, h⟩ := bnd h
  refine V_cV1 (pc := 3) dX12_node_3 kw1534 calX12_isNode kw1536 ks83 (L11_0 H0) rfl (by decide) (Nat.le_of_ble_eq_true rfl) (ctX12_isNode H0 h1) ?_
  refine V_ifB_eq (pc := 6) (tgt := 22) dX12_node_6 (by decide) (fun c3 => ?_) (fun c3 => ?_)
  · have h := ite_f c3 h
    refine V_iconst (pc := 22) (x := 0) dX12_node_22 (by decide) ?_
    exact V_sub [0, 1, 2] rfl (wX12_node_23 H0 H0 h)
  · have h := ite_p c3 h
    refine V_iload_n (pc := 9) 2 dX12_node_9 rfl rfl ?_
    refine V_iconst (pc := 10) (x := 0) dX12_node_10 (by decide) ?_
    refine V_iconst (pc := 11) (x := 2) dX12_node_11 (by decide) ?_
    refine V_cS3 (pc := 12) dX12_node_12 kw1365 calX12_in kw1366 (by decide) (Nat.le_of_ble_eq_true rfl) (ctX12_in) ?_
    refine V_ifB_eq (pc := 15) (tgt := 22) dX12_node_15 (by decide) (fun c6 => ?_) (fun c6 => ?_)
    · have h := ite_f c6 h
      refine V_iconst (pc := 22) (x := 0) dX12_node_22 (by decide) ?_
      exact V_sub [0, 1, 2] rfl (wX12_node_23 H0 H0 h)
    · have h := ite_p c6 h
      refine V_iconst (pc := 18) (x := 1) dX12_node_18 (by decide) ?_
      refine V_goto (pc := 19) (tgt := 23) dX12_node_19 (by decide) ?_
      exact V_sub [0, 1, 2] rfl (wX12_node_23 H0 H0 h)
