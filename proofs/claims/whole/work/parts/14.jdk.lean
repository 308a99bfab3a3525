/-! the JDK's own methods over String constants; switches -/
theorem PH_i {rv : List Value} {σ : Sg} {d : Dt} : PH rv σ d rv σ d := ⟨rfl, rfl, rfl⟩
theorem str_small : ∀ i, i < strN → strL.getD i 0 < 2 ^ 31 := by decide +kernel
theorem pn_RJ0 : plainName RJ0 = true := by decide +kernel
theorem pn_RJ1 : plainName RJ1 = true := by decide +kernel
theorem pn_RJ3 : plainName RJ3 = true := by decide +kernel
theorem cal_coder : Cal yJ0_coder_7d493 cJ0_coder_7d493 1 (some .byte) 0 := ⟨kw439, kw13, by decide +kernel⟩
theorem cal_isLatin1 : Cal yJ0_isLatin1_aae02 cJ0_isLatin1_aae02 1 (some .boolean) 0 := ⟨kw449, kw13, by decide +kernel⟩
theorem cal_strlen : Cal yJ0_length_8abf5 cJ0_length_8abf5 1 (some .int) 0 := ⟨kw435, kw13, by decide +kernel⟩
theorem cal_charAt : Cal yJ0_charAt_5068e cJ0_charAt_5068e 2 (some .char) 1 := ⟨kw445, kw13, by decide +kernel⟩
theorem cal_ckS : Cal yJ0_checkIndex_df160 cJ0_checkIndex_df160 2 none 2 := ⟨kw455, kw13, by decide +kernel⟩
theorem cal_chL : Cal yJ1_charAt_3b067 cJ1_charAt_3b067 2 (some .char) 2 := ⟨kw452, kw14, by decide +kernel⟩
theorem cal_ckP : Cal yJ3_checkIndex_8e157 cJ3_checkIndex_8e157 3 (some .int) 3 := ⟨kw460, kw15, by decide +kernel⟩
section JDK
variable {G : Gl} {σ : Sg} {d : Dt}
theorem c_coder {i : Nat} (hi : i < strN) : CTv G yJ0_coder_7d493 cJ0_coder_7d493 1 (some .byte) 0 [.ref (gK G i)] σ d [.int 0] d := by
  refine CT_of pn_RJ0 (Nat.le_of_ble_eq_true rfl) ?_
  refine V_getsC (pc := 0) dJ0_coder_7d493_0 kw440 ?_
  refine V_if_eq (pc := 3) (tgt := 13) dJ0_coder_7d493_3 (by decide) (fun h => absurd h (by decide)) (fun _ => ?_)
  refine V_aload_n (pc := 6) 0 dJ0_coder_7d493_6 rfl rfl ?_
  refine V_kcod (pc := 7) dJ0_coder_7d493_7 kw1909 hi ?_
  refine V_goto (pc := 10) (tgt := 14) dJ0_coder_7d493_10 (by decide) ?_
  exact V_ret (pc := 14) dJ0_coder_7d493_14 ⟨rfl, _, rfl, rfl⟩ ⟨rfl, rfl, rfl⟩
theorem c_isLatin1 {i : Nat} (hi : i < strN) : CTv G yJ0_isLatin1_aae02 cJ0_isLatin1_aae02 1 (some .boolean) 0 [.ref (gK G i)] σ d [.int 1] d := by
  refine CT_of pn_RJ0 (Nat.le_of_ble_eq_true rfl) ?_
  refine V_getsC (pc := 0) dJ0_isLatin1_aae02_0 kw440 ?_
  refine V_if_eq (pc := 3) (tgt := 17) dJ0_isLatin1_aae02_3 (by decide) (fun h => absurd h (by decide)) (fun _ => ?_)
  refine V_aload_n (pc := 6) 0 dJ0_isLatin1_aae02_6 rfl rfl ?_
  refine V_kcod (pc := 7) dJ0_isLatin1_aae02_7 kw1909 hi ?_
  refine V_if_ne (pc := 10) (tgt := 17) dJ0_isLatin1_aae02_10 (by decide) (fun h => absurd rfl h) (fun _ => ?_)
  refine V_iconst (pc := 13) (x := 1) dJ0_isLatin1_aae02_13 (by decide) ?_
  refine V_goto (pc := 14) (tgt := 18) dJ0_isLatin1_aae02_14 (by decide) ?_
  exact V_ret (pc := 18) dJ0_isLatin1_aae02_18 ⟨rfl, _, rfl, rfl⟩ ⟨rfl, rfl, rfl⟩
theorem c_strlen {i : Nat} (hi : i < strN) : CTv G yJ0_length_8abf5 cJ0_length_8abf5 1 (some .int) 3 [.ref (gK G i)] σ d [.int (nI (strL.getD i 0))] d := by
  refine CT_of pn_RJ0 (Nat.le_of_ble_eq_true rfl) ?_
  refine V_aload_n (pc := 0) 0 dJ0_length_8abf5_0 rfl rfl ?_
  refine V_kval (pc := 1) dJ0_length_8abf5_1 kw1908 hi ?_
  refine V_klen (pc := 4) dJ0_length_8abf5_4 hi ?_
  refine V_aload_n (pc := 5) 0 dJ0_length_8abf5_5 rfl rfl ?_
  refine V_callK (pc := 6) (As := []) dJ0_length_8abf5_6 kw436 cal_coder kw437 kw438 hi rfl (by decide) (Nat.le_of_ble_eq_true rfl) rfl (c_coder hi) ?_
  refine V_ishr (pc := 9) dJ0_length_8abf5_9 ?_
  rw [sc_shr0 (str_small i hi)]
  exact V_ret (pc := 10) dJ0_length_8abf5_10 ⟨rfl, _, rfl⟩ ⟨rfl, rfl, rfl⟩
theorem c_ckP {w : Value} {x z : Int32} (hw : w.category = 1) (h0 : ¬ x < 0) (h1 : x < z) : CTv G yJ3_checkIndex_8e157 cJ3_checkIndex_8e157 3 (some .int) 0 [.int x, .int z, w] σ d [.int x] d := by
  refine CT_of pn_RJ3 (by simp [lg_sl, hw, show ∀ n, (Value.int n).category = 1 from fun _ => rfl]) ?_
  refine V_iload_n (pc := 0) 0 dJ3_checkIndex_8e157_0 rfl rfl ?_
  refine V_if_lt (pc := 1) (tgt := 9) dJ3_checkIndex_8e157_1 (by decide) (fun h => absurd h h0) (fun _ => ?_)
  refine V_iload_n (pc := 4) 0 dJ3_checkIndex_8e157_4 rfl rfl ?_
  refine V_iload_n (pc := 5) 1 dJ3_checkIndex_8e157_5 rfl rfl ?_
  refine V_icmp_lt (pc := 6) (tgt := 16) dJ3_checkIndex_8e157_6 (by decide) (fun _ => ?_) (fun h => absurd h1 h)
  refine V_iload_n (pc := 16) 0 dJ3_checkIndex_8e157_16 rfl rfl ?_
  exact V_ret (pc := 17) dJ3_checkIndex_8e157_17 ⟨rfl, _, rfl⟩ ⟨rfl, rfl, rfl⟩
theorem c_ckS {x z : Int32} (h0 : ¬ x < 0) (h1 : x < z) : CTv G yJ0_checkIndex_df160 cJ0_checkIndex_df160 2 none 1 [.int x, .int z] σ d [] d := by
  refine CT_of pn_RJ0 (Nat.le_of_ble_eq_true rfl) ?_
  refine V_iload_n (pc := 0) 0 dJ0_checkIndex_df160_0 rfl rfl ?_
  refine V_iload_n (pc := 1) 1 dJ0_checkIndex_df160_1 rfl rfl ?_
  refine V_getsQ (pc := 2) dJ0_checkIndex_df160_2 kw456 (fun v hv => ?_)
  have hc : v.category = 1 := by rcases hv with rfl | ⟨t, rfl⟩ <;> rfl
  refine V_cS3 (pc := 5) dJ0_checkIndex_df160_5 kw458 cal_ckP kw459 (by decide) (Nat.le_of_ble_eq_true rfl) (c_ckP hc h0 h1) ?_
  refine V_pop (pc := 8) dJ0_checkIndex_df160_8 rfl ?_
  exact V_ret (pc := 9) dJ0_checkIndex_df160_9 ⟨rfl, rfl⟩ ⟨rfl, rfl, rfl⟩
theorem c_chL {i : Nat} {x : Int32} (hi : i < strN) (hx : vp_in x (strL.getD i 0)) : CTv G yJ1_charAt_3b067 cJ1_charAt_3b067 2 (some .char) 2 [.ref (gV G i), .int x] σ d [.int (chA i x)] d := by
  have hl : x < nI (strL.getD i 0) := by
    obtain ⟨j, hj, rfl⟩ := vp_in_of hx (str_small i hi)
    exact nI_lt hj (str_small i hi)
  refine CT_of pn_RJ1 (Nat.le_of_ble_eq_true rfl) ?_
  refine V_iload_n (pc := 0) 1 dJ1_charAt_3b067_0 rfl rfl ?_
  refine V_aload_n (pc := 1) 0 dJ1_charAt_3b067_1 rfl rfl ?_
  refine V_klen (pc := 2) dJ1_charAt_3b067_2 hi ?_
  refine V_cS2 (pc := 3) dJ1_charAt_3b067_3 kw453 cal_ckS kw454 (by decide) (Nat.le_of_ble_eq_true rfl) (c_ckS (fun h => hx (Or.inl h)) hl) ?_
  refine V_aload_n (pc := 6) 0 dJ1_charAt_3b067_6 rfl rfl ?_
  refine V_iload_n (pc := 7) 1 dJ1_charAt_3b067_7 rfl rfl ?_
  refine V_kld (pc := 8) dJ1_charAt_3b067_8 hi hx ?_
  refine V_sipush (pc := 9) (x := 255) dJ1_charAt_3b067_9 (by decide) ?_
  refine V_iand (pc := 12) dJ1_charAt_3b067_12 ?_
  refine V_i2c (pc := 13) dJ1_charAt_3b067_13 ?_
  exact V_ret (pc := 14) dJ1_charAt_3b067_14 ⟨rfl, _, rfl, pk_nc _⟩ ⟨rfl, rfl, rfl⟩
theorem c_charAt {i : Nat} {x : Int32} (hi : i < strN) (hx : vp_in x (strL.getD i 0)) : CTv G yJ0_charAt_5068e cJ0_charAt_5068e 2 (some .char) 3 [.ref (gK G i), .int x] σ d [.int (chA i x)] d := by
  refine CT_of pn_RJ0 (Nat.le_of_ble_eq_true rfl) ?_
  refine V_aload_n (pc := 0) 0 dJ0_charAt_5068e_0 rfl rfl ?_
  refine V_callK (pc := 1) (As := []) dJ0_charAt_5068e_1 kw446 cal_isLatin1 kw447 kw448 hi rfl (by decide) (Nat.le_of_ble_eq_true rfl) rfl (c_isLatin1 hi) ?_
  refine V_if_eq (pc := 4) (tgt := 16) dJ0_charAt_5068e_4 (by decide) (fun h => absurd h (by decide)) (fun _ => ?_)
  refine V_aload_n (pc := 7) 0 dJ0_charAt_5068e_7 rfl rfl ?_
  refine V_kval (pc := 8) dJ0_charAt_5068e_8 kw1908 hi ?_
  refine V_iload_n (pc := 11) 1 dJ0_charAt_5068e_11 rfl rfl ?_
  refine V_cS2 (pc := 12) dJ0_charAt_5068e_12 kw450 cal_chL kw451 (by decide) (Nat.le_of_ble_eq_true rfl) (c_chL hi hx) ?_
  exact V_ret (pc := 15) dJ0_charAt_5068e_15 ⟨rfl, _, rfl, pk_nc _⟩ ⟨rfl, rfl, rfl⟩
end JDK
section SW
variable {G : Gl} {y : MethodName} {cc : ByteArray} {nL : Nat} {ret : Option FieldType} {dep bc bs : Nat} {Φ : List Value → Sg → Dt → Prop} {pc : Nat} {lv : List (Nat × Value)} {st : List Value} {σ : Sg} {d : Dt}
theorem V_tcase {dflt lo hi : Int} {offs : Array Int} {len : Nat} {x c : Int32} {off : Int} {tgt : Nat} (hd : decode cc pc = .ok (.tableswitch dflt lo hi offs, len)) (hx : x = c) (g1 : ¬ c.toInt < lo) (g2 : ¬ hi < c.toInt) (ho : offs[(c.toInt - lo).toNat]? = some off) (ht : (pc : Int) + off = (tgt : Int))
    (k : V G y cc nL ret dep bc bs Φ tgt lv st σ d) : V G y cc nL ret dep bc bs Φ pc lv (.int x :: st) σ d := by
  subst hx
  exact V_tin hd g1 g2 ho ht k
end SW
theorem sw_e {x c : Int32} {n : Int} (h : ¬ x = c) (hc : c.toInt = n) : ¬ x.toInt = n := fun q => h (Int32.toInt_inj.mp (q.trans hc.symm))
theorem sw3 {x : Int32} (h0 : ¬ x = 0) (h1 : ¬ x = 1) (h2 : ¬ x = 2) : x.toInt < 0 ∨ 2 < x.toInt := by
  have a0 := sw_e h0 rfl; have a1 := sw_e h1 rfl; have a2 := sw_e h2 rfl
  simp at a0 a1 a2; omega
theorem sw4 {x : Int32} (h0 : ¬ x = 0) (h1 : ¬ x = 1) (h2 : ¬ x = 2) (h3 : ¬ x = 3) : x.toInt < 0 ∨ 3 < x.toInt := by
  have a0 := sw_e h0 rfl; have a1 := sw_e h1 rfl; have a2 := sw_e h2 rfl; have a3 := sw_e h3 rfl
  simp at a0 a1 a2 a3; omega
theorem sw6 {x : Int32} (h0 : ¬ x = 0) (h1 : ¬ x = 1) (h2 : ¬ x = 2) (h3 : ¬ x = 3) (h4 : ¬ x = 4) (h5 : ¬ x = 5) : x.toInt < 0 ∨ 5 < x.toInt := by
  have a0 := sw_e h0 rfl; have a1 := sw_e h1 rfl; have a2 := sw_e h2 rfl; have a3 := sw_e h3 rfl; have a4 := sw_e h4 rfl; have a5 := sw_e h5 rfl
  simp at a0 a1 a2 a3 a4 a5; omega
theorem sw7 {x : Int32} (h0 : ¬ x = 0) (h1 : ¬ x = 1) (h2 : ¬ x = 2) (h3 : ¬ x = 3) (h4 : ¬ x = 4) (h5 : ¬ x = 5) (h6 : ¬ x = 6) : x.toInt < 0 ∨ 6 < x.toInt := by
  have a0 := sw_e h0 rfl; have a1 := sw_e h1 rfl; have a2 := sw_e h2 rfl; have a3 := sw_e h3 rfl; have a4 := sw_e h4 rfl; have a5 := sw_e h5 rfl; have a6 := sw_e h6 rfl
  simp at a0 a1 a2 a3 a4 a5 a6; omega
section MM
variable {G : Gl} {y : MethodName} {cc : ByteArray} {nL : Nat} {ret : Option FieldType} {dep bc bs : Nat} {Φ : List Value → Sg → Dt → Prop} {pc : Nat} {lv : List (Nat × Value)} {st : List Value} {σ : Sg} {d : Dt}
theorem V_mmax {idx : Nat} {x z : Int32} (hd : decode cc pc = .ok (.invokestatic idx, 3)) (hm : Cond.methodLink y.cls idx Lib.Math.max.name ∈ lw_g) (h1 : 1 ≤ dep) (hst : (st.map fun v => v.category).sum ≤ 8)
    (k : V G y cc nL ret dep bc bs Φ (pc + 3) lv (.int (mxI x z) :: st) σ d) : V G y cc nL ret dep bc bs Φ pc lv (.int z :: .int x :: st) σ d := by
  intro p e R s m args below meth c0 H locs cells slots Q ls gk cx g1 g2 hr hl hv kk
  have hts := cx.2.2.2.2.2.1
  exact va_mmax cx.1 cx.2.1 (by rw [cx.2.2.2.1]; exact hv.1.symm) cx.2.2.2.2.1 (hts _ hm) (hts _ kw803) (hts _ kw12) (hts _ kw804) (by omega) (by omega) (by omega) (by omega) hd (k p e R s m args below meth c0 H locs cells slots Q ls gk cx g1 g2 hr hl hv kk)
theorem V_mmin {idx : Nat} {x z : Int32} (hd : decode cc pc = .ok (.invokestatic idx, 3)) (hm : Cond.methodLink y.cls idx Lib.Math.min.name ∈ lw_g) (h1 : 1 ≤ dep) (hst : (st.map fun v => v.category).sum ≤ 8)
    (k : V G y cc nL ret dep bc bs Φ (pc + 3) lv (.int (mnI x z) :: st) σ d) : V G y cc nL ret dep bc bs Φ pc lv (.int z :: .int x :: st) σ d := by
  intro p e R s m args below meth c0 H locs cells slots Q ls gk cx g1 g2 hr hl hv kk
  have hts := cx.2.2.2.2.2.1
  exact va_mmin cx.1 cx.2.1 (by rw [cx.2.2.2.1]; exact hv.1.symm) cx.2.2.2.2.1 (hts _ hm) (hts _ kw416) (hts _ kw12) (hts _ kw417) (by omega) (by omega) (by omega) (by omega) hd (k p e R s m args below meth c0 H locs cells slots Q ls gk cx g1 g2 hr hl hv kk)
end MM
