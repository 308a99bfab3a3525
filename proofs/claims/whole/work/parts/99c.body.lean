/-! the law's body, from its start -/
def sg0 : Sg := (0, fun _ => none, fun _ _ => none)
def dt0 : Dt := (fun _ _ => 0, fun _ _ => 0)
theorem CI_0 : CI 0 2 77 167 (uI dt0 167 3 (-1)) (fun _ => 0) false := by
  have z : ∀ o k, ¬ (o = 167 ∧ k = 3) → (uI dt0 167 3 (-1)).1 o k = 0 := fun o k h => if_neg h
  refine ⟨⟨rfl, rfl, Or.inl ⟨rfl, rfl⟩⟩, ⟨z _ _ (by omega), z _ _ (by omega), fun _ => ⟨z _ _ (by omega), z _ _ (by omega), z _ _ (by omega), z _ _ (by omega), z _ _ (by omega), z _ _ (by omega)⟩, fun h => by cases h⟩, ?_, ?_, ?_, ⟨0, by omega, z _ _ (by omega), z _ _ (by omega), fun j hj => by omega⟩, fun h => (by cases h), ⟨0, by omega, z _ _ (by omega), z _ _ (by omega), fun _ => rfl, fun j hj => by omega⟩⟩
  · rw [z _ _ (by omega), z _ _ (by omega)]
  · rw [z _ _ (by omega), z _ _ (by omega)]
  · intro h
    rw [z _ _ (by omega)] at h
    exact absurd h (by decide)
theorem L10_up {σ σ1 : Sg} {h p : Nat} (H : L10 σ 0 h p) (hh : 1 ≤ h ∧ h ≤ 92) (hp : 1 ≤ p ∧ p ≤ 92) (f : ∀ i, i < 167 → σ1.2.1 i = σ.2.1 i ∧ ∀ k, σ1.2.2 i k = σ.2.2 i k) : L10 σ1 0 h p :=
  L10_mv H (L10_o2 H) (L10_o3 H) hh hp (fun i _ hi => f i hi) (f 0 (by omega)).1 (fun k _ _ => (f 0 (by omega)).2 k) (((f 0 (by omega)).2 2).trans (L10_r2 H)) (((f 0 (by omega)).2 3).trans (L10_r3 H))
theorem law_body {nm : String} {b : Nat} {G : Gl} {Φ : List Value → Sg → Dt → Prop} {L : Nat} {xs : Nat → Int32} (tx : TX G) (ao : AO G) (hs : va_X b L xs G.2.1 G.2.1.heap) (hL : L ≤ 3072) (hΦ : ∀ σ d, Φ [.int 1] σ d) : V G (yLw nm) cL_law 7 (some .boolean) 24 695 12470 Φ 0 [(0, .ref b)] [] sg0 dt0 := by
  refine V_new (bc := 694) (bs := 12458) (pc := 0) (c := 10) dL_law_0 (by decide) kw25 kw26 kw1 (by decide) ?_
  refine V_dup (pc := 3) dL_law_3 rfl ?_
  refine V_callI (pc := 4) (o := 0) (n := 0) (bc2 := 166) (bs2 := 6302) (bc1 := 528) (bs1 := 6156) (As := []) (st := [.ref (gB G + 0)]) dL_law_4 kw27 calX11_init kw28 rfl ⟨by decide, by decide⟩ (Nat.le_of_ble_eq_true rfl) rfl (ctX11_init ao rfl rfl) ?_
  intro v σ1 d1 hP
  obtain ⟨rfl, rfl, g1, h10⟩ := hP
  have e1 : σ1.1 = 167 := g1.1
  refine V_astore_n (pc := 7) dL_law_7 rfl (by decide) rfl ?_
  refine V_new (bc := 527) (bs := 6121) (pc := 8) (c := 11) dL_law_8 (by decide) kw1237 kw1238 kw11 (by decide) ?_
  rw [e1]
  refine V_dup (pc := 11) dL_law_11 rfl ?_
  refine V_callI (pc := 12) (o := 167) (n := 0) (bc2 := 14) (bs2 := 2536) (bc1 := 513) (bs1 := 3585) (As := []) (st := [.ref (gB G + 167)]) dL_law_12 kw1239 calX12_init kw1240 rfl ⟨by decide, by decide⟩ (Nat.le_of_ble_eq_true rfl) rfl (ctX12_init (by rw [← e1]; rfl) (by show (if 167 = σ1.1 then some (0, 11) else _) = _; rw [if_pos e1.symm])) ?_
  intro v σ2 d2 hP
  obtain ⟨rfl, rfl, g2, h11⟩ := hP
  have e2 : σ2.1 = 182 := g2.1
  refine V_astore_n (pc := 15) dL_law_15 rfl (by decide) rfl ?_
  refine V_iconst (pc := 16) (x := 1) dL_law_16 (by decide) ?_
  refine V_newJ (bc := 512) (bs := 3584) (pc := 17) (x := 1) (n := 1) dL_law_17 kw84 (by decide) (by decide) (by decide) ?_
  rw [e2]
  refine V_astore_n (pc := 19) dL_law_19 rfl (by decide) rfl ?_
  refine V_iconst (pc := 20) (x := 0) dL_law_20 (by decide) ?_
  refine V_istore (pc := 21) dL_law_21 (by decide) rfl ?_
  refine law_loop tx hs hL hΦ 512 0 (by omega) (by omega) _ _ 2 77 (fun _ => 0) false ⟨CI_0, ?_, ?_, ?_, ?_⟩
  · refine L10_up h10 (by omega) (by omega) fun i hi => ⟨?_, fun k => ?_⟩
    · show (if i = σ2.1 then some (2, 1) else σ2.2.1 i) = _
      rw [if_neg (by omega), g2.2.1 i (by omega)]
      show (if i = σ1.1 then some (0, 11) else σ1.2.1 i) = _
      rw [if_neg (by omega)]
    · show σ2.2.2 i k = _
      rw [g2.2.2 i (by omega) k]
      rfl
  · refine L11_mv (σ := σ2) (fun i h1 h2 => ⟨?_, fun k => rfl⟩) h11
    show (if i = σ2.1 then some (2, 1) else σ2.2.1 i) = _
    rw [if_neg (by omega)]
  · show (if 182 = σ2.1 then some (2, 1) else σ2.2.1 182) = _
    rw [if_pos e2.symm]
  · show 183 ≤ σ2.1 + 1
    omega
