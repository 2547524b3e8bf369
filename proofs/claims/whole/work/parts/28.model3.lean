theorem iw_X3_pokeMod_X3 : ∀ w ∈ wsX30, w ∈ wsX3_pokeMod := by decide +kernel
theorem iw_X3_peekMod_X3 : ∀ w ∈ wsX30, w ∈ wsX3_peekMod := by decide +kernel
theorem iw_X3_init__X3 : ∀ w ∈ wsX30, w ∈ wsX3_init_ := by decide +kernel
theorem iw_X3_ready_X3 : ∀ w ∈ wsX30, w ∈ wsX3_ready := by decide +kernel
theorem iw_X3_poke_X3 : ∀ w ∈ wsX30, w ∈ wsX3_poke := by decide +kernel
theorem iw_X3_peek_X3 : ∀ w ∈ wsX30, w ∈ wsX3_peek := by decide +kernel
theorem iw_X3_reduce_X3 : ∀ w ∈ wsX30, w ∈ wsX3_reduce := by decide +kernel
theorem iw_X3_addMod_X3 : ∀ w ∈ wsX30, w ∈ wsX3_addMod := by decide +kernel
theorem iw_X3_subMod_X3 : ∀ w ∈ wsX30, w ∈ wsX3_subMod := by decide +kernel
theorem iw_X3_mulMod_X3 : ∀ w ∈ wsX30, w ∈ wsX3_mulMod := by decide +kernel
theorem iw_X3_montMod_X3 : ∀ w ∈ wsX30, w ∈ wsX3_montMod := by decide +kernel
theorem iw_X3_powMod_X3 : ∀ w ∈ wsX30, w ∈ wsX3_powMod := by decide +kernel
theorem iw_X3_invMod_X3 : ∀ w ∈ wsX30, w ∈ wsX3_invMod := by decide +kernel
theorem iw_X3_witness_X3 : ∀ w ∈ wsX30, w ∈ wsX3_witness := by decide +kernel
theorem iw_X3_compare_X3 : ∀ w ∈ wsX30, w ∈ wsX3_compare := by decide +kernel
set_option maxHeartbeats 4000000 in
set_option maxRecDepth 100000 in
/-- reference: peekMod(i) -/
theorem n_peekMod (l : Launch) (g : qCfg) (hg : g.ok) (σ : qSt) {M : Nat} {X : Nat → Nat} (ha : mAbs g σ M X) (hc : mInv σ M) (x : Int32) : qCI l g yX3_peekMod wsX3_peekMod 1 21 [.ref (g.P 3), .int x] σ (mPost g σ (sPeekMod g.k x M X σ.rm)) := by
  refine q_sI (cc := cX3_peekMod) (maxL := 2) (by decide) rfl (Nat.le_of_ble_eq_true rfl) ?_
  intro p e s m args below meth c ls Q S hW hl fin
  obtain ⟨hx, hb, hml, hown, hts, hr, hlocks⟩ := id S
  obtain ⟨hk1, hk8, hn1, hn8⟩ := id hg
  have hl : lv_has ls 2 [(0, .ref (g.P 3)), (1, .int x)] := hl
  refine lv_aload_n hx hb dX3_peekMod_0 rfl (lv_at hl 0 rfl) ?_
  refine lv_iload_n hx hb dX3_peekMod_1 rfl (lv_at hl 1 rfl) ?_
  refine q_i (q_runV (As := [.int x]) (rest := []) (i := 3) S hW (by decide) rfl rfl (n_isLimb l g hg σ x) gX3_peekMod_X3_isLimb rfl (nA := 1) ⟨rfl, by decide +kernel, ⟨by decide, by decide⟩⟩ rfl hl.1 rfl (Nat.le_of_ble_eq_true rfl) dX3_peekMod_2 ⟨Nat.zero_le _, Nat.zero_le _⟩) hW Ad_hi (fun r_2 σ1 H locs hp hW => ?_)
  obtain ⟨e1, er1⟩ : σ1 = σ ∧ (r_2 = 1 ∧ isR x g.k ∨ r_2 = 0 ∧ ¬ isR x g.k) := hp
  rw [e1] at hW
  refine lv_if_eq (tgt := 23) hx hb dX3_peekMod_5 (by decide) (fun c1 => ?_) (fun c1 => ?_)
  · have hno : ¬ isR x g.k := er1.elim (fun z => absurd (z.1.symm.trans c1) (by decide)) (fun z => z.2)
    refine lv_iconst (v := 0) hx hb dX3_peekMod_23 (by decide) ?_
    exact fin _ _ _ _ _ _ hW (⟨⟨rfl, rfl, rfl⟩, M, X, ha, hc, ⟨Or.inr ⟨hno, rfl⟩, rfl, rfl, rfl⟩⟩) dX3_peekMod_24
  · obtain ⟨j, hj, ej⟩ : isR x g.k := er1.elim (fun z => z.2) (fun z => absurd z.1 c1)
    refine lv_aload_n hx hb dX3_peekMod_8 rfl (lv_at hl 0 rfl) ?_
    refine q_get (C := RX3) (T := TX3) (v := .ref (g.P 4)) hx hb hts hown (fun _ h9 => iw_X3_peekMod_X3 _ h9) hW (i := 3) (by decide) rfl rfl 2 (by decide) (hts (.fieldLink RX3 7 "ModEngineModel" "held" "[J") (by decide +kernel)) rfl dX3_peekMod_9 ?_
    refine lv_aload_n hx hb dX3_peekMod_12 rfl (lv_at hl 0 rfl) ?_
    refine q_i (q_runV (As := []) (rest := [.ref (g.P 4)]) (i := 3) S hW (by decide) rfl rfl (n_placeOfModulus l g hg σ ) gX3_peekMod_X3_placeOfModulus rfl (nA := 0) ⟨rfl, by decide +kernel, ⟨by decide, by decide⟩⟩ rfl hl.1 rfl (Nat.le_of_ble_eq_true rfl) dX3_peekMod_13 ⟨Nat.zero_le _, Nat.zero_le _⟩) hW Ad_hi (fun r_13 σ2 H locs hp hW => ?_)
    obtain ⟨e2, er2⟩ : σ2 = σ ∧ r_13 = nI (9 * 8) := hp
    rw [e2] at hW
    refine q_ti (y := nI (9 * 8)) er2 ?_
    refine lv_iload_n hx hb dX3_peekMod_16 rfl (lv_at hl 1 rfl) ?_
    refine lv_iadd hx hb dX3_peekMod_17 ?_
    refine q_ti (y := nI (9 * 8 + j)) (by rw [ej]; exact nI_add _ _) ?_
    refine q_lald hx hb hW (i := 4) (j := (9 * 8 + j)) (by decide) (by show 9 * 8 + j < 81; omega) rfl dX3_peekMod_18 ?_
    refine q_tl (y := lN (uL (σ.J 4 (9 * 8 + j)))) ((lN_uL _).symm) ?_
    refine lv_l2i hx hb dX3_peekMod_19 rfl ?_
    refine q_ti (y := nI (uL (σ.J 4 (9 * 8 + j)))) (lN_i _) ?_
    refine lv_goto (tgt := 24) hx hb dX3_peekMod_20 (by decide) ?_
    exact fin _ _ _ _ _ _ hW (⟨⟨rfl, rfl, rfl⟩, M, X, ha, hc, ⟨Or.inl ⟨j, hj, ej, by rw [Nh_dig ha.1 (by omega)]⟩, rfl, rfl, rfl⟩⟩) dX3_peekMod_24
set_option maxHeartbeats 4000000 in
set_option maxRecDepth 100000 in
/-- reference: pokeMod(i, w) -/
theorem n_pokeMod (l : Launch) (g : qCfg) (hg : g.ok) (σ : qSt) {M : Nat} {X : Nat → Nat} (ha : mAbs g σ M X) (hc : mInv σ M) (x v : Int32) : qCI l g yX3_pokeMod wsX3_pokeMod 1 21 [.ref (g.P 3), .int x, .int v] σ (mPost g σ (sPokeMod g.k x v M X σ.rm)) := by
  refine q_sZ (cc := cX3_pokeMod) (maxL := 3) (by decide) rfl (Nat.le_of_ble_eq_true rfl) ?_
  intro p e s m args below meth c ls Q S hW hl fin
  obtain ⟨hx, hb, hml, hown, hts, hr, hlocks⟩ := id S
  obtain ⟨hk1, hk8, hn1, hn8⟩ := id hg
  have hl : lv_has ls 3 [(0, .ref (g.P 3)), (1, .int x), (2, .int v)] := hl
  refine lv_aload_n hx hb dX3_pokeMod_0 rfl (lv_at hl 0 rfl) ?_
  refine lv_iload_n hx hb dX3_pokeMod_1 rfl (lv_at hl 1 rfl) ?_
  refine q_i (q_runV (As := [.int x]) (rest := []) (i := 3) S hW (by decide) rfl rfl (n_isLimb l g hg σ x) gX3_pokeMod_X3_isLimb rfl (nA := 1) ⟨rfl, by decide +kernel, ⟨by decide, by decide⟩⟩ rfl hl.1 rfl (Nat.le_of_ble_eq_true rfl) dX3_pokeMod_2 ⟨Nat.zero_le _, Nat.zero_le _⟩) hW Ad_hi (fun r_2 σ1 H locs hp hW => ?_)
  obtain ⟨e1, er1⟩ : σ1 = σ ∧ (r_2 = 1 ∧ isR x g.k ∨ r_2 = 0 ∧ ¬ isR x g.k) := hp
  rw [e1] at hW
  refine lv_if_ne (tgt := 10) hx hb dX3_pokeMod_5 (by decide) (fun c1 => ?_) (fun c1 => ?_)
  · obtain ⟨j, hj, ej⟩ : isR x g.k := er1.elim (fun z => z.2) (fun z => absurd z.1 c1)
    refine lv_aload_n hx hb dX3_pokeMod_10 rfl (lv_at hl 0 rfl) ?_
    refine q_get (C := RX3) (T := TX3) (v := .ref (g.P 4)) hx hb hts hown (fun _ h9 => iw_X3_pokeMod_X3 _ h9) hW (i := 3) (by decide) rfl rfl 2 (by decide) (hts (.fieldLink RX3 7 "ModEngineModel" "held" "[J") (by decide +kernel)) rfl dX3_pokeMod_11 ?_
    refine lv_aload_n hx hb dX3_pokeMod_14 rfl (lv_at hl 0 rfl) ?_
    refine q_i (q_runV (As := []) (rest := [.ref (g.P 4)]) (i := 3) S hW (by decide) rfl rfl (n_placeOfModulus l g hg σ ) gX3_pokeMod_X3_placeOfModulus rfl (nA := 0) ⟨rfl, by decide +kernel, ⟨by decide, by decide⟩⟩ rfl hl.1 rfl (Nat.le_of_ble_eq_true rfl) dX3_pokeMod_15 ⟨Nat.zero_le _, Nat.zero_le _⟩) hW Ad_hi (fun r_15 σ2 H locs hp hW => ?_)
    obtain ⟨e2, er2⟩ : σ2 = σ ∧ r_15 = nI (9 * 8) := hp
    rw [e2] at hW
    refine q_ti (y := nI (9 * 8)) er2 ?_
    refine lv_iload_n hx hb dX3_pokeMod_18 rfl (lv_at hl 1 rfl) ?_
    refine lv_iadd hx hb dX3_pokeMod_19 ?_
    refine q_ti (y := nI (9 * 8 + j)) (by rw [ej]; exact nI_add _ _) ?_
    refine lv_iload_n hx hb dX3_pokeMod_20 rfl (lv_at hl 2 rfl) ?_
    refine lv_i2l hx hb dX3_pokeMod_21 rfl ?_
    refine lv_ldc2 (v := 4294967295) hx hb hown (hts (.constantLong RX3 53 (4294967295)) (by decide +kernel)) dX3_pokeMod_22 ?_
    refine lv_land hx hb dX3_pokeMod_25 ?_
    refine q_tl (y := lN (uI v)) (m32 _) ?_
    refine q_last hx hb hW (i := 4) (j := (9 * 8 + j)) (by decide) (by show 9 * 8 + j < 81; omega) rfl dX3_pokeMod_26 (fun H locs hW => ?_)
    refine lv_aload_n hx hb dX3_pokeMod_27 rfl (lv_at hl 0 rfl) ?_
    refine lv_iconst (v := 0) hx hb dX3_pokeMod_28 (by decide) ?_
    generalize hJ1 : va_up σ.J 4 (va_up (σ.J 4) (9 * 8 + j) (lN (uI v))) = J1 at hW
    have hW : Wo g (Ad g s.heap.size) s H locs (σ.setJ J1) := hW
    refine q_put (C := RX3) (T := TX3) hx hb hts hown (fun _ h9 => iw_X3_pokeMod_X3 _ h9) tyX3 tyX3_ok nmX3 hW (i := 3) (by decide) rfl rfl 3 (by decide) (hts (.fieldLink RX3 55 "ModEngineModel" "isReady" "Z") (by decide +kernel)) rfl (ty := .boolean) (by decide +kernel) rfl rfl (Nat.le_of_ble_eq_true rfl) ((σ.setJ J1).setRm 0) rfl cel_rm dX3_pokeMod_29 (fun H locs hW => ?_)
    refine lv_iconst (v := 1) hx hb dX3_pokeMod_32 (by decide) ?_
    have hs : mAbs g (σ.setJ J1) (setd M j (uI v)) X := by
      rw [← hJ1]
      exact ⟨Nh_set ha.1 (by omega) (uI_lt v), setd_lt ha.2.1 hj (uI_lt v), fun r hr => ⟨Nh_set_ne (ha.2.2 r hr).1 (by omega) (by omega), (ha.2.2 r hr).2⟩⟩
    exact fin _ _ _ _ _ _ (by decide) hW (⟨⟨rfl, rfl, rfl⟩, _, X, hs, ⟨Or.inl rfl, fun q => absurd (show (0 : Int32) = 1 from q) (by decide)⟩, Or.inl ⟨j, hj, ej, rfl, rfl, rfl, rfl⟩⟩) dX3_pokeMod_33
  · have hno : ¬ isR x g.k := er1.elim (fun z => absurd (z.1.symm.trans c1) (by decide)) (fun z => z.2)
    refine lv_iconst (v := 0) hx hb dX3_pokeMod_8 (by decide) ?_
    exact fin _ _ _ _ _ _ (by decide) hW (⟨⟨rfl, rfl, rfl⟩, M, X, ha, hc, Or.inr ⟨hno, rfl, rfl, rfl, rfl⟩⟩) dX3_pokeMod_9
set_option maxHeartbeats 4000000 in
set_option maxRecDepth 100000 in
/-- reference: ready() -/
theorem n_ready (l : Launch) (g : qCfg) (hg : g.ok) (σ : qSt) {M : Nat} {X : Nat → Nat} (ha : mAbs g σ M X) (hc : mInv σ M)  : qCI l g yX3_ready wsX3_ready 0 0 [.ref (g.P 3)] σ (mPost g σ (sReady M X σ.rm)) := by
  refine q_sZ (cc := cX3_ready) (maxL := 1) (by decide) rfl (Nat.le_of_ble_eq_true rfl) ?_
  intro p e s m args below meth c ls Q S hW hl fin
  obtain ⟨hx, hb, hml, hown, hts, hr, hlocks⟩ := id S
  obtain ⟨hk1, hk8, hn1, hn8⟩ := id hg
  have hl : lv_has ls 1 [(0, .ref (g.P 3))] := hl
  refine lv_aload_n hx hb dX3_ready_0 rfl (lv_at hl 0 rfl) ?_
  refine q_get (C := RX3) (T := TX3) (v := .int σ.rm) hx hb hts hown (fun _ h9 => iw_X3_ready_X3 _ h9) hW (i := 3) (by decide) rfl rfl 3 (by decide) (hts (.fieldLink RX3 55 "ModEngineModel" "isReady" "Z") (by decide +kernel)) rfl dX3_ready_1 ?_
  exact fin _ _ _ _ _ _ hc.1 hW (⟨⟨rfl, rfl, rfl⟩, M, X, ha, hc, ⟨rfl, rfl, rfl, rfl⟩⟩) dX3_ready_4
set_option maxHeartbeats 4000000 in
set_option maxRecDepth 100000 in
/-- reference: init() -/
theorem n_init (l : Launch) (g : qCfg) (hg : g.ok) (σ : qSt) {M : Nat} {X : Nat → Nat} (ha : mAbs g σ M X) (hc : mInv σ M)  : qCI l g yX3_init_ wsX3_init_ 1 23 [.ref (g.P 3)] σ (mPost g σ (sInit M X σ.rm)) := by
  refine q_sI (cc := cX3_init_) (maxL := 3) (by decide) rfl (Nat.le_of_ble_eq_true rfl) ?_
  intro p e s m args below meth c ls Q S hW hl fin
  obtain ⟨hx, hb, hml, hown, hts, hr, hlocks⟩ := id S
  obtain ⟨hk1, hk8, hn1, hn8⟩ := id hg
  have hl : lv_has ls 3 [(0, .ref (g.P 3))] := hl
  have loop : ∀ (n x : Nat) (z : Int32) (J : Nat → Nat → Int64), x ≤ 9 → 10 ≤ x + n → 1 ≤ x → mAbs g (σ.setJ J) M X → Nb J 5 M → (z = 1 ∧ (∀ y, 1 ≤ y → y < x → uL (J 5 y) = 0) ∨ z = 0 ∧ ¬ (∀ y, 1 ≤ y → y < x → uL (J 5 y) = 0)) → ∀ (H : Heap) (locs : List Loc) (ls : Array Slot), Wo g (Ad g s.heap.size) s H locs (σ.setJ J) → lv_has ls 3 [(2, .int (nI x)), (1, .int z), (0, .ref (g.P 3))] → W p l e (rmm 1 23) s m args below meth c H locs 0 0 Q (F0 m 16 ls []) := by
    intro n
    induction n with
    | zero => intro x z J h1 h2; exact absurd h2 (by omega)
    | succ n ih =>
      intro x z J hx1 hx2 hx0 hA h5 hz H locs ls hW hl
      refine lv_iload_n hx hb dX3_init__16 rfl (lv_at hl 0 rfl) ?_
      refine lv_bipush (v := 9) hx hb dX3_init__17 (by decide) ?_
      refine lv_icmp_ge (tgt := 49) hx hb dX3_init__19 (by decide) (fun c1 => ?_) (fun c1 => ?_)
      · have hx3 := nle (b := 9) c1 (by omega) (by omega)
        have hx4 : x = 9 := by omega
        subst hx4
        have hb0 : uL (J 5 0) < 4294967296 := h5.1 0 (by decide)
        have hodd : M % 2 = uL (J 5 0) % 2 := by
          have h7 := dv_mod2 (d := fun y => uL (J 5 y)) (k := 9) (by decide)
          rw [h5.2] at h7
          exact h7
        obtain ⟨q, hq⟩ : ∃ q, M = uL (J 5 0) + 4294967296 * q := by
          have h7 := dv_low (d := fun y => uL (J 5 y)) (k := 9) (by decide)
          rw [h5.2] at h7
          exact h7
        refine lv_aload_n hx hb dX3_init__49 rfl (lv_at hl 2 rfl) ?_
        refine q_get (C := RX3) (T := TX3) (v := .ref (g.P 5)) hx hb hts hown (fun _ h9 => iw_X3_init__X3 _ h9) hW (i := 3) (by decide) rfl rfl 4 (by decide) (hts (.fieldLink RX3 13 "ModEngineModel" "modulus" "[J") (by decide +kernel)) rfl dX3_init__50 ?_
        refine lv_iconst (v := 0) hx hb dX3_init__53 (by decide) ?_
        refine q_lald hx hb hW (i := 5) (j := 0) (by decide) (by rw [lsz9 (by omega)]; omega) rfl dX3_init__54 ?_
        refine q_tl (y := lN (uL (J 5 0))) ((lN_uL _).symm) ?_
        refine lv_ldc2 (v := 2) hx hb hown (hts (.constantLong RX3 63 (2)) (by decide +kernel)) dX3_init__55 ?_
        refine lv_lrem hx hb dX3_init__58 (by decide) ?_
        refine q_tl (y := lN (uL (J 5 0) % 2)) (pk_lRem (b := 2) (by omega) (by decide) (by decide)) ?_
        refine lv_lconst (v := 0) hx hb dX3_init__59 (by decide) ?_
        refine W.lcmp hx hb dX3_init__60 ?_
        refine lv_if_eq (tgt := 81) hx hb dX3_init__61 (by decide) (fun c2 => ?_) (fun c2 => ?_)
        · have h0 : uL (J 5 0) % 2 = 0 := (lcmp_0 (by omega)).mp c2
          refine lv_iconst (v := 1) hx hb dX3_init__81 (by decide) ?_
          exact fin _ _ _ _ _ _ hW (⟨⟨rfl, rfl, rfl⟩, M, X, hA, hc, rfl, rfl, Or.inr ⟨fun z => by omega, rfl, rfl⟩⟩) dX3_init__82
        · have h0 : ¬ uL (J 5 0) % 2 = 0 := fun q => c2 ((lcmp_0 (by omega)).mpr q)
          have hM1 : M % 2 = 1 := by omega
          refine lv_iload_n hx hb dX3_init__64 rfl (lv_at hl 1 rfl) ?_
          refine lv_if_eq (tgt := 83) hx hb dX3_init__65 (by decide) (fun c3 => ?_) (fun c3 => ?_)
          · have hz0 := hz.resolve_left (fun q => absurd (q.1.symm.trans c3) (by decide))
            refine lv_aload_n hx hb dX3_init__83 rfl (lv_at hl 2 rfl) ?_
            refine lv_iconst (v := 1) hx hb dX3_init__84 (by decide) ?_
            have hW : Wo g (Ad g s.heap.size) s H locs (σ.setJ J) := hW
            refine q_put (C := RX3) (T := TX3) hx hb hts hown (fun _ h9 => iw_X3_init__X3 _ h9) tyX3 tyX3_ok nmX3 hW (i := 3) (by decide) rfl rfl 3 (by decide) (hts (.fieldLink RX3 55 "ModEngineModel" "isReady" "Z") (by decide +kernel)) rfl (ty := .boolean) (by decide +kernel) rfl rfl (Nat.le_of_ble_eq_true rfl) ((σ.setJ J).setRm 1) rfl cel_rm dX3_init__85 (fun H locs hW => ?_)
            refine lv_iconst (v := 0) hx hb dX3_init__88 (by decide) ?_
            have hM3 : 3 ≤ M := by
              rcases Nat.lt_or_ge M 3 with q3 | q3
              · exfalso
                have h8 := (dv_small (d := fun y => uL (J 5 y)) (k := 9) (v := M) (by decide) h5.1 (by omega)).mp h5.2
                exact hz0.2 h8.2
              · exact q3
            exact fin _ _ _ _ _ _ hW (⟨⟨rfl, rfl, rfl⟩, M, X, hA, ⟨Or.inr rfl, fun _ => ⟨hM1, hM3⟩⟩, rfl, rfl, Or.inl ⟨hM1, hM3, rfl, rfl⟩⟩) dX3_init__89
          · have hz0 := hz.resolve_right (fun q => c3 q.1)
            have hMd : M = uL (J 5 0) := by
              rw [← h5.2]
              exact dv_one (d := fun y => uL (J 5 y)) (by decide) hz0.2
            refine lv_aload_n hx hb dX3_init__68 rfl (lv_at hl 2 rfl) ?_
            refine q_get (C := RX3) (T := TX3) (v := .ref (g.P 5)) hx hb hts hown (fun _ h9 => iw_X3_init__X3 _ h9) hW (i := 3) (by decide) rfl rfl 4 (by decide) (hts (.fieldLink RX3 13 "ModEngineModel" "modulus" "[J") (by decide +kernel)) rfl dX3_init__69 ?_
            refine lv_iconst (v := 0) hx hb dX3_init__72 (by decide) ?_
            refine q_lald hx hb hW (i := 5) (j := 0) (by decide) (by rw [lsz9 (by omega)]; omega) rfl dX3_init__73 ?_
            refine q_tl (y := lN (uL (J 5 0))) ((lN_uL _).symm) ?_
            refine lv_ldc2 (v := 3) hx hb hown (hts (.constantLong RX3 65 (3)) (by decide +kernel)) dX3_init__74 ?_
            refine W.lcmp hx hb dX3_init__77 ?_
            refine lv_if_ge (tgt := 83) hx hb dX3_init__78 (by decide) (fun c4 => ?_) (fun c4 => ?_)
            · refine lv_aload_n hx hb dX3_init__83 rfl (lv_at hl 2 rfl) ?_
              refine lv_iconst (v := 1) hx hb dX3_init__84 (by decide) ?_
              have hW : Wo g (Ad g s.heap.size) s H locs (σ.setJ J) := hW
              refine q_put (C := RX3) (T := TX3) hx hb hts hown (fun _ h9 => iw_X3_init__X3 _ h9) tyX3 tyX3_ok nmX3 hW (i := 3) (by decide) rfl rfl 3 (by decide) (hts (.fieldLink RX3 55 "ModEngineModel" "isReady" "Z") (by decide +kernel)) rfl (ty := .boolean) (by decide +kernel) rfl rfl (Nat.le_of_ble_eq_true rfl) ((σ.setJ J).setRm 1) rfl cel_rm dX3_init__85 (fun H locs hW => ?_)
              refine lv_iconst (v := 0) hx hb dX3_init__88 (by decide) ?_
              have hM3 : 3 ≤ M := by rw [hMd]; exact (lcmp_ge (b := 3) (by omega) (by decide)).mp c4
              exact fin _ _ _ _ _ _ hW (⟨⟨rfl, rfl, rfl⟩, M, X, hA, ⟨Or.inr rfl, fun _ => ⟨hM1, hM3⟩⟩, rfl, rfl, Or.inl ⟨hM1, hM3, rfl, rfl⟩⟩) dX3_init__89
            · have h3 : ¬ 3 ≤ uL (J 5 0) := fun q => c4 ((lcmp_ge (b := 3) (by omega) (by decide)).mpr q)
              refine lv_iconst (v := 1) hx hb dX3_init__81 (by decide) ?_
              exact fin _ _ _ _ _ _ hW (⟨⟨rfl, rfl, rfl⟩, M, X, hA, hc, rfl, rfl, Or.inr ⟨fun z => by omega, rfl, rfl⟩⟩) dX3_init__82
      · have hx3 := nge (b := 9) c1 (by omega)
        have hb1 : uL (J 5 x) < 4294967296 := h5.1 x hx3
        refine lv_iload_n hx hb dX3_init__22 rfl (lv_at hl 1 rfl) ?_
        refine lv_if_eq (tgt := 41) hx hb dX3_init__23 (by decide) (fun c2 => ?_) (fun c2 => ?_)
        · have hz0 := hz.resolve_left (fun q => absurd (q.1.symm.trans c2) (by decide))
          refine lv_iconst (v := 0) hx hb dX3_init__41 (by decide) ?_
          refine lv_istore_n (lv' := [(1, .int 0), (2, .int (nI x)), (0, .ref (g.P 3))]) hx hb dX3_init__42 rfl hl (by decide) rfl (fun ls hl => ?_)
          refine lv_iinc (v := nI (x + 1)) (lv' := [(2, .int (nI (x + 1))), (1, .int 0), (0, .ref (g.P 3))]) hx hb dX3_init__43 hl (k := 1) rfl (nI_1 _) (by decide) rfl (fun ls hl => ?_)
          refine lv_goto (tgt := 16) hx hb dX3_init__46 (by decide) ?_
          exact ih (x + 1) 0 J (by omega) (by omega) (by omega) hA h5 (Or.inr ⟨rfl, fun q => hz0.2 (fun y h1 hy => q y h1 (by omega))⟩) H locs ls hW (lv_sub hl [0, 1, 2] rfl)
        · have hz0 := hz.resolve_right (fun q => c2 q.1)
          refine lv_aload_n hx hb dX3_init__26 rfl (lv_at hl 2 rfl) ?_
          refine q_get (C := RX3) (T := TX3) (v := .ref (g.P 5)) hx hb hts hown (fun _ h9 => iw_X3_init__X3 _ h9) hW (i := 3) (by decide) rfl rfl 4 (by decide) (hts (.fieldLink RX3 13 "ModEngineModel" "modulus" "[J") (by decide +kernel)) rfl dX3_init__27 ?_
          refine lv_iload_n hx hb dX3_init__30 rfl (lv_at hl 0 rfl) ?_
          refine q_lald hx hb hW (i := 5) (j := x) (by decide) (by rw [lsz9 (by omega)]; omega) rfl dX3_init__31 ?_
          refine q_tl (y := lN (uL (J 5 x))) ((lN_uL _).symm) ?_
          refine lv_lconst (v := 0) hx hb dX3_init__32 (by decide) ?_
          refine W.lcmp hx hb dX3_init__33 ?_
          refine lv_if_ne (tgt := 41) hx hb dX3_init__34 (by decide) (fun c3 => ?_) (fun c3 => ?_)
          · have h0 : ¬ uL (J 5 x) = 0 := fun q => c3 ((lcmp_0 (by omega)).mpr q)
            refine lv_iconst (v := 0) hx hb dX3_init__41 (by decide) ?_
            refine lv_istore_n (lv' := [(1, .int 0), (2, .int (nI x)), (0, .ref (g.P 3))]) hx hb dX3_init__42 rfl hl (by decide) rfl (fun ls hl => ?_)
            refine lv_iinc (v := nI (x + 1)) (lv' := [(2, .int (nI (x + 1))), (1, .int 0), (0, .ref (g.P 3))]) hx hb dX3_init__43 hl (k := 1) rfl (nI_1 _) (by decide) rfl (fun ls hl => ?_)
            refine lv_goto (tgt := 16) hx hb dX3_init__46 (by decide) ?_
            exact ih (x + 1) 0 J (by omega) (by omega) (by omega) hA h5 (Or.inr ⟨rfl, fun q => h0 (q x hx0 (Nat.lt_succ_self x))⟩) H locs ls hW (lv_sub hl [0, 1, 2] rfl)
          · have h0 : uL (J 5 x) = 0 := (lcmp_0 (by omega)).mp c3
            refine lv_iconst (v := 1) hx hb dX3_init__37 (by decide) ?_
            refine lv_goto (tgt := 42) hx hb dX3_init__38 (by decide) ?_
            refine lv_istore_n (lv' := [(1, .int 1), (2, .int (nI x)), (0, .ref (g.P 3))]) hx hb dX3_init__42 rfl hl (by decide) rfl (fun ls hl => ?_)
            refine lv_iinc (v := nI (x + 1)) (lv' := [(2, .int (nI (x + 1))), (1, .int 1), (0, .ref (g.P 3))]) hx hb dX3_init__43 hl (k := 1) rfl (nI_1 _) (by decide) rfl (fun ls hl => ?_)
            refine lv_goto (tgt := 16) hx hb dX3_init__46 (by decide) ?_
            exact ih (x + 1) 1 J (by omega) (by omega) (by omega) hA h5 (Or.inl ⟨rfl, fun y h1 hy => by
              by_cases q : y = x
              · rw [q]; exact h0
              · exact hz0.2 y h1 (by omega)⟩) H locs ls hW (lv_sub hl [0, 1, 2] rfl)
  refine lv_aload_n hx hb dX3_init__0 rfl (lv_at hl 0 rfl) ?_
  refine lv_aload_n hx hb dX3_init__1 rfl (lv_at hl 0 rfl) ?_
  refine q_get (C := RX3) (T := TX3) (v := .ref (g.P 5)) hx hb hts hown (fun _ h9 => iw_X3_init__X3 _ h9) hW (i := 3) (by decide) rfl rfl 4 (by decide) (hts (.fieldLink RX3 13 "ModEngineModel" "modulus" "[J") (by decide +kernel)) rfl dX3_init__2 ?_
  refine lv_aload_n hx hb dX3_init__5 rfl (lv_at hl 0 rfl) ?_
  refine q_i (q_runV (As := []) (rest := [.ref (g.P 5), .ref (g.P 3)]) (i := 3) S hW (by decide) rfl rfl (n_placeOfModulus l g hg σ ) gX3_init__X3_placeOfModulus rfl (nA := 0) ⟨rfl, by decide +kernel, ⟨by decide, by decide⟩⟩ rfl hl.1 rfl (Nat.le_of_ble_eq_true rfl) dX3_init__6 ⟨Nat.zero_le _, Nat.zero_le _⟩) hW Ad_hi (fun r_6 σ1 H locs hp hW => ?_)
  obtain ⟨e1, er1⟩ : σ1 = σ ∧ r_6 = nI (9 * 8) := hp
  rw [e1] at hW
  refine q_ti (y := nI (9 * 8)) er1 ?_
  refine q_v (q_runV (As := [.ref (g.P 5), .int (nI (9 * 8))]) (rest := []) (i := 3) S hW (by decide) rfl rfl (n_read l g hg σ (i := 5) (q := 9 * 8) (by decide) (by omega)) gX3_init__X3_read rfl (nA := 2) ⟨rfl, by decide +kernel, ⟨by decide, by decide⟩⟩ rfl hl.1 rfl (Nat.le_of_ble_eq_true rfl) dX3_init__9 ⟨Nat.zero_le _, Nat.zero_le _⟩) hW Ad_hi (fun σ2 H locs hp hW => ?_)
  obtain ⟨J2, e2, hg2, hcp2⟩ : ∃ J', σ2 = σ.setJ J' ∧ Gr σ.J J' [5] ∧ ∀ x, x < 9 → J' 5 x = σ.J 4 (9 * 8 + x) := hp
  rw [e2] at hW
  have hn2 : Nb J2 5 M := Nh.rd ha.1 hcp2
  refine lv_iconst (v := 1) hx hb dX3_init__12 (by decide) ?_
  refine lv_istore_n (lv' := [(1, .int 1), (0, .ref (g.P 3))]) hx hb dX3_init__13 rfl hl (by decide) rfl (fun ls hl => ?_)
  refine lv_iconst (v := 1) hx hb dX3_init__14 (by decide) ?_
  refine lv_istore_n (lv' := [(2, .int 1), (1, .int 1), (0, .ref (g.P 3))]) hx hb dX3_init__15 rfl hl (by decide) rfl (fun ls hl => ?_)
  exact loop 9 1 1 J2 (by omega) (by omega) (by omega) (mAbs_keep ha hg2 (by decide)) hn2 (Or.inl ⟨rfl, fun y h1 h2 => absurd h2 (by omega)⟩) _ _ ls hW (lv_sub hl [0, 1, 2] rfl)
set_option maxHeartbeats 4000000 in
set_option maxRecDepth 100000 in
/-- reference: poke(r, i, w) -/
theorem n_poke (l : Launch) (g : qCfg) (hg : g.ok) (σ : qSt) {M : Nat} {X : Nat → Nat} (ha : mAbs g σ M X) (hc : mInv σ M) (d x v : Int32) : qCI l g yX3_poke wsX3_poke 1 21 [.ref (g.P 3), .int d, .int x, .int v] σ (mPost g σ (sPoke g.n g.k d x v M X σ.rm)) := by
  refine q_sZ (cc := cX3_poke) (maxL := 4) (by decide) rfl (Nat.le_of_ble_eq_true rfl) ?_
  intro p e s m args below meth c ls Q S hW hl fin
  obtain ⟨hx, hb, hml, hown, hts, hr, hlocks⟩ := id S
  obtain ⟨hk1, hk8, hn1, hn8⟩ := id hg
  have hl : lv_has ls 4 [(0, .ref (g.P 3)), (1, .int d), (2, .int x), (3, .int v)] := hl
  refine lv_aload_n hx hb dX3_poke_0 rfl (lv_at hl 0 rfl) ?_
  refine lv_iload_n hx hb dX3_poke_1 rfl (lv_at hl 1 rfl) ?_
  refine q_i (q_runV (As := [.int d]) (rest := []) (i := 3) S hW (by decide) rfl rfl (n_isRegister l g hg σ d) gX3_poke_X3_isRegister rfl (nA := 1) ⟨rfl, by decide +kernel, ⟨by decide, by decide⟩⟩ rfl hl.1 rfl (Nat.le_of_ble_eq_true rfl) dX3_poke_2 ⟨Nat.zero_le _, Nat.zero_le _⟩) hW Ad_hi (fun r_2 σ1 H locs hp hW => ?_)
  obtain ⟨e1, er1⟩ : σ1 = σ ∧ (r_2 = 1 ∧ isR d g.n ∨ r_2 = 0 ∧ ¬ isR d g.n) := hp
  rw [e1] at hW
  refine lv_if_eq (tgt := 16) hx hb dX3_poke_5 (by decide) (fun c1 => ?_) (fun c1 => ?_)
  · have hno : ¬ isR d g.n := er1.elim (fun z => absurd (z.1.symm.trans c1) (by decide)) (fun z => z.2)
    refine lv_iconst (v := 0) hx hb dX3_poke_16 (by decide) ?_
    exact fin _ _ _ _ _ _ (by decide) hW (⟨⟨rfl, rfl, rfl⟩, M, X, ha, hc, ⟨Or.inr ⟨fun q => hno q.1, rfl, rfl⟩, rfl, rfl⟩⟩) dX3_poke_17
  · obtain ⟨y, hy, ey⟩ : isR d g.n := er1.elim (fun z => z.2) (fun z => absurd z.1 c1)
    refine lv_aload_n hx hb dX3_poke_8 rfl (lv_at hl 0 rfl) ?_
    refine lv_iload_n hx hb dX3_poke_9 rfl (lv_at hl 2 rfl) ?_
    refine q_i (q_runV (As := [.int x]) (rest := []) (i := 3) S hW (by decide) rfl rfl (n_isLimb l g hg σ x) gX3_poke_X3_isLimb rfl (nA := 1) ⟨rfl, by decide +kernel, ⟨by decide, by decide⟩⟩ rfl hl.1 rfl (Nat.le_of_ble_eq_true rfl) dX3_poke_10 ⟨Nat.zero_le _, Nat.zero_le _⟩) hW Ad_hi (fun r_10 σ2 H locs hp hW => ?_)
    obtain ⟨e2, er2⟩ : σ2 = σ ∧ (r_10 = 1 ∧ isR x g.k ∨ r_10 = 0 ∧ ¬ isR x g.k) := hp
    rw [e2] at hW
    refine lv_if_ne (tgt := 18) hx hb dX3_poke_13 (by decide) (fun c2 => ?_) (fun c2 => ?_)
    · obtain ⟨j, hj, ej⟩ : isR x g.k := er2.elim (fun z => z.2) (fun z => absurd z.1 c2)
      refine lv_aload_n hx hb dX3_poke_18 rfl (lv_at hl 0 rfl) ?_
      refine q_get (C := RX3) (T := TX3) (v := .ref (g.P 4)) hx hb hts hown (fun _ h9 => iw_X3_poke_X3 _ h9) hW (i := 3) (by decide) rfl rfl 2 (by decide) (hts (.fieldLink RX3 7 "ModEngineModel" "held" "[J") (by decide +kernel)) rfl dX3_poke_19 ?_
      refine lv_aload_n hx hb dX3_poke_22 rfl (lv_at hl 0 rfl) ?_
      refine lv_iload_n hx hb dX3_poke_23 rfl (lv_at hl 1 rfl) ?_
      refine q_i (q_runV (As := [.int d]) (rest := [.ref (g.P 4)]) (i := 3) S hW (by decide) rfl rfl (n_placeOf l g hg σ (x := d) ey) gX3_poke_X3_placeOf rfl (nA := 1) ⟨rfl, by decide +kernel, ⟨by decide, by decide⟩⟩ rfl hl.1 rfl (Nat.le_of_ble_eq_true rfl) dX3_poke_24 ⟨Nat.zero_le _, Nat.zero_le _⟩) hW Ad_hi (fun r_24 σ3 H locs hp hW => ?_)
      obtain ⟨e3, er3⟩ : σ3 = σ ∧ r_24 = nI (9 * y) := hp
      rw [e3] at hW
      refine q_ti (y := nI (9 * y)) er3 ?_
      refine lv_iload_n hx hb dX3_poke_27 rfl (lv_at hl 2 rfl) ?_
      refine lv_iadd hx hb dX3_poke_28 ?_
      refine q_ti (y := nI (9 * y + j)) (by rw [ej]; exact nI_add _ _) ?_
      refine lv_iload_n hx hb dX3_poke_29 rfl (lv_at hl 3 rfl) ?_
      refine lv_i2l hx hb dX3_poke_30 rfl ?_
      refine lv_ldc2 (v := 4294967295) hx hb hown (hts (.constantLong RX3 53 (4294967295)) (by decide +kernel)) dX3_poke_31 ?_
      refine lv_land hx hb dX3_poke_34 ?_
      refine q_tl (y := lN (uI v)) (m32 _) ?_
      refine q_last hx hb hW (i := 4) (j := (9 * y + j)) (by decide) (by show 9 * y + j < 81; omega) rfl dX3_poke_35 (fun H locs hW => ?_)
      refine lv_iconst (v := 1) hx hb dX3_poke_36 (by decide) ?_
      have hs : mAbs g (σ.setJ (va_up σ.J 4 (va_up (σ.J 4) (9 * y + j) (lN (uI v))))) M (va_up X y (setd (X y) j (uI v))) := by
        refine ⟨Nh_set_ne ha.1 (by omega) (by omega), ha.2.1, fun r hr => ?_⟩
        by_cases q : r = y
        · rw [q, va_up_self]
          exact ⟨Nh_set (ha.2.2 y hy).1 (by omega) (uI_lt v), setd_lt (ha.2.2 y hy).2 hj (uI_lt v)⟩
        · rw [va_up_ne _ _ q]
          exact ⟨Nh_set_ne (ha.2.2 r hr).1 q (by omega), (ha.2.2 r hr).2⟩
      exact fin _ _ _ _ _ _ (by decide) hW (⟨⟨rfl, rfl, rfl⟩, M, _, hs, hc, Or.inl ⟨y, j, hy, hj, ey, ej, rfl, rfl⟩, rfl, rfl⟩) dX3_poke_37
    · have hno : ¬ isR x g.k := er2.elim (fun z => absurd (z.1.symm.trans c2) (by decide)) (fun z => z.2)
      refine lv_iconst (v := 0) hx hb dX3_poke_16 (by decide) ?_
      exact fin _ _ _ _ _ _ (by decide) hW (⟨⟨rfl, rfl, rfl⟩, M, X, ha, hc, ⟨Or.inr ⟨fun q => hno q.2, rfl, rfl⟩, rfl, rfl⟩⟩) dX3_poke_17
set_option maxHeartbeats 4000000 in
set_option maxRecDepth 100000 in
/-- reference: peek(r, i) -/
theorem n_peek (l : Launch) (g : qCfg) (hg : g.ok) (σ : qSt) {M : Nat} {X : Nat → Nat} (ha : mAbs g σ M X) (hc : mInv σ M) (d x : Int32) : qCI l g yX3_peek wsX3_peek 1 21 [.ref (g.P 3), .int d, .int x] σ (mPost g σ (sPeek g.n g.k d x M X σ.rm)) := by
  refine q_sI (cc := cX3_peek) (maxL := 3) (by decide) rfl (Nat.le_of_ble_eq_true rfl) ?_
  intro p e s m args below meth c ls Q S hW hl fin
  obtain ⟨hx, hb, hml, hown, hts, hr, hlocks⟩ := id S
  obtain ⟨hk1, hk8, hn1, hn8⟩ := id hg
  have hl : lv_has ls 3 [(0, .ref (g.P 3)), (1, .int d), (2, .int x)] := hl
  refine lv_aload_n hx hb dX3_peek_0 rfl (lv_at hl 0 rfl) ?_
  refine lv_iload_n hx hb dX3_peek_1 rfl (lv_at hl 1 rfl) ?_
  refine q_i (q_runV (As := [.int d]) (rest := []) (i := 3) S hW (by decide) rfl rfl (n_isRegister l g hg σ d) gX3_peek_X3_isRegister rfl (nA := 1) ⟨rfl, by decide +kernel, ⟨by decide, by decide⟩⟩ rfl hl.1 rfl (Nat.le_of_ble_eq_true rfl) dX3_peek_2 ⟨Nat.zero_le _, Nat.zero_le _⟩) hW Ad_hi (fun r_2 σ1 H locs hp hW => ?_)
  obtain ⟨e1, er1⟩ : σ1 = σ ∧ (r_2 = 1 ∧ isR d g.n ∨ r_2 = 0 ∧ ¬ isR d g.n) := hp
  rw [e1] at hW
  refine lv_if_eq (tgt := 32) hx hb dX3_peek_5 (by decide) (fun c1 => ?_) (fun c1 => ?_)
  · have hno : ¬ isR d g.n := er1.elim (fun z => absurd (z.1.symm.trans c1) (by decide)) (fun z => z.2)
    refine lv_iconst (v := 0) hx hb dX3_peek_32 (by decide) ?_
    exact fin _ _ _ _ _ _ hW (⟨⟨rfl, rfl, rfl⟩, M, X, ha, hc, ⟨Or.inr ⟨fun q => hno q.1, rfl⟩, rfl, rfl, rfl⟩⟩) dX3_peek_33
  · obtain ⟨y, hy, ey⟩ : isR d g.n := er1.elim (fun z => z.2) (fun z => absurd z.1 c1)
    refine lv_aload_n hx hb dX3_peek_8 rfl (lv_at hl 0 rfl) ?_
    refine lv_iload_n hx hb dX3_peek_9 rfl (lv_at hl 2 rfl) ?_
    refine q_i (q_runV (As := [.int x]) (rest := []) (i := 3) S hW (by decide) rfl rfl (n_isLimb l g hg σ x) gX3_peek_X3_isLimb rfl (nA := 1) ⟨rfl, by decide +kernel, ⟨by decide, by decide⟩⟩ rfl hl.1 rfl (Nat.le_of_ble_eq_true rfl) dX3_peek_10 ⟨Nat.zero_le _, Nat.zero_le _⟩) hW Ad_hi (fun r_10 σ2 H locs hp hW => ?_)
    obtain ⟨e2, er2⟩ : σ2 = σ ∧ (r_10 = 1 ∧ isR x g.k ∨ r_10 = 0 ∧ ¬ isR x g.k) := hp
    rw [e2] at hW
    refine lv_if_eq (tgt := 32) hx hb dX3_peek_13 (by decide) (fun c2 => ?_) (fun c2 => ?_)
    · have hno : ¬ isR x g.k := er2.elim (fun z => absurd (z.1.symm.trans c2) (by decide)) (fun z => z.2)
      refine lv_iconst (v := 0) hx hb dX3_peek_32 (by decide) ?_
      exact fin _ _ _ _ _ _ hW (⟨⟨rfl, rfl, rfl⟩, M, X, ha, hc, ⟨Or.inr ⟨fun q => hno q.2, rfl⟩, rfl, rfl, rfl⟩⟩) dX3_peek_33
    · obtain ⟨j, hj, ej⟩ : isR x g.k := er2.elim (fun z => z.2) (fun z => absurd z.1 c2)
      refine lv_aload_n hx hb dX3_peek_16 rfl (lv_at hl 0 rfl) ?_
      refine q_get (C := RX3) (T := TX3) (v := .ref (g.P 4)) hx hb hts hown (fun _ h9 => iw_X3_peek_X3 _ h9) hW (i := 3) (by decide) rfl rfl 2 (by decide) (hts (.fieldLink RX3 7 "ModEngineModel" "held" "[J") (by decide +kernel)) rfl dX3_peek_17 ?_
      refine lv_aload_n hx hb dX3_peek_20 rfl (lv_at hl 0 rfl) ?_
      refine lv_iload_n hx hb dX3_peek_21 rfl (lv_at hl 1 rfl) ?_
      refine q_i (q_runV (As := [.int d]) (rest := [.ref (g.P 4)]) (i := 3) S hW (by decide) rfl rfl (n_placeOf l g hg σ (x := d) ey) gX3_peek_X3_placeOf rfl (nA := 1) ⟨rfl, by decide +kernel, ⟨by decide, by decide⟩⟩ rfl hl.1 rfl (Nat.le_of_ble_eq_true rfl) dX3_peek_22 ⟨Nat.zero_le _, Nat.zero_le _⟩) hW Ad_hi (fun r_22 σ3 H locs hp hW => ?_)
      obtain ⟨e3, er3⟩ : σ3 = σ ∧ r_22 = nI (9 * y) := hp
      rw [e3] at hW
      refine q_ti (y := nI (9 * y)) er3 ?_
      refine lv_iload_n hx hb dX3_peek_25 rfl (lv_at hl 2 rfl) ?_
      refine lv_iadd hx hb dX3_peek_26 ?_
      refine q_ti (y := nI (9 * y + j)) (by rw [ej]; exact nI_add _ _) ?_
      refine q_lald hx hb hW (i := 4) (j := (9 * y + j)) (by decide) (by show 9 * y + j < 81; omega) rfl dX3_peek_27 ?_
      refine q_tl (y := lN (uL (σ.J 4 (9 * y + j)))) ((lN_uL _).symm) ?_
      refine lv_l2i hx hb dX3_peek_28 rfl ?_
      refine q_ti (y := nI (uL (σ.J 4 (9 * y + j)))) (lN_i _) ?_
      refine lv_goto (tgt := 33) hx hb dX3_peek_29 (by decide) ?_
      exact fin _ _ _ _ _ _ hW (⟨⟨rfl, rfl, rfl⟩, M, X, ha, hc, ⟨Or.inl ⟨y, j, hy, hj, ey, ej, by rw [Nh_dig (ha.2.2 y hy).1 (by omega)]⟩, rfl, rfl, rfl⟩⟩) dX3_peek_33
set_option maxHeartbeats 4000000 in
set_option maxRecDepth 100000 in
/-- reference: reduce(r) -/
theorem n_reduce (l : Launch) (g : qCfg) (hg : g.ok) (σ : qSt) {M : Nat} {X : Nat → Nat} (ha : mAbs g σ M X) (hc : mInv σ M) (d : Int32) : qCI l g yX3_reduce wsX3_reduce 3 70 [.ref (g.P 3), .int d] σ (mPost g σ (sReg g.n pRes d d d M X σ.rm)) := by
  refine q_sZ (cc := cX3_reduce) (maxL := 2) (by decide) rfl (Nat.le_of_ble_eq_true rfl) ?_
  intro p e s m args below meth c ls Q S hW hl fin
  obtain ⟨hx, hb, hml, hown, hts, hr, hlocks⟩ := id S
  obtain ⟨hk1, hk8, hn1, hn8⟩ := id hg
  have hl : lv_has ls 2 [(0, .ref (g.P 3)), (1, .int d)] := hl
  refine lv_aload_n hx hb dX3_reduce_0 rfl (lv_at hl 0 rfl) ?_
  refine lv_iload_n hx hb dX3_reduce_1 rfl (lv_at hl 1 rfl) ?_
  refine lv_iload_n hx hb dX3_reduce_2 rfl (lv_at hl 1 rfl) ?_
  refine lv_iload_n hx hb dX3_reduce_3 rfl (lv_at hl 1 rfl) ?_
  refine q_i (q_runV (As := [.int d, .int d, .int d]) (rest := []) (i := 3) S hW (by decide) rfl rfl (n_isAsked l g hg σ hc.1 d d d) gX3_reduce_X3_isAsked rfl (nA := 3) ⟨rfl, by decide +kernel, ⟨by decide, by decide⟩⟩ rfl hl.1 rfl (Nat.le_of_ble_eq_true rfl) dX3_reduce_4 ⟨Nat.zero_le _, Nat.zero_le _⟩) hW Ad_hi (fun r_4 σ1 H locs hp hW => ?_)
  obtain ⟨e1, er1⟩ : σ1 = σ ∧ (r_4 = 1 ∧ (σ.rm = 1 ∧ isR d g.n ∧ isR d g.n ∧ isR d g.n) ∨ r_4 = 0 ∧ ¬ (σ.rm = 1 ∧ isR d g.n ∧ isR d g.n ∧ isR d g.n)) := hp
  rw [e1] at hW
  refine lv_if_ne (tgt := 12) hx hb dX3_reduce_7 (by decide) (fun c1 => ?_) (fun c1 => ?_)
  · obtain ⟨h0, ⟨y, hy, ey⟩, -, -⟩ : (σ.rm = 1 ∧ isR d g.n ∧ isR d g.n ∧ isR d g.n) := er1.elim (fun z => z.2) (fun z => absurd z.1 c1)
    obtain ⟨hM1, hM3⟩ := hc.2 h0
    have hM0 : 0 < M := by omega
    have hM8 := lt256 hk8 ha.2.1
    refine lv_aload_n hx hb dX3_reduce_12 rfl (lv_at hl 0 rfl) ?_
    refine lv_iload_n hx hb dX3_reduce_13 rfl (lv_at hl 1 rfl) ?_
    refine lv_iload_n hx hb dX3_reduce_14 rfl (lv_at hl 1 rfl) ?_
    refine q_v (q_runV (As := [.int d, .int d]) (rest := []) (i := 3) S hW (by decide) rfl rfl (n_takes l g hg σ (ea := y) (eb := y) hM0 hM8 ha.1 (by omega) (by omega) ey ey (ha.2.2 y hy).1 (ha.2.2 y hy).1 (ha.2.2 y hy).2 (ha.2.2 y hy).2) gX3_reduce_X3_takes rfl (nA := 2) ⟨rfl, by decide +kernel, ⟨by decide, by decide⟩⟩ rfl hl.1 rfl (Nat.le_of_ble_eq_true rfl) dX3_reduce_15 ⟨Nat.zero_le _, Nat.zero_le _⟩) hW Ad_hi (fun σ2 H locs hp hW => ?_)
    obtain ⟨J2, e2, hg2, hm2, hx2, hy2⟩ : ∃ J', σ2 = σ.setJ J' ∧ Gr σ.J J' [5, 6, 8, 9] ∧ Nb J' 5 M ∧ Nb J' 6 (X y % M) ∧ Nb J' 8 (X y % M) := hp
    rw [e2] at hW
    have hA2 := mAbs_keep ha hg2 (by decide)
    refine lv_aload_n hx hb dX3_reduce_18 rfl (lv_at hl 0 rfl) ?_
    refine lv_iload_n hx hb dX3_reduce_19 rfl (lv_at hl 1 rfl) ?_
    refine lv_aload_n hx hb dX3_reduce_20 rfl (lv_at hl 0 rfl) ?_
    refine q_get (C := RX3) (T := TX3) (v := .ref (g.P 6)) hx hb hts hown (fun _ h9 => iw_X3_reduce_X3 _ h9) hW (i := 3) (by decide) rfl rfl 5 (by decide) (hts (.fieldLink RX3 16 "ModEngineModel" "first" "[J") (by decide +kernel)) rfl dX3_reduce_21 ?_
    refine q_v (q_runV (As := [.int d, .ref (g.P 6)]) (rest := []) (i := 3) S hW (by decide) rfl rfl (n_write l g hg (σ.setJ J2) (i := 6) (ee := y) (by decide) (by omega) ey) gX3_reduce_X3_write rfl (nA := 2) ⟨rfl, by decide +kernel, ⟨by decide, by decide⟩⟩ rfl hl.1 rfl (Nat.le_of_ble_eq_true rfl) dX3_reduce_24 ⟨Nat.zero_le _, Nat.zero_le _⟩) hW Ad_hi (fun σ3 H locs hp hW => ?_)
    obtain ⟨J3, e3, hg3, hw3, ho3⟩ : ∃ J', σ3 = σ.setJ J' ∧ Gr J2 J' [4] ∧ (∀ x, x < 9 → J' 4 (9 * y + x) = J2 6 x) ∧ ∀ yy, yy < 9 * y ∨ 9 * y + 9 ≤ yy → J' 4 yy = J2 4 yy := hp
    rw [e3] at hW
    have hAw : mAbs g (σ.setJ J3) M (va_up X y (X y % M)) := mAbs_wr hA2 (by omega) hx2 (Nat.lt_trans (Nat.mod_lt _ hM0) ha.2.1) hw3 ho3
    refine lv_iconst (v := 1) hx hb dX3_reduce_27 (by decide) ?_
    exact fin _ _ _ _ _ _ (by decide) hW (⟨⟨rfl, rfl, rfl⟩, M, _, hAw, hc, Or.inl ⟨y, y, y, _, hy, hy, hy, ey, ey, ey, h0, rfl, rfl, rfl⟩, rfl, rfl⟩) dX3_reduce_28
  · have hno : ¬ (σ.rm = 1 ∧ isR d g.n ∧ isR d g.n ∧ isR d g.n) := er1.elim (fun z => absurd (z.1.symm.trans c1) (by decide)) (fun z => z.2)
    refine lv_iconst (v := 0) hx hb dX3_reduce_10 (by decide) ?_
    exact fin _ _ _ _ _ _ (by decide) hW (⟨⟨rfl, rfl, rfl⟩, M, X, ha, hc, ⟨Or.inr ⟨hno, rfl, rfl⟩, rfl, rfl⟩⟩) dX3_reduce_11
set_option maxHeartbeats 4000000 in
set_option maxRecDepth 100000 in
/-- reference: addMod -/
theorem n_addMod (l : Launch) (g : qCfg) (hg : g.ok) (σ : qSt) {M : Nat} {X : Nat → Nat} (ha : mAbs g σ M X) (hc : mInv σ M) (d a b : Int32) : qCI l g yX3_addMod wsX3_addMod 3 70 [.ref (g.P 3), .int d, .int a, .int b] σ (mPost g σ (sReg g.n pAdd d a b M X σ.rm)) := by
  refine q_sZ (cc := cX3_addMod) (maxL := 4) (by decide) rfl (Nat.le_of_ble_eq_true rfl) ?_
  intro p e s m args below meth c ls Q S hW hl fin
  obtain ⟨hx, hb, hml, hown, hts, hr, hlocks⟩ := id S
  obtain ⟨hk1, hk8, hn1, hn8⟩ := id hg
  have hl : lv_has ls 4 [(0, .ref (g.P 3)), (1, .int d), (2, .int a), (3, .int b)] := hl
  refine lv_aload_n hx hb dX3_addMod_0 rfl (lv_at hl 0 rfl) ?_
  refine lv_iload_n hx hb dX3_addMod_1 rfl (lv_at hl 1 rfl) ?_
  refine lv_iload_n hx hb dX3_addMod_2 rfl (lv_at hl 2 rfl) ?_
  refine lv_iload_n hx hb dX3_addMod_3 rfl (lv_at hl 3 rfl) ?_
  refine q_i (q_runV (As := [.int d, .int a, .int b]) (rest := []) (i := 3) S hW (by decide) rfl rfl (n_isAsked l g hg σ hc.1 d a b) gX3_addMod_X3_isAsked rfl (nA := 3) ⟨rfl, by decide +kernel, ⟨by decide, by decide⟩⟩ rfl hl.1 rfl (Nat.le_of_ble_eq_true rfl) dX3_addMod_4 ⟨Nat.zero_le _, Nat.zero_le _⟩) hW Ad_hi (fun r_4 σ1 H locs hp hW => ?_)
  obtain ⟨e1, er1⟩ : σ1 = σ ∧ (r_4 = 1 ∧ (σ.rm = 1 ∧ isR d g.n ∧ isR a g.n ∧ isR b g.n) ∨ r_4 = 0 ∧ ¬ (σ.rm = 1 ∧ isR d g.n ∧ isR a g.n ∧ isR b g.n)) := hp
  rw [e1] at hW
  refine lv_if_ne (tgt := 12) hx hb dX3_addMod_7 (by decide) (fun c1 => ?_) (fun c1 => ?_)
  · obtain ⟨h0, ⟨d1, hd1, ed1⟩, ⟨y, hy, ey⟩, ⟨z, hz, ez⟩⟩ : (σ.rm = 1 ∧ isR d g.n ∧ isR a g.n ∧ isR b g.n) := er1.elim (fun z => z.2) (fun z => absurd z.1 c1)
    obtain ⟨hM1, hM3⟩ := hc.2 h0
    have hM0 : 0 < M := by omega
    have hM8 := lt256 hk8 ha.2.1
    refine lv_aload_n hx hb dX3_addMod_12 rfl (lv_at hl 0 rfl) ?_
    refine lv_iload_n hx hb dX3_addMod_13 rfl (lv_at hl 2 rfl) ?_
    refine lv_iload_n hx hb dX3_addMod_14 rfl (lv_at hl 3 rfl) ?_
    refine q_v (q_runV (As := [.int a, .int b]) (rest := []) (i := 3) S hW (by decide) rfl rfl (n_takes l g hg σ (ea := y) (eb := z) hM0 hM8 ha.1 (by omega) (by omega) ey ez (ha.2.2 y hy).1 (ha.2.2 z hz).1 (ha.2.2 y hy).2 (ha.2.2 z hz).2) gX3_addMod_X3_takes rfl (nA := 2) ⟨rfl, by decide +kernel, ⟨by decide, by decide⟩⟩ rfl hl.1 rfl (Nat.le_of_ble_eq_true rfl) dX3_addMod_15 ⟨Nat.zero_le _, Nat.zero_le _⟩) hW Ad_hi (fun σ2 H locs hp hW => ?_)
    obtain ⟨J2, e2, hg2, hm2, hx2, hy2⟩ : ∃ J', σ2 = σ.setJ J' ∧ Gr σ.J J' [5, 6, 8, 9] ∧ Nb J' 5 M ∧ Nb J' 6 (X y % M) ∧ Nb J' 8 (X z % M) := hp
    rw [e2] at hW
    have hA2 := mAbs_keep ha hg2 (by decide)
    have lx := Nat.mod_lt (X y) hM0
    have ly := Nat.mod_lt (X z) hM0
    refine lv_aload_n hx hb dX3_addMod_18 rfl (lv_at hl 0 rfl) ?_
    refine lv_aload_n hx hb dX3_addMod_19 rfl (lv_at hl 0 rfl) ?_
    refine q_get (C := RX3) (T := TX3) (v := .ref (g.P 6)) hx hb hts hown (fun _ h9 => iw_X3_addMod_X3 _ h9) hW (i := 3) (by decide) rfl rfl 5 (by decide) (hts (.fieldLink RX3 16 "ModEngineModel" "first" "[J") (by decide +kernel)) rfl dX3_addMod_20 ?_
    refine lv_aload_n hx hb dX3_addMod_23 rfl (lv_at hl 0 rfl) ?_
    refine q_get (C := RX3) (T := TX3) (v := .ref (g.P 8)) hx hb hts hown (fun _ h9 => iw_X3_addMod_X3 _ h9) hW (i := 3) (by decide) rfl rfl 7 (by decide) (hts (.fieldLink RX3 22 "ModEngineModel" "result" "[J") (by decide +kernel)) rfl dX3_addMod_24 ?_
    refine q_v (q_runV (As := [.ref (g.P 6), .ref (g.P 8)]) (rest := []) (i := 3) S hW (by decide) rfl rfl (n_sum l g hg (σ.setJ J2) hM0 hM8 hm2 (by decide) (by decide) (by decide) hx2 hy2 lx ly) gX3_addMod_X3_sum rfl (nA := 2) ⟨rfl, by decide +kernel, ⟨by decide, by decide⟩⟩ rfl hl.1 rfl (Nat.le_of_ble_eq_true rfl) dX3_addMod_27 ⟨Nat.zero_le _, Nat.zero_le _⟩) hW Ad_hi (fun σ3 H locs hp hW => ?_)
    obtain ⟨J3, e3, hg3, hn3⟩ : ∃ J', σ3 = σ.setJ J' ∧ Gr J2 J' [6] ∧ Nb J' 6 ((X y % M + X z % M) % M) := hp
    rw [e3] at hW
    have n5_3 := hg3.N (by decide) hm2
    have n8_3 := hg3.N (by decide) hy2
    have hA3 : mAbs g (σ.setJ J3) M X := mAbs_keep (σ := σ.setJ J2) hA2 hg3 (by decide)
    refine lv_aload_n hx hb dX3_addMod_30 rfl (lv_at hl 0 rfl) ?_
    refine lv_iload_n hx hb dX3_addMod_31 rfl (lv_at hl 1 rfl) ?_
    refine lv_aload_n hx hb dX3_addMod_32 rfl (lv_at hl 0 rfl) ?_
    refine q_get (C := RX3) (T := TX3) (v := .ref (g.P 6)) hx hb hts hown (fun _ h9 => iw_X3_addMod_X3 _ h9) hW (i := 3) (by decide) rfl rfl 5 (by decide) (hts (.fieldLink RX3 16 "ModEngineModel" "first" "[J") (by decide +kernel)) rfl dX3_addMod_33 ?_
    refine q_v (q_runV (As := [.int d, .ref (g.P 6)]) (rest := []) (i := 3) S hW (by decide) rfl rfl (n_write l g hg (σ.setJ J3) (i := 6) (ee := d1) (by decide) (by omega) ed1) gX3_addMod_X3_write rfl (nA := 2) ⟨rfl, by decide +kernel, ⟨by decide, by decide⟩⟩ rfl hl.1 rfl (Nat.le_of_ble_eq_true rfl) dX3_addMod_36 ⟨Nat.zero_le _, Nat.zero_le _⟩) hW Ad_hi (fun σ4 H locs hp hW => ?_)
    obtain ⟨J4, e4, hg4, hw4, ho4⟩ : ∃ J', σ4 = σ.setJ J' ∧ Gr J3 J' [4] ∧ (∀ x, x < 9 → J' 4 (9 * d1 + x) = J3 6 x) ∧ ∀ yy, yy < 9 * d1 ∨ 9 * d1 + 9 ≤ yy → J' 4 yy = J3 4 yy := hp
    rw [e4] at hW
    have hAw : mAbs g (σ.setJ J4) M (va_up X d1 ((X y % M + X z % M) % M)) := mAbs_wr hA3 (by omega) hn3 (Nat.lt_trans (Nat.mod_lt _ hM0) ha.2.1) hw4 ho4
    refine lv_iconst (v := 1) hx hb dX3_addMod_39 (by decide) ?_
    exact fin _ _ _ _ _ _ (by decide) hW (⟨⟨rfl, rfl, rfl⟩, M, _, hAw, hc, Or.inl ⟨d1, y, z, _, hd1, hy, hz, ed1, ey, ez, h0, rfl, rfl, rfl⟩, rfl, rfl⟩) dX3_addMod_40
  · have hno : ¬ (σ.rm = 1 ∧ isR d g.n ∧ isR a g.n ∧ isR b g.n) := er1.elim (fun z => absurd (z.1.symm.trans c1) (by decide)) (fun z => z.2)
    refine lv_iconst (v := 0) hx hb dX3_addMod_10 (by decide) ?_
    exact fin _ _ _ _ _ _ (by decide) hW (⟨⟨rfl, rfl, rfl⟩, M, X, ha, hc, ⟨Or.inr ⟨hno, rfl, rfl⟩, rfl, rfl⟩⟩) dX3_addMod_11
set_option maxHeartbeats 4000000 in
set_option maxRecDepth 100000 in
/-- reference: subMod -/
theorem n_subMod (l : Launch) (g : qCfg) (hg : g.ok) (σ : qSt) {M : Nat} {X : Nat → Nat} (ha : mAbs g σ M X) (hc : mInv σ M) (d a b : Int32) : qCI l g yX3_subMod wsX3_subMod 3 70 [.ref (g.P 3), .int d, .int a, .int b] σ (mPost g σ (sReg g.n pSub d a b M X σ.rm)) := by
  refine q_sZ (cc := cX3_subMod) (maxL := 4) (by decide) rfl (Nat.le_of_ble_eq_true rfl) ?_
  intro p e s m args below meth c ls Q S hW hl fin
  obtain ⟨hx, hb, hml, hown, hts, hr, hlocks⟩ := id S
  obtain ⟨hk1, hk8, hn1, hn8⟩ := id hg
  have hl : lv_has ls 4 [(0, .ref (g.P 3)), (1, .int d), (2, .int a), (3, .int b)] := hl
  refine lv_aload_n hx hb dX3_subMod_0 rfl (lv_at hl 0 rfl) ?_
  refine lv_iload_n hx hb dX3_subMod_1 rfl (lv_at hl 1 rfl) ?_
  refine lv_iload_n hx hb dX3_subMod_2 rfl (lv_at hl 2 rfl) ?_
  refine lv_iload_n hx hb dX3_subMod_3 rfl (lv_at hl 3 rfl) ?_
  refine q_i (q_runV (As := [.int d, .int a, .int b]) (rest := []) (i := 3) S hW (by decide) rfl rfl (n_isAsked l g hg σ hc.1 d a b) gX3_subMod_X3_isAsked rfl (nA := 3) ⟨rfl, by decide +kernel, ⟨by decide, by decide⟩⟩ rfl hl.1 rfl (Nat.le_of_ble_eq_true rfl) dX3_subMod_4 ⟨Nat.zero_le _, Nat.zero_le _⟩) hW Ad_hi (fun r_4 σ1 H locs hp hW => ?_)
  obtain ⟨e1, er1⟩ : σ1 = σ ∧ (r_4 = 1 ∧ (σ.rm = 1 ∧ isR d g.n ∧ isR a g.n ∧ isR b g.n) ∨ r_4 = 0 ∧ ¬ (σ.rm = 1 ∧ isR d g.n ∧ isR a g.n ∧ isR b g.n)) := hp
  rw [e1] at hW
  refine lv_if_ne (tgt := 12) hx hb dX3_subMod_7 (by decide) (fun c1 => ?_) (fun c1 => ?_)
  · obtain ⟨h0, ⟨d1, hd1, ed1⟩, ⟨y, hy, ey⟩, ⟨z, hz, ez⟩⟩ : (σ.rm = 1 ∧ isR d g.n ∧ isR a g.n ∧ isR b g.n) := er1.elim (fun z => z.2) (fun z => absurd z.1 c1)
    obtain ⟨hM1, hM3⟩ := hc.2 h0
    have hM0 : 0 < M := by omega
    have hM8 := lt256 hk8 ha.2.1
    refine lv_aload_n hx hb dX3_subMod_12 rfl (lv_at hl 0 rfl) ?_
    refine lv_iload_n hx hb dX3_subMod_13 rfl (lv_at hl 2 rfl) ?_
    refine lv_iload_n hx hb dX3_subMod_14 rfl (lv_at hl 3 rfl) ?_
    refine q_v (q_runV (As := [.int a, .int b]) (rest := []) (i := 3) S hW (by decide) rfl rfl (n_takes l g hg σ (ea := y) (eb := z) hM0 hM8 ha.1 (by omega) (by omega) ey ez (ha.2.2 y hy).1 (ha.2.2 z hz).1 (ha.2.2 y hy).2 (ha.2.2 z hz).2) gX3_subMod_X3_takes rfl (nA := 2) ⟨rfl, by decide +kernel, ⟨by decide, by decide⟩⟩ rfl hl.1 rfl (Nat.le_of_ble_eq_true rfl) dX3_subMod_15 ⟨Nat.zero_le _, Nat.zero_le _⟩) hW Ad_hi (fun σ2 H locs hp hW => ?_)
    obtain ⟨J2, e2, hg2, hm2, hx2, hy2⟩ : ∃ J', σ2 = σ.setJ J' ∧ Gr σ.J J' [5, 6, 8, 9] ∧ Nb J' 5 M ∧ Nb J' 6 (X y % M) ∧ Nb J' 8 (X z % M) := hp
    rw [e2] at hW
    have hA2 := mAbs_keep ha hg2 (by decide)
    have lx := Nat.mod_lt (X y) hM0
    have ly := Nat.mod_lt (X z) hM0
    refine lv_aload_n hx hb dX3_subMod_18 rfl (lv_at hl 0 rfl) ?_
    refine lv_aload_n hx hb dX3_subMod_19 rfl (lv_at hl 0 rfl) ?_
    refine q_get (C := RX3) (T := TX3) (v := .ref (g.P 6)) hx hb hts hown (fun _ h9 => iw_X3_subMod_X3 _ h9) hW (i := 3) (by decide) rfl rfl 5 (by decide) (hts (.fieldLink RX3 16 "ModEngineModel" "first" "[J") (by decide +kernel)) rfl dX3_subMod_20 ?_
    refine lv_aload_n hx hb dX3_subMod_23 rfl (lv_at hl 0 rfl) ?_
    refine q_get (C := RX3) (T := TX3) (v := .ref (g.P 8)) hx hb hts hown (fun _ h9 => iw_X3_subMod_X3 _ h9) hW (i := 3) (by decide) rfl rfl 7 (by decide) (hts (.fieldLink RX3 22 "ModEngineModel" "result" "[J") (by decide +kernel)) rfl dX3_subMod_24 ?_
    refine q_v (q_runV (As := [.ref (g.P 6), .ref (g.P 8)]) (rest := []) (i := 3) S hW (by decide) rfl rfl (n_difference l g hg (σ.setJ J2) hM0 hM8 hm2 (by decide) (by decide) (by decide) hx2 hy2 lx ly (by decide)) gX3_subMod_X3_difference rfl (nA := 2) ⟨rfl, by decide +kernel, ⟨by decide, by decide⟩⟩ rfl hl.1 rfl (Nat.le_of_ble_eq_true rfl) dX3_subMod_27 ⟨Nat.zero_le _, Nat.zero_le _⟩) hW Ad_hi (fun σ3 H locs hp hW => ?_)
    obtain ⟨J3, e3, hg3, hn3⟩ : ∃ J', σ3 = σ.setJ J' ∧ Gr J2 J' [6] ∧ Nb J' 6 (dfm M (X y % M) (X z % M)) := hp
    rw [e3] at hW
    have n5_3 := hg3.N (by decide) hm2
    have n8_3 := hg3.N (by decide) hy2
    have hA3 : mAbs g (σ.setJ J3) M X := mAbs_keep (σ := σ.setJ J2) hA2 hg3 (by decide)
    refine lv_aload_n hx hb dX3_subMod_30 rfl (lv_at hl 0 rfl) ?_
    refine lv_iload_n hx hb dX3_subMod_31 rfl (lv_at hl 1 rfl) ?_
    refine lv_aload_n hx hb dX3_subMod_32 rfl (lv_at hl 0 rfl) ?_
    refine q_get (C := RX3) (T := TX3) (v := .ref (g.P 6)) hx hb hts hown (fun _ h9 => iw_X3_subMod_X3 _ h9) hW (i := 3) (by decide) rfl rfl 5 (by decide) (hts (.fieldLink RX3 16 "ModEngineModel" "first" "[J") (by decide +kernel)) rfl dX3_subMod_33 ?_
    refine q_v (q_runV (As := [.int d, .ref (g.P 6)]) (rest := []) (i := 3) S hW (by decide) rfl rfl (n_write l g hg (σ.setJ J3) (i := 6) (ee := d1) (by decide) (by omega) ed1) gX3_subMod_X3_write rfl (nA := 2) ⟨rfl, by decide +kernel, ⟨by decide, by decide⟩⟩ rfl hl.1 rfl (Nat.le_of_ble_eq_true rfl) dX3_subMod_36 ⟨Nat.zero_le _, Nat.zero_le _⟩) hW Ad_hi (fun σ4 H locs hp hW => ?_)
    obtain ⟨J4, e4, hg4, hw4, ho4⟩ : ∃ J', σ4 = σ.setJ J' ∧ Gr J3 J' [4] ∧ (∀ x, x < 9 → J' 4 (9 * d1 + x) = J3 6 x) ∧ ∀ yy, yy < 9 * d1 ∨ 9 * d1 + 9 ≤ yy → J' 4 yy = J3 4 yy := hp
    rw [e4] at hW
    have hAw : mAbs g (σ.setJ J4) M (va_up X d1 (dfm M (X y % M) (X z % M))) := mAbs_wr hA3 (by omega) hn3 (Nat.lt_trans (dfm_lt lx) ha.2.1) hw4 ho4
    refine lv_iconst (v := 1) hx hb dX3_subMod_39 (by decide) ?_
    exact fin _ _ _ _ _ _ (by decide) hW (⟨⟨rfl, rfl, rfl⟩, M, _, hAw, hc, Or.inl ⟨d1, y, z, _, hd1, hy, hz, ed1, ey, ez, h0, rfl, rfl, rfl⟩, rfl, rfl⟩) dX3_subMod_40
  · have hno : ¬ (σ.rm = 1 ∧ isR d g.n ∧ isR a g.n ∧ isR b g.n) := er1.elim (fun z => absurd (z.1.symm.trans c1) (by decide)) (fun z => z.2)
    refine lv_iconst (v := 0) hx hb dX3_subMod_10 (by decide) ?_
    exact fin _ _ _ _ _ _ (by decide) hW (⟨⟨rfl, rfl, rfl⟩, M, X, ha, hc, ⟨Or.inr ⟨hno, rfl, rfl⟩, rfl, rfl⟩⟩) dX3_subMod_11
set_option maxHeartbeats 4000000 in
set_option maxRecDepth 100000 in
/-- reference: mulMod -/
theorem n_mulMod (l : Launch) (g : qCfg) (hg : g.ok) (σ : qSt) {M : Nat} {X : Nat → Nat} (ha : mAbs g σ M X) (hc : mInv σ M) (d a b : Int32) : qCI l g yX3_mulMod wsX3_mulMod 3 71 [.ref (g.P 3), .int d, .int a, .int b] σ (mPost g σ (sReg g.n pMul d a b M X σ.rm)) := by
  refine q_sZ (cc := cX3_mulMod) (maxL := 4) (by decide) rfl (Nat.le_of_ble_eq_true rfl) ?_
  intro p e s m args below meth c ls Q S hW hl fin
  obtain ⟨hx, hb, hml, hown, hts, hr, hlocks⟩ := id S
  obtain ⟨hk1, hk8, hn1, hn8⟩ := id hg
  have hl : lv_has ls 4 [(0, .ref (g.P 3)), (1, .int d), (2, .int a), (3, .int b)] := hl
  refine lv_aload_n hx hb dX3_mulMod_0 rfl (lv_at hl 0 rfl) ?_
  refine lv_iload_n hx hb dX3_mulMod_1 rfl (lv_at hl 1 rfl) ?_
  refine lv_iload_n hx hb dX3_mulMod_2 rfl (lv_at hl 2 rfl) ?_
  refine lv_iload_n hx hb dX3_mulMod_3 rfl (lv_at hl 3 rfl) ?_
  refine q_i (q_runV (As := [.int d, .int a, .int b]) (rest := []) (i := 3) S hW (by decide) rfl rfl (n_isAsked l g hg σ hc.1 d a b) gX3_mulMod_X3_isAsked rfl (nA := 3) ⟨rfl, by decide +kernel, ⟨by decide, by decide⟩⟩ rfl hl.1 rfl (Nat.le_of_ble_eq_true rfl) dX3_mulMod_4 ⟨Nat.zero_le _, Nat.zero_le _⟩) hW Ad_hi (fun r_4 σ1 H locs hp hW => ?_)
  obtain ⟨e1, er1⟩ : σ1 = σ ∧ (r_4 = 1 ∧ (σ.rm = 1 ∧ isR d g.n ∧ isR a g.n ∧ isR b g.n) ∨ r_4 = 0 ∧ ¬ (σ.rm = 1 ∧ isR d g.n ∧ isR a g.n ∧ isR b g.n)) := hp
  rw [e1] at hW
  refine lv_if_ne (tgt := 12) hx hb dX3_mulMod_7 (by decide) (fun c1 => ?_) (fun c1 => ?_)
  · obtain ⟨h0, ⟨d1, hd1, ed1⟩, ⟨y, hy, ey⟩, ⟨z, hz, ez⟩⟩ : (σ.rm = 1 ∧ isR d g.n ∧ isR a g.n ∧ isR b g.n) := er1.elim (fun z => z.2) (fun z => absurd z.1 c1)
    obtain ⟨hM1, hM3⟩ := hc.2 h0
    have hM0 : 0 < M := by omega
    have hM8 := lt256 hk8 ha.2.1
    refine lv_aload_n hx hb dX3_mulMod_12 rfl (lv_at hl 0 rfl) ?_
    refine lv_iload_n hx hb dX3_mulMod_13 rfl (lv_at hl 2 rfl) ?_
    refine lv_iload_n hx hb dX3_mulMod_14 rfl (lv_at hl 3 rfl) ?_
    refine q_v (q_runV (As := [.int a, .int b]) (rest := []) (i := 3) S hW (by decide) rfl rfl (n_takes l g hg σ (ea := y) (eb := z) hM0 hM8 ha.1 (by omega) (by omega) ey ez (ha.2.2 y hy).1 (ha.2.2 z hz).1 (ha.2.2 y hy).2 (ha.2.2 z hz).2) gX3_mulMod_X3_takes rfl (nA := 2) ⟨rfl, by decide +kernel, ⟨by decide, by decide⟩⟩ rfl hl.1 rfl (Nat.le_of_ble_eq_true rfl) dX3_mulMod_15 ⟨Nat.zero_le _, Nat.zero_le _⟩) hW Ad_hi (fun σ2 H locs hp hW => ?_)
    obtain ⟨J2, e2, hg2, hm2, hx2, hy2⟩ : ∃ J', σ2 = σ.setJ J' ∧ Gr σ.J J' [5, 6, 8, 9] ∧ Nb J' 5 M ∧ Nb J' 6 (X y % M) ∧ Nb J' 8 (X z % M) := hp
    rw [e2] at hW
    have hA2 := mAbs_keep ha hg2 (by decide)
    have lx := Nat.mod_lt (X y) hM0
    have ly := Nat.mod_lt (X z) hM0
    refine lv_aload_n hx hb dX3_mulMod_18 rfl (lv_at hl 0 rfl) ?_
    refine lv_aload_n hx hb dX3_mulMod_19 rfl (lv_at hl 0 rfl) ?_
    refine q_get (C := RX3) (T := TX3) (v := .ref (g.P 6)) hx hb hts hown (fun _ h9 => iw_X3_mulMod_X3 _ h9) hW (i := 3) (by decide) rfl rfl 5 (by decide) (hts (.fieldLink RX3 16 "ModEngineModel" "first" "[J") (by decide +kernel)) rfl dX3_mulMod_20 ?_
    refine lv_aload_n hx hb dX3_mulMod_23 rfl (lv_at hl 0 rfl) ?_
    refine q_get (C := RX3) (T := TX3) (v := .ref (g.P 8)) hx hb hts hown (fun _ h9 => iw_X3_mulMod_X3 _ h9) hW (i := 3) (by decide) rfl rfl 7 (by decide) (hts (.fieldLink RX3 22 "ModEngineModel" "result" "[J") (by decide +kernel)) rfl dX3_mulMod_24 ?_
    refine q_v (q_runV (As := [.ref (g.P 6), .ref (g.P 8)]) (rest := []) (i := 3) S hW (by decide) rfl rfl (n_product l g hg (σ.setJ J2) hM0 hM8 hm2 (by decide) (by decide) (by decide) (by decide) (by decide) (by decide) hx2 hy2 ly (Nat.lt_trans lx ha.2.1)) gX3_mulMod_X3_product rfl (nA := 2) ⟨rfl, by decide +kernel, ⟨by decide, by decide⟩⟩ rfl hl.1 rfl (Nat.le_of_ble_eq_true rfl) dX3_mulMod_27 ⟨Nat.zero_le _, Nat.zero_le _⟩) hW Ad_hi (fun σ3 H locs hp hW => ?_)
    obtain ⟨J3, e3, hg3, hn3⟩ : ∃ J', σ3 = σ.setJ J' ∧ Gr J2 J' [7, 9, 6] ∧ Nb J' 6 ((X y % M) * (X z % M) % M) := hp
    rw [e3] at hW
    have n5_3 := hg3.N (by decide) hm2
    have n8_3 := hg3.N (by decide) hy2
    rw [← Nat.mul_mod] at hn3
    have hA3 : mAbs g (σ.setJ J3) M X := mAbs_keep (σ := σ.setJ J2) hA2 hg3 (by decide)
    refine lv_aload_n hx hb dX3_mulMod_30 rfl (lv_at hl 0 rfl) ?_
    refine lv_iload_n hx hb dX3_mulMod_31 rfl (lv_at hl 1 rfl) ?_
    refine lv_aload_n hx hb dX3_mulMod_32 rfl (lv_at hl 0 rfl) ?_
    refine q_get (C := RX3) (T := TX3) (v := .ref (g.P 6)) hx hb hts hown (fun _ h9 => iw_X3_mulMod_X3 _ h9) hW (i := 3) (by decide) rfl rfl 5 (by decide) (hts (.fieldLink RX3 16 "ModEngineModel" "first" "[J") (by decide +kernel)) rfl dX3_mulMod_33 ?_
    refine q_v (q_runV (As := [.int d, .ref (g.P 6)]) (rest := []) (i := 3) S hW (by decide) rfl rfl (n_write l g hg (σ.setJ J3) (i := 6) (ee := d1) (by decide) (by omega) ed1) gX3_mulMod_X3_write rfl (nA := 2) ⟨rfl, by decide +kernel, ⟨by decide, by decide⟩⟩ rfl hl.1 rfl (Nat.le_of_ble_eq_true rfl) dX3_mulMod_36 ⟨Nat.zero_le _, Nat.zero_le _⟩) hW Ad_hi (fun σ4 H locs hp hW => ?_)
    obtain ⟨J4, e4, hg4, hw4, ho4⟩ : ∃ J', σ4 = σ.setJ J' ∧ Gr J3 J' [4] ∧ (∀ x, x < 9 → J' 4 (9 * d1 + x) = J3 6 x) ∧ ∀ yy, yy < 9 * d1 ∨ 9 * d1 + 9 ≤ yy → J' 4 yy = J3 4 yy := hp
    rw [e4] at hW
    have hAw : mAbs g (σ.setJ J4) M (va_up X d1 (X y * X z % M)) := mAbs_wr hA3 (by omega) hn3 (Nat.lt_trans (Nat.mod_lt _ hM0) ha.2.1) hw4 ho4
    refine lv_iconst (v := 1) hx hb dX3_mulMod_39 (by decide) ?_
    exact fin _ _ _ _ _ _ (by decide) hW (⟨⟨rfl, rfl, rfl⟩, M, _, hAw, hc, Or.inl ⟨d1, y, z, _, hd1, hy, hz, ed1, ey, ez, h0, rfl, rfl, rfl⟩, rfl, rfl⟩) dX3_mulMod_40
  · have hno : ¬ (σ.rm = 1 ∧ isR d g.n ∧ isR a g.n ∧ isR b g.n) := er1.elim (fun z => absurd (z.1.symm.trans c1) (by decide)) (fun z => z.2)
    refine lv_iconst (v := 0) hx hb dX3_mulMod_10 (by decide) ?_
    exact fin _ _ _ _ _ _ (by decide) hW (⟨⟨rfl, rfl, rfl⟩, M, X, ha, hc, ⟨Or.inr ⟨hno, rfl, rfl⟩, rfl, rfl⟩⟩) dX3_mulMod_11
set_option maxHeartbeats 4000000 in
set_option maxRecDepth 100000 in
/-- reference: montMod -/
theorem n_montMod (l : Launch) (g : qCfg) (hg : g.ok) (σ : qSt) {M : Nat} {X : Nat → Nat} (ha : mAbs g σ M X) (hc : mInv σ M) (d a b : Int32) : qCI l g yX3_montMod wsX3_montMod 3 71 [.ref (g.P 3), .int d, .int a, .int b] σ (mPost g σ (sReg g.n (pMon g.k) d a b M X σ.rm)) := by
  refine q_sZ (cc := cX3_montMod) (maxL := 5) (by decide) rfl (Nat.le_of_ble_eq_true rfl) ?_
  intro p e s m args below meth c ls Q S hW hl fin
  obtain ⟨hx, hb, hml, hown, hts, hr, hlocks⟩ := id S
  obtain ⟨hk1, hk8, hn1, hn8⟩ := id hg
  have hl : lv_has ls 5 [(0, .ref (g.P 3)), (1, .int d), (2, .int a), (3, .int b)] := hl
  refine lv_aload_n hx hb dX3_montMod_0 rfl (lv_at hl 0 rfl) ?_
  refine lv_iload_n hx hb dX3_montMod_1 rfl (lv_at hl 1 rfl) ?_
  refine lv_iload_n hx hb dX3_montMod_2 rfl (lv_at hl 2 rfl) ?_
  refine lv_iload_n hx hb dX3_montMod_3 rfl (lv_at hl 3 rfl) ?_
  refine q_i (q_runV (As := [.int d, .int a, .int b]) (rest := []) (i := 3) S hW (by decide) rfl rfl (n_isAsked l g hg σ hc.1 d a b) gX3_montMod_X3_isAsked rfl (nA := 3) ⟨rfl, by decide +kernel, ⟨by decide, by decide⟩⟩ rfl hl.1 rfl (Nat.le_of_ble_eq_true rfl) dX3_montMod_4 ⟨Nat.zero_le _, Nat.zero_le _⟩) hW Ad_hi (fun r_4 σ1 H locs hp hW => ?_)
  obtain ⟨e1, er1⟩ : σ1 = σ ∧ (r_4 = 1 ∧ (σ.rm = 1 ∧ isR d g.n ∧ isR a g.n ∧ isR b g.n) ∨ r_4 = 0 ∧ ¬ (σ.rm = 1 ∧ isR d g.n ∧ isR a g.n ∧ isR b g.n)) := hp
  rw [e1] at hW
  refine lv_if_ne (tgt := 12) hx hb dX3_montMod_7 (by decide) (fun c1 => ?_) (fun c1 => ?_)
  · obtain ⟨h0, ⟨d1, hd1, ed1⟩, ⟨y, hy, ey⟩, ⟨z, hz, ez⟩⟩ : (σ.rm = 1 ∧ isR d g.n ∧ isR a g.n ∧ isR b g.n) := er1.elim (fun z => z.2) (fun z => absurd z.1 c1)
    obtain ⟨hM1, hM3⟩ := hc.2 h0
    have hM0 : 0 < M := by omega
    have hM8 := lt256 hk8 ha.2.1
    refine lv_aload_n hx hb dX3_montMod_12 rfl (lv_at hl 0 rfl) ?_
    refine lv_iload_n hx hb dX3_montMod_13 rfl (lv_at hl 2 rfl) ?_
    refine lv_iload_n hx hb dX3_montMod_14 rfl (lv_at hl 3 rfl) ?_
    refine q_v (q_runV (As := [.int a, .int b]) (rest := []) (i := 3) S hW (by decide) rfl rfl (n_takes l g hg σ (ea := y) (eb := z) hM0 hM8 ha.1 (by omega) (by omega) ey ez (ha.2.2 y hy).1 (ha.2.2 z hz).1 (ha.2.2 y hy).2 (ha.2.2 z hz).2) gX3_montMod_X3_takes rfl (nA := 2) ⟨rfl, by decide +kernel, ⟨by decide, by decide⟩⟩ rfl hl.1 rfl (Nat.le_of_ble_eq_true rfl) dX3_montMod_15 ⟨Nat.zero_le _, Nat.zero_le _⟩) hW Ad_hi (fun σ2 H locs hp hW => ?_)
    obtain ⟨J2, e2, hg2, hm2, hx2, hy2⟩ : ∃ J', σ2 = σ.setJ J' ∧ Gr σ.J J' [5, 6, 8, 9] ∧ Nb J' 5 M ∧ Nb J' 6 (X y % M) ∧ Nb J' 8 (X z % M) := hp
    rw [e2] at hW
    have hA2 := mAbs_keep ha hg2 (by decide)
    have lx := Nat.mod_lt (X y) hM0
    have ly := Nat.mod_lt (X z) hM0
    refine lv_aload_n hx hb dX3_montMod_18 rfl (lv_at hl 0 rfl) ?_
    refine lv_aload_n hx hb dX3_montMod_19 rfl (lv_at hl 0 rfl) ?_
    refine q_get (C := RX3) (T := TX3) (v := .ref (g.P 6)) hx hb hts hown (fun _ h9 => iw_X3_montMod_X3 _ h9) hW (i := 3) (by decide) rfl rfl 5 (by decide) (hts (.fieldLink RX3 16 "ModEngineModel" "first" "[J") (by decide +kernel)) rfl dX3_montMod_20 ?_
    refine lv_aload_n hx hb dX3_montMod_23 rfl (lv_at hl 0 rfl) ?_
    refine q_get (C := RX3) (T := TX3) (v := .ref (g.P 8)) hx hb hts hown (fun _ h9 => iw_X3_montMod_X3 _ h9) hW (i := 3) (by decide) rfl rfl 7 (by decide) (hts (.fieldLink RX3 22 "ModEngineModel" "result" "[J") (by decide +kernel)) rfl dX3_montMod_24 ?_
    refine q_v (q_runV (As := [.ref (g.P 6), .ref (g.P 8)]) (rest := []) (i := 3) S hW (by decide) rfl rfl (n_product l g hg (σ.setJ J2) hM0 hM8 hm2 (by decide) (by decide) (by decide) (by decide) (by decide) (by decide) hx2 hy2 ly (Nat.lt_trans lx ha.2.1)) gX3_montMod_X3_product rfl (nA := 2) ⟨rfl, by decide +kernel, ⟨by decide, by decide⟩⟩ rfl hl.1 rfl (Nat.le_of_ble_eq_true rfl) dX3_montMod_27 ⟨Nat.zero_le _, Nat.zero_le _⟩) hW Ad_hi (fun σ3 H locs hp hW => ?_)
    obtain ⟨J3, e3, hg3, hn3⟩ : ∃ J', σ3 = σ.setJ J' ∧ Gr J2 J' [7, 9, 6] ∧ Nb J' 6 ((X y % M) * (X z % M) % M) := hp
    rw [e3] at hW
    have n5_3 := hg3.N (by decide) hm2
    have n8_3 := hg3.N (by decide) hy2
    rw [← Nat.mul_mod] at hn3
    have hA3 : mAbs g (σ.setJ J3) M X := mAbs_keep (σ := σ.setJ J2) hA2 hg3 (by decide)
    refine lv_iconst (v := 0) hx hb dX3_montMod_30 (by decide) ?_
    refine lv_istore (lv' := [(4, .int 0), (0, .ref (g.P 3)), (1, .int d), (2, .int a), (3, .int b)]) hx hb dX3_montMod_31 hl (by decide) rfl (fun ls hl => ?_)
    have loop : ∀ (n x v : Nat) (J : Nat → Nat → Int64), x ≤ 32 * g.k → 32 * g.k + 1 ≤ x + n → mAbs g (σ.setJ J) M X → Nb J 5 M → Nb J 6 v → v < M → v * 2 ^ x % M = X y * X z % M → ∀ (H : Heap) (locs : List Loc) (ls : Array Slot), Wo g (Ad g s.heap.size) s H locs (σ.setJ J) → lv_has ls 5 [(4, .int (nI x)), (0, .ref (g.P 3)), (1, .int d), (2, .int a), (3, .int b)] → W p l e (rmm 3 71) s m args below meth c H locs 0 0 Q (F0 m 33 ls []) := by
      intro n
      induction n with
      | zero => intro x v J h1 h2; exact absurd h2 (by omega)
      | succ n ih =>
        intro x v J hx1 hx2 hA hm hn hlv hvx H locs ls hW hl
        refine lv_iload hx hb dX3_montMod_33 (lv_at hl 0 rfl) ?_
        refine lv_aload_n hx hb dX3_montMod_35 rfl (lv_at hl 1 rfl) ?_
        refine q_i (q_runV (As := []) (rest := [.int (nI x)]) (i := 3) S hW (by decide) rfl rfl (n_bits l g hg (σ.setJ J) ) gX3_montMod_X3_bits rfl (nA := 0) ⟨rfl, by decide +kernel, ⟨by decide, by decide⟩⟩ rfl hl.1 rfl (Nat.le_of_ble_eq_true rfl) dX3_montMod_36 ⟨Nat.zero_le _, Nat.zero_le _⟩) hW Ad_hi (fun r_36 σ1 H locs hp hW => ?_)
        obtain ⟨e1, er1⟩ : σ1 = σ.setJ J ∧ r_36 = nI (32 * g.k) := hp
        rw [e1] at hW
        refine q_ti (y := nI (32 * g.k)) er1 ?_
        refine lv_icmp_ge (tgt := 56) hx hb dX3_montMod_39 (by decide) (fun c9 => ?_) (fun c9 => ?_)
        · have hx3 := nle c9 (by omega) (by omega)
          have hx4 : x = 32 * g.k := by omega
          rw [hx4] at hvx
          refine lv_aload_n hx hb dX3_montMod_56 rfl (lv_at hl 1 rfl) ?_
          refine lv_iload_n hx hb dX3_montMod_57 rfl (lv_at hl 2 rfl) ?_
          refine lv_aload_n hx hb dX3_montMod_58 rfl (lv_at hl 1 rfl) ?_
          refine q_get (C := RX3) (T := TX3) (v := .ref (g.P 6)) hx hb hts hown (fun _ h9 => iw_X3_montMod_X3 _ h9) hW (i := 3) (by decide) rfl rfl 5 (by decide) (hts (.fieldLink RX3 16 "ModEngineModel" "first" "[J") (by decide +kernel)) rfl dX3_montMod_59 ?_
          refine q_v (q_runV (As := [.int d, .ref (g.P 6)]) (rest := []) (i := 3) S hW (by decide) rfl rfl (n_write l g hg (σ.setJ J) (i := 6) (ee := d1) (by decide) (by omega) ed1) gX3_montMod_X3_write rfl (nA := 2) ⟨rfl, by decide +kernel, ⟨by decide, by decide⟩⟩ rfl hl.1 rfl (Nat.le_of_ble_eq_true rfl) dX3_montMod_62 ⟨Nat.zero_le _, Nat.zero_le _⟩) hW Ad_hi (fun σ50 H locs hp hW => ?_)
          obtain ⟨J50, e50, hg50, hw50, ho50⟩ : ∃ J', σ50 = σ.setJ J' ∧ Gr J J' [4] ∧ (∀ x, x < 9 → J' 4 (9 * d1 + x) = J 6 x) ∧ ∀ yy, yy < 9 * d1 ∨ 9 * d1 + 9 ≤ yy → J' 4 yy = J 4 yy := hp
          rw [e50] at hW
          have hAw : mAbs g (σ.setJ J50) M (va_up X d1 v) := mAbs_wr hA (by omega) hn (Nat.lt_trans hlv ha.2.1) hw50 ho50
          refine lv_iconst (v := 1) hx hb dX3_montMod_65 (by decide) ?_
          exact fin _ _ _ _ _ _ (by decide) hW (⟨⟨rfl, rfl, rfl⟩, M, _, hAw, hc, Or.inl ⟨d1, y, z, v, hd1, hy, hz, ed1, ey, ez, h0, rfl, ⟨hM1, hlv, hvx⟩, rfl⟩, rfl, rfl⟩) dX3_montMod_66
        · have hx3 := nge c9 (by omega)
          refine lv_aload_n hx hb dX3_montMod_42 rfl (lv_at hl 1 rfl) ?_
          refine lv_aload_n hx hb dX3_montMod_43 rfl (lv_at hl 1 rfl) ?_
          refine q_get (C := RX3) (T := TX3) (v := .ref (g.P 6)) hx hb hts hown (fun _ h9 => iw_X3_montMod_X3 _ h9) hW (i := 3) (by decide) rfl rfl 5 (by decide) (hts (.fieldLink RX3 16 "ModEngineModel" "first" "[J") (by decide +kernel)) rfl dX3_montMod_44 ?_
          refine q_v (q_runV (As := [.ref (g.P 6)]) (rest := []) (i := 3) S hW (by decide) rfl rfl (n_halfOf l g hg (σ.setJ J) hM0 hM8 hm (by decide) (by decide) hn hlv) gX3_montMod_X3_halfOf rfl (nA := 1) ⟨rfl, by decide +kernel, ⟨by decide, by decide⟩⟩ rfl hl.1 rfl (Nat.le_of_ble_eq_true rfl) dX3_montMod_47 ⟨Nat.zero_le _, Nat.zero_le _⟩) hW Ad_hi (fun σ60 H locs hp hW => ?_)
          obtain ⟨J60, e60, hg60, hn60⟩ : ∃ J', σ60 = σ.setJ J' ∧ Gr J J' [6] ∧ Nb J' 6 (hlf M v) := hp
          rw [e60] at hW
          have n5_60 := hg60.N (by decide) hm
          have hA60 : mAbs g (σ.setJ J60) M X := mAbs_keep (σ := σ.setJ J) hA hg60 (by decide)
          refine lv_iinc (v := nI (x + 1)) (lv' := [(4, .int (nI (x + 1))), (0, .ref (g.P 3)), (1, .int d), (2, .int a), (3, .int b)]) hx hb dX3_montMod_50 hl (k := 0) rfl (nI_1 _) (by decide) rfl (fun ls hl => ?_)
          refine lv_goto (tgt := 33) hx hb dX3_montMod_53 (by decide) ?_
          exact ih (x + 1) _ J60 (by omega) (by omega) hA60 n5_60 hn60 (hlf_lt hlv) (hlf_mont hM1 hvx) H locs ls hW (lv_sub hl [0, 1, 2, 3, 4] rfl)
    exact loop (32 * g.k + 1) 0 _ J3 (by omega) (by omega) hA3 n5_3 hn3 (Nat.mod_lt _ hM0) (by rw [Nat.pow_zero, Nat.mul_one, Nat.mod_mod]) _ _ ls hW (lv_sub hl [0, 1, 2, 3, 4] rfl)
  · have hno : ¬ (σ.rm = 1 ∧ isR d g.n ∧ isR a g.n ∧ isR b g.n) := er1.elim (fun z => absurd (z.1.symm.trans c1) (by decide)) (fun z => z.2)
    refine lv_iconst (v := 0) hx hb dX3_montMod_10 (by decide) ?_
    exact fin _ _ _ _ _ _ (by decide) hW (⟨⟨rfl, rfl, rfl⟩, M, X, ha, hc, ⟨Or.inr ⟨hno, rfl, rfl⟩, rfl, rfl⟩⟩) dX3_montMod_11
set_option maxHeartbeats 4000000 in
set_option maxRecDepth 100000 in
/-- reference: powMod -/
theorem n_powMod (l : Launch) (g : qCfg) (hg : g.ok) (σ : qSt) {M : Nat} {X : Nat → Nat} (ha : mAbs g σ M X) (hc : mInv σ M) (d a b : Int32) : qCI l g yX3_powMod wsX3_powMod 4 93 [.ref (g.P 3), .int d, .int a, .int b] σ (mPost g σ (sReg g.n pPow d a b M X σ.rm)) := by
  refine q_sZ (cc := cX3_powMod) (maxL := 4) (by decide) rfl (Nat.le_of_ble_eq_true rfl) ?_
  intro p e s m args below meth c ls Q S hW hl fin
  obtain ⟨hx, hb, hml, hown, hts, hr, hlocks⟩ := id S
  obtain ⟨hk1, hk8, hn1, hn8⟩ := id hg
  have hl : lv_has ls 4 [(0, .ref (g.P 3)), (1, .int d), (2, .int a), (3, .int b)] := hl
  refine lv_aload_n hx hb dX3_powMod_0 rfl (lv_at hl 0 rfl) ?_
  refine lv_iload_n hx hb dX3_powMod_1 rfl (lv_at hl 1 rfl) ?_
  refine lv_iload_n hx hb dX3_powMod_2 rfl (lv_at hl 2 rfl) ?_
  refine lv_iload_n hx hb dX3_powMod_3 rfl (lv_at hl 3 rfl) ?_
  refine q_i (q_runV (As := [.int d, .int a, .int b]) (rest := []) (i := 3) S hW (by decide) rfl rfl (n_isAsked l g hg σ hc.1 d a b) gX3_powMod_X3_isAsked rfl (nA := 3) ⟨rfl, by decide +kernel, ⟨by decide, by decide⟩⟩ rfl hl.1 rfl (Nat.le_of_ble_eq_true rfl) dX3_powMod_4 ⟨Nat.zero_le _, Nat.zero_le _⟩) hW Ad_hi (fun r_4 σ1 H locs hp hW => ?_)
  obtain ⟨e1, er1⟩ : σ1 = σ ∧ (r_4 = 1 ∧ (σ.rm = 1 ∧ isR d g.n ∧ isR a g.n ∧ isR b g.n) ∨ r_4 = 0 ∧ ¬ (σ.rm = 1 ∧ isR d g.n ∧ isR a g.n ∧ isR b g.n)) := hp
  rw [e1] at hW
  refine lv_if_ne (tgt := 12) hx hb dX3_powMod_7 (by decide) (fun c1 => ?_) (fun c1 => ?_)
  · obtain ⟨h0, ⟨d1, hd1, ed1⟩, ⟨y, hy, ey⟩, ⟨z, hz, ez⟩⟩ : (σ.rm = 1 ∧ isR d g.n ∧ isR a g.n ∧ isR b g.n) := er1.elim (fun z => z.2) (fun z => absurd z.1 c1)
    obtain ⟨hM1, hM3⟩ := hc.2 h0
    have hM0 : 0 < M := by omega
    have hM8 := lt256 hk8 ha.2.1
    refine lv_aload_n hx hb dX3_powMod_12 rfl (lv_at hl 0 rfl) ?_
    refine lv_iload_n hx hb dX3_powMod_13 rfl (lv_at hl 2 rfl) ?_
    refine lv_iload_n hx hb dX3_powMod_14 rfl (lv_at hl 2 rfl) ?_
    refine q_v (q_runV (As := [.int a, .int a]) (rest := []) (i := 3) S hW (by decide) rfl rfl (n_takes l g hg σ (ea := y) (eb := y) hM0 hM8 ha.1 (by omega) (by omega) ey ey (ha.2.2 y hy).1 (ha.2.2 y hy).1 (ha.2.2 y hy).2 (ha.2.2 y hy).2) gX3_powMod_X3_takes rfl (nA := 2) ⟨rfl, by decide +kernel, ⟨by decide, by decide⟩⟩ rfl hl.1 rfl (Nat.le_of_ble_eq_true rfl) dX3_powMod_15 ⟨Nat.zero_le _, Nat.zero_le _⟩) hW Ad_hi (fun σ2 H locs hp hW => ?_)
    obtain ⟨J2, e2, hg2, hm2, hx2, hy2⟩ : ∃ J', σ2 = σ.setJ J' ∧ Gr σ.J J' [5, 6, 8, 9] ∧ Nb J' 5 M ∧ Nb J' 6 (X y % M) ∧ Nb J' 8 (X y % M) := hp
    rw [e2] at hW
    have hA2 := mAbs_keep ha hg2 (by decide)
    have lx := Nat.mod_lt (X y) hM0
    have ly := Nat.mod_lt (X y) hM0
    refine lv_aload_n hx hb dX3_powMod_18 rfl (lv_at hl 0 rfl) ?_
    refine lv_aload_n hx hb dX3_powMod_19 rfl (lv_at hl 0 rfl) ?_
    refine q_get (C := RX3) (T := TX3) (v := .ref (g.P 11)) hx hb hts hown (fun _ h9 => iw_X3_powMod_X3 _ h9) hW (i := 3) (by decide) rfl rfl 10 (by decide) (hts (.fieldLink RX3 31 "ModEngineModel" "power" "[J") (by decide +kernel)) rfl dX3_powMod_20 ?_
    refine lv_aload_n hx hb dX3_powMod_23 rfl (lv_at hl 0 rfl) ?_
    refine lv_iload_n hx hb dX3_powMod_24 rfl (lv_at hl 3 rfl) ?_
    refine q_i (q_runV (As := [.int b]) (rest := [.ref (g.P 11), .ref (g.P 3)]) (i := 3) S hW (by decide) rfl rfl (n_placeOf l g hg (σ.setJ J2) (x := b) ez) gX3_powMod_X3_placeOf rfl (nA := 1) ⟨rfl, by decide +kernel, ⟨by decide, by decide⟩⟩ rfl hl.1 rfl (Nat.le_of_ble_eq_true rfl) dX3_powMod_25 ⟨Nat.zero_le _, Nat.zero_le _⟩) hW Ad_hi (fun r_25 σ3 H locs hp hW => ?_)
    obtain ⟨e3, er3⟩ : σ3 = σ.setJ J2 ∧ r_25 = nI (9 * z) := hp
    rw [e3] at hW
    refine q_ti (y := nI (9 * z)) er3 ?_
    have hzz : Nh J2 z (X z) := (hA2.2.2 z hz).1
    refine q_v (q_runV (As := [.ref (g.P 11), .int (nI (9 * z))]) (rest := []) (i := 3) S hW (by decide) rfl rfl (n_read l g hg (σ.setJ J2) (i := 11) (q := 9 * z) (by decide) (by omega)) gX3_powMod_X3_read rfl (nA := 2) ⟨rfl, by decide +kernel, ⟨by decide, by decide⟩⟩ rfl hl.1 rfl (Nat.le_of_ble_eq_true rfl) dX3_powMod_28 ⟨Nat.zero_le _, Nat.zero_le _⟩) hW Ad_hi (fun σ4 H locs hp hW => ?_)
    obtain ⟨J4, e4, hg4, hcp4⟩ : ∃ J', σ4 = σ.setJ J' ∧ Gr J2 J' [11] ∧ ∀ x, x < 9 → J' 11 x = J2 4 (9 * z + x) := hp
    rw [e4] at hW
    have hn4 : Nb J4 11 (X z) := Nh.rd hzz hcp4
    have n5_4 := hg4.N (by decide) hm2
    have n6_4 := hg4.N (by decide) hx2
    have n8_4 := hg4.N (by decide) hy2
    have hA4 : mAbs g (σ.setJ J4) M X := mAbs_keep (σ := σ.setJ J2) hA2 hg4 (by decide)
    refine lv_aload_n hx hb dX3_powMod_31 rfl (lv_at hl 0 rfl) ?_
    refine lv_aload_n hx hb dX3_powMod_32 rfl (lv_at hl 0 rfl) ?_
    refine q_get (C := RX3) (T := TX3) (v := .ref (g.P 6)) hx hb hts hown (fun _ h9 => iw_X3_powMod_X3 _ h9) hW (i := 3) (by decide) rfl rfl 5 (by decide) (hts (.fieldLink RX3 16 "ModEngineModel" "first" "[J") (by decide +kernel)) rfl dX3_powMod_33 ?_
    refine q_v (q_runV (As := [.ref (g.P 6)]) (rest := []) (i := 3) S hW (by decide) rfl rfl (n_raise l g hg (σ.setJ J4) hM0 hM8 n5_4 (by omega) ha.2.1 n6_4 lx hn4 (ha.2.2 z hz).2) gX3_powMod_X3_raise rfl (nA := 1) ⟨rfl, by decide +kernel, ⟨by decide, by decide⟩⟩ rfl hl.1 rfl (Nat.le_of_ble_eq_true rfl) dX3_powMod_36 ⟨Nat.zero_le _, Nat.zero_le _⟩) hW Ad_hi (fun σ5 H locs hp hW => ?_)
    obtain ⟨J5, e5, hg5, hn5⟩ : ∃ J', σ5 = σ.setJ J' ∧ Gr J4 J' [6, 7, 9, 10] ∧ Nb J' 6 ((X y % M) ^ X z % M) := hp
    rw [e5] at hW
    have n5_5 := hg5.N (by decide) n5_4
    have n8_5 := hg5.N (by decide) n8_4
    have n11_5 := hg5.N (by decide) hn4
    have hA5 : mAbs g (σ.setJ J5) M X := mAbs_keep (σ := σ.setJ J4) hA4 hg5 (by decide)
    rw [← Nat.pow_mod] at hn5
    refine lv_aload_n hx hb dX3_powMod_39 rfl (lv_at hl 0 rfl) ?_
    refine lv_iload_n hx hb dX3_powMod_40 rfl (lv_at hl 1 rfl) ?_
    refine lv_aload_n hx hb dX3_powMod_41 rfl (lv_at hl 0 rfl) ?_
    refine q_get (C := RX3) (T := TX3) (v := .ref (g.P 6)) hx hb hts hown (fun _ h9 => iw_X3_powMod_X3 _ h9) hW (i := 3) (by decide) rfl rfl 5 (by decide) (hts (.fieldLink RX3 16 "ModEngineModel" "first" "[J") (by decide +kernel)) rfl dX3_powMod_42 ?_
    refine q_v (q_runV (As := [.int d, .ref (g.P 6)]) (rest := []) (i := 3) S hW (by decide) rfl rfl (n_write l g hg (σ.setJ J5) (i := 6) (ee := d1) (by decide) (by omega) ed1) gX3_powMod_X3_write rfl (nA := 2) ⟨rfl, by decide +kernel, ⟨by decide, by decide⟩⟩ rfl hl.1 rfl (Nat.le_of_ble_eq_true rfl) dX3_powMod_45 ⟨Nat.zero_le _, Nat.zero_le _⟩) hW Ad_hi (fun σ6 H locs hp hW => ?_)
    obtain ⟨J6, e6, hg6, hw6, ho6⟩ : ∃ J', σ6 = σ.setJ J' ∧ Gr J5 J' [4] ∧ (∀ x, x < 9 → J' 4 (9 * d1 + x) = J5 6 x) ∧ ∀ yy, yy < 9 * d1 ∨ 9 * d1 + 9 ≤ yy → J' 4 yy = J5 4 yy := hp
    rw [e6] at hW
    have hAw : mAbs g (σ.setJ J6) M (va_up X d1 (X y ^ X z % M)) := mAbs_wr hA5 (by omega) hn5 (Nat.lt_trans (Nat.mod_lt _ hM0) ha.2.1) hw6 ho6
    refine lv_iconst (v := 1) hx hb dX3_powMod_48 (by decide) ?_
    exact fin _ _ _ _ _ _ (by decide) hW (⟨⟨rfl, rfl, rfl⟩, M, _, hAw, hc, Or.inl ⟨d1, y, z, _, hd1, hy, hz, ed1, ey, ez, h0, rfl, rfl, rfl⟩, rfl, rfl⟩) dX3_powMod_49
  · have hno : ¬ (σ.rm = 1 ∧ isR d g.n ∧ isR a g.n ∧ isR b g.n) := er1.elim (fun z => absurd (z.1.symm.trans c1) (by decide)) (fun z => z.2)
    refine lv_iconst (v := 0) hx hb dX3_powMod_10 (by decide) ?_
    exact fin _ _ _ _ _ _ (by decide) hW (⟨⟨rfl, rfl, rfl⟩, M, X, ha, hc, ⟨Or.inr ⟨hno, rfl, rfl⟩, rfl, rfl⟩⟩) dX3_powMod_11
set_option maxHeartbeats 4000000 in
set_option maxRecDepth 100000 in
/-- reference: invMod(d, a) -/
theorem n_invMod (l : Launch) (g : qCfg) (hg : g.ok) (σ : qSt) {M : Nat} {X : Nat → Nat} (ha : mAbs g σ M X) (hc : mInv σ M) (d a : Int32) : qCI l g yX3_invMod wsX3_invMod 3 70 [.ref (g.P 3), .int d, .int a] σ (mPost g σ (sInv g.n d a M X σ.rm)) := by
  refine q_sI (cc := cX3_invMod) (maxL := 3) (by decide) rfl (Nat.le_of_ble_eq_true rfl) ?_
  intro p e s m args below meth c ls Q S hW hl fin
  obtain ⟨hx, hb, hml, hown, hts, hr, hlocks⟩ := id S
  obtain ⟨hk1, hk8, hn1, hn8⟩ := id hg
  have hl : lv_has ls 3 [(0, .ref (g.P 3)), (1, .int d), (2, .int a)] := hl
  refine lv_aload_n hx hb dX3_invMod_0 rfl (lv_at hl 0 rfl) ?_
  refine lv_iload_n hx hb dX3_invMod_1 rfl (lv_at hl 1 rfl) ?_
  refine lv_iload_n hx hb dX3_invMod_2 rfl (lv_at hl 2 rfl) ?_
  refine lv_iload_n hx hb dX3_invMod_3 rfl (lv_at hl 2 rfl) ?_
  refine q_i (q_runV (As := [.int d, .int a, .int a]) (rest := []) (i := 3) S hW (by decide) rfl rfl (n_isAsked l g hg σ hc.1 d a a) gX3_invMod_X3_isAsked rfl (nA := 3) ⟨rfl, by decide +kernel, ⟨by decide, by decide⟩⟩ rfl hl.1 rfl (Nat.le_of_ble_eq_true rfl) dX3_invMod_4 ⟨Nat.zero_le _, Nat.zero_le _⟩) hW Ad_hi (fun r_4 σ1 H locs hp hW => ?_)
  obtain ⟨e1, er1⟩ : σ1 = σ ∧ (r_4 = 1 ∧ (σ.rm = 1 ∧ isR d g.n ∧ isR a g.n ∧ isR a g.n) ∨ r_4 = 0 ∧ ¬ (σ.rm = 1 ∧ isR d g.n ∧ isR a g.n ∧ isR a g.n)) := hp
  rw [e1] at hW
  refine lv_if_ne (tgt := 12) hx hb dX3_invMod_7 (by decide) (fun c1 => ?_) (fun c1 => ?_)
  · obtain ⟨h0, ⟨d1, hd1, ed1⟩, ⟨y, hy, ey⟩, -⟩ : (σ.rm = 1 ∧ isR d g.n ∧ isR a g.n ∧ isR a g.n) := er1.elim (fun z => z.2) (fun z => absurd z.1 c1)
    obtain ⟨hM1, hM3⟩ := hc.2 h0
    have hM0 : 0 < M := by omega
    have hM8 := lt256 hk8 ha.2.1
    refine lv_aload_n hx hb dX3_invMod_12 rfl (lv_at hl 0 rfl) ?_
    refine lv_iload_n hx hb dX3_invMod_13 rfl (lv_at hl 2 rfl) ?_
    refine lv_iload_n hx hb dX3_invMod_14 rfl (lv_at hl 2 rfl) ?_
    refine q_v (q_runV (As := [.int a, .int a]) (rest := []) (i := 3) S hW (by decide) rfl rfl (n_takes l g hg σ (ea := y) (eb := y) hM0 hM8 ha.1 (by omega) (by omega) ey ey (ha.2.2 y hy).1 (ha.2.2 y hy).1 (ha.2.2 y hy).2 (ha.2.2 y hy).2) gX3_invMod_X3_takes rfl (nA := 2) ⟨rfl, by decide +kernel, ⟨by decide, by decide⟩⟩ rfl hl.1 rfl (Nat.le_of_ble_eq_true rfl) dX3_invMod_15 ⟨Nat.zero_le _, Nat.zero_le _⟩) hW Ad_hi (fun σ2 H locs hp hW => ?_)
    obtain ⟨J2, e2, hg2, hm2, hx2, hy2⟩ : ∃ J', σ2 = σ.setJ J' ∧ Gr σ.J J' [5, 6, 8, 9] ∧ Nb J' 5 M ∧ Nb J' 6 (X y % M) ∧ Nb J' 8 (X y % M) := hp
    rw [e2] at hW
    have hA2 := mAbs_keep ha hg2 (by decide)
    have lx := Nat.mod_lt (X y) hM0
    refine lv_aload_n hx hb dX3_invMod_18 rfl (lv_at hl 0 rfl) ?_
    refine q_get (C := RX3) (T := TX3) (v := .ref (g.P 10)) hx hb hts hown (fun _ h9 => iw_X3_invMod_X3 _ h9) hW (i := 3) (by decide) rfl rfl 9 (by decide) (hts (.fieldLink RX3 28 "ModEngineModel" "base" "[J") (by decide +kernel)) rfl dX3_invMod_19 ?_
    refine lv_aload_n hx hb dX3_invMod_22 rfl (lv_at hl 0 rfl) ?_
    refine q_get (C := RX3) (T := TX3) (v := .ref (g.P 5)) hx hb hts hown (fun _ h9 => iw_X3_invMod_X3 _ h9) hW (i := 3) (by decide) rfl rfl 4 (by decide) (hts (.fieldLink RX3 13 "ModEngineModel" "modulus" "[J") (by decide +kernel)) rfl dX3_invMod_23 ?_
    refine q_v (q_runS (As := [.ref (g.P 10), .ref (g.P 5)]) (rest := []) S hW (n_copy l g hg (σ.setJ J2) (by decide) (by decide)) gX3_invMod_X3_copy (nA := 2) ⟨rfl, by decide +kernel, ⟨by decide, by decide⟩⟩ rfl hl.1 rfl (Nat.le_of_ble_eq_true rfl) dX3_invMod_26 ⟨Nat.zero_le _, Nat.zero_le _⟩) hW Ad_hi (fun σ3 H locs hp hW => ?_)
    obtain ⟨J3, e3, hg3, hcp3⟩ : ∃ J', σ3 = σ.setJ J' ∧ Gr J2 J' [10] ∧ ∀ x, x < 9 → J' 10 x = J2 5 x := hp
    rw [e3] at hW
    have hn3 : Nb J3 10 M := Nb.cp hm2 hcp3
    have n5_3 := hg3.N (by decide) hm2
    have n6_3 := hg3.N (by decide) hx2
    have n8_3 := hg3.N (by decide) hy2
    have hA3 : mAbs g (σ.setJ J3) M X := mAbs_keep (σ := σ.setJ J2) hA2 hg3 (by decide)
    refine lv_aload_n hx hb dX3_invMod_29 rfl (lv_at hl 0 rfl) ?_
    refine q_get (C := RX3) (T := TX3) (v := .ref (g.P 8)) hx hb hts hown (fun _ h9 => iw_X3_invMod_X3 _ h9) hW (i := 3) (by decide) rfl rfl 7 (by decide) (hts (.fieldLink RX3 22 "ModEngineModel" "result" "[J") (by decide +kernel)) rfl dX3_invMod_30 ?_
    refine lv_lconst (v := 1) hx hb dX3_invMod_33 (by decide) ?_
    refine q_tl (y := lN 1) rfl ?_
    refine q_v (q_runS (As := [.ref (g.P 8), .long (lN 1)]) (rest := []) S hW (n_be l g hg (σ.setJ J3) (t := 1) (by decide) (by decide)) gX3_invMod_X3_be (nA := 2) ⟨rfl, by decide +kernel, ⟨by decide, by decide⟩⟩ rfl hl.1 rfl (Nat.le_of_ble_eq_true rfl) dX3_invMod_34 ⟨Nat.zero_le _, Nat.zero_le _⟩) hW Ad_hi (fun σ4 H locs hp hW => ?_)
    obtain ⟨J4, e4, hg4, hn4⟩ : ∃ J', σ4 = σ.setJ J' ∧ Gr J3 J' [8] ∧ Nb J' 8 1 := hp
    rw [e4] at hW
    have n5_4 := hg4.N (by decide) n5_3
    have n6_4 := hg4.N (by decide) n6_3
    have n10_4 := hg4.N (by decide) hn3
    have hA4 : mAbs g (σ.setJ J4) M X := mAbs_keep (σ := σ.setJ J3) hA3 hg4 (by decide)
    refine lv_aload_n hx hb dX3_invMod_37 rfl (lv_at hl 0 rfl) ?_
    refine q_get (C := RX3) (T := TX3) (v := .ref (g.P 11)) hx hb hts hown (fun _ h9 => iw_X3_invMod_X3 _ h9) hW (i := 3) (by decide) rfl rfl 10 (by decide) (hts (.fieldLink RX3 31 "ModEngineModel" "power" "[J") (by decide +kernel)) rfl dX3_invMod_38 ?_
    refine lv_lconst (v := 0) hx hb dX3_invMod_41 (by decide) ?_
    refine q_tl (y := lN 0) rfl ?_
    refine q_v (q_runS (As := [.ref (g.P 11), .long (lN 0)]) (rest := []) S hW (n_be l g hg (σ.setJ J4) (t := 0) (by decide) (by decide)) gX3_invMod_X3_be (nA := 2) ⟨rfl, by decide +kernel, ⟨by decide, by decide⟩⟩ rfl hl.1 rfl (Nat.le_of_ble_eq_true rfl) dX3_invMod_42 ⟨Nat.zero_le _, Nat.zero_le _⟩) hW Ad_hi (fun σ5 H locs hp hW => ?_)
    obtain ⟨J5, e5, hg5, hn5⟩ : ∃ J', σ5 = σ.setJ J' ∧ Gr J4 J' [11] ∧ Nb J' 11 0 := hp
    rw [e5] at hW
    have n5_5 := hg5.N (by decide) n5_4
    have n6_5 := hg5.N (by decide) n6_4
    have n10_5 := hg5.N (by decide) n10_4
    have n8_5 := hg5.N (by decide) hn4
    have hA5 : mAbs g (σ.setJ J5) M X := mAbs_keep (σ := σ.setJ J4) hA4 hg5 (by decide)
    have loop : ∀ (n fi ba u v : Nat) (J : Nat → Nat → Int64), fi + ba < n → mAbs g (σ.setJ J) M X → Nb J 5 M → Nb J 6 fi → Nb J 10 ba → Nb J 8 u → Nb J 11 v → gInv M (X y) fi ba u v → 0 < ba → (fi % 2 = 1 ∨ ba % 2 = 1) → ∀ (H : Heap) (locs : List Loc) (ls : Array Slot), Wo g (Ad g s.heap.size) s H locs (σ.setJ J) → lv_has ls 3 [(0, .ref (g.P 3)), (1, .int d), (2, .int a)] → W p l e (rmm 3 70) s m args below meth c H locs 0 0 Q (F0 m 45 ls []) := by
      intro n
      induction n with
      | zero => intro fi ba u v J h1; exact absurd h1 (by omega)
      | succ n ih =>
        intro fi ba u v J hn hA h5 h6 h10 h8 h11 hI hq hodd H locs ls hW hl
        refine lv_aload_n hx hb dX3_invMod_45 rfl (lv_at hl 0 rfl) ?_
        refine q_get (C := RX3) (T := TX3) (v := .ref (g.P 6)) hx hb hts hown (fun _ h9 => iw_X3_invMod_X3 _ h9) hW (i := 3) (by decide) rfl rfl 5 (by decide) (hts (.fieldLink RX3 16 "ModEngineModel" "first" "[J") (by decide +kernel)) rfl dX3_invMod_46 ?_
        refine q_i (q_runS (As := [.ref (g.P 6)]) (rest := []) S hW (n_isNought l g hg (σ.setJ J) (by decide) h6) gX3_invMod_X3_isNought (nA := 1) ⟨rfl, by decide +kernel, ⟨by decide, by decide⟩⟩ rfl hl.1 rfl (Nat.le_of_ble_eq_true rfl) dX3_invMod_49 ⟨Nat.zero_le _, Nat.zero_le _⟩) hW Ad_hi (fun r_49 σ20 H locs hp hW => ?_)
        obtain ⟨e20, er20⟩ : σ20 = σ.setJ J ∧ r_49 = if fi = 0 then 1 else 0 := hp
        rw [e20] at hW
        refine lv_if_ne (tgt := 179) hx hb dX3_invMod_52 (by decide) (fun c2 => ?_) (fun c2 => ?_)
        · have hp0 := (fa_boolp er20).2.mp c2
          rw [hp0] at hI
          obtain ⟨hg1, hg2⟩ := gInv_end hI
          refine lv_aload_n hx hb dX3_invMod_179 rfl (lv_at hl 0 rfl) ?_
          refine q_get (C := RX3) (T := TX3) (v := .ref (g.P 10)) hx hb hts hown (fun _ h9 => iw_X3_invMod_X3 _ h9) hW (i := 3) (by decide) rfl rfl 9 (by decide) (hts (.fieldLink RX3 28 "ModEngineModel" "base" "[J") (by decide +kernel)) rfl dX3_invMod_180 ?_
          refine q_i (q_runS (As := [.ref (g.P 10)]) (rest := []) S hW (n_isOne l g hg (σ.setJ J) (by decide) h10) gX3_invMod_X3_isOne (nA := 1) ⟨rfl, by decide +kernel, ⟨by decide, by decide⟩⟩ rfl hl.1 rfl (Nat.le_of_ble_eq_true rfl) dX3_invMod_183 ⟨Nat.zero_le _, Nat.zero_le _⟩) hW Ad_hi (fun r_183 σ21 H locs hp hW => ?_)
          obtain ⟨e21, er21⟩ : σ21 = σ.setJ J ∧ r_183 = if ba = 1 then 1 else 0 := hp
          rw [e21] at hW
          refine lv_if_ne (tgt := 191) hx hb dX3_invMod_186 (by decide) (fun c3 => ?_) (fun c3 => ?_)
          · have hq1 := (fa_boolp er21).2.mp c3
            refine lv_aload_n hx hb dX3_invMod_191 rfl (lv_at hl 0 rfl) ?_
            refine lv_iload_n hx hb dX3_invMod_192 rfl (lv_at hl 1 rfl) ?_
            refine lv_aload_n hx hb dX3_invMod_193 rfl (lv_at hl 0 rfl) ?_
            refine q_get (C := RX3) (T := TX3) (v := .ref (g.P 11)) hx hb hts hown (fun _ h9 => iw_X3_invMod_X3 _ h9) hW (i := 3) (by decide) rfl rfl 10 (by decide) (hts (.fieldLink RX3 31 "ModEngineModel" "power" "[J") (by decide +kernel)) rfl dX3_invMod_194 ?_
            refine q_v (q_runV (As := [.int d, .ref (g.P 11)]) (rest := []) (i := 3) S hW (by decide) rfl rfl (n_write l g hg (σ.setJ J) (i := 11) (ee := d1) (by decide) (by omega) ed1) gX3_invMod_X3_write rfl (nA := 2) ⟨rfl, by decide +kernel, ⟨by decide, by decide⟩⟩ rfl hl.1 rfl (Nat.le_of_ble_eq_true rfl) dX3_invMod_197 ⟨Nat.zero_le _, Nat.zero_le _⟩) hW Ad_hi (fun σ22 H locs hp hW => ?_)
            obtain ⟨J22, e22, hg22, hw22, ho22⟩ : ∃ J', σ22 = σ.setJ J' ∧ Gr J J' [4] ∧ (∀ x, x < 9 → J' 4 (9 * d1 + x) = J 11 x) ∧ ∀ yy, yy < 9 * d1 ∨ 9 * d1 + 9 ≤ yy → J' 4 yy = J 4 yy := hp
            rw [e22] at hW
            have hAw : mAbs g (σ.setJ J22) M (va_up X d1 v) := mAbs_wr hA (by omega) h11 (Nat.lt_trans hI.2.1 ha.2.1) hw22 ho22
            refine lv_iconst (v := 0) hx hb dX3_invMod_200 (by decide) ?_
            exact fin _ _ _ _ _ _ hW (⟨⟨rfl, rfl, rfl⟩, M, _, hAw, hc, Or.inl ⟨d1, y, hd1, hy, ed1, ey, h0, Or.inl ⟨v, rfl, hg1.symm.trans hq1, hM0, hI.2.1, hg2 hq1, rfl⟩⟩, rfl, rfl⟩) dX3_invMod_201
          · have hq1 := (fa_boolp er21).1.mp c3
            refine lv_iconst (v := 1) hx hb dX3_invMod_189 (by decide) ?_
            exact fin _ _ _ _ _ _ hW (⟨⟨rfl, rfl, rfl⟩, M, X, hA, hc, Or.inl ⟨d1, y, hd1, hy, ed1, ey, h0, Or.inr ⟨rfl, fun z => hq1 (hg1.trans z), rfl⟩⟩, rfl, rfl⟩) dX3_invMod_190
        · have hp0 : 0 < fi := Nat.pos_of_ne_zero ((fa_boolp er20).1.mp c2)
          refine lv_aload_n hx hb dX3_invMod_55 rfl (lv_at hl 0 rfl) ?_
          refine q_get (C := RX3) (T := TX3) (v := .ref (g.P 6)) hx hb hts hown (fun _ h9 => iw_X3_invMod_X3 _ h9) hW (i := 3) (by decide) rfl rfl 5 (by decide) (hts (.fieldLink RX3 16 "ModEngineModel" "first" "[J") (by decide +kernel)) rfl dX3_invMod_56 ?_
          refine lv_iconst (v := 0) hx hb dX3_invMod_59 (by decide) ?_
          refine q_i (q_runS (As := [.ref (g.P 6), .int 0]) (rest := []) S hW (n_bit l g hg (σ.setJ J) (b := 0) (by decide) h6 (by decide)) gX3_invMod_X3_bit (nA := 2) ⟨rfl, by decide +kernel, ⟨by decide, by decide⟩⟩ rfl hl.1 rfl (Nat.le_of_ble_eq_true rfl) dX3_invMod_60 ⟨Nat.zero_le _, Nat.zero_le _⟩) hW Ad_hi (fun r_60 σ21 H locs hp hW => ?_)
          obtain ⟨e21, er21⟩ : σ21 = σ.setJ J ∧ r_60 = if fi.testBit 0 = true then 1 else 0 := hp
          rw [e21] at hW
          rw [show fi.testBit 0 = decide (fi % 2 = 1) from Nat.testBit_zero fi] at er21
          refine lv_if_ne (tgt := 84) hx hb dX3_invMod_63 (by decide) (fun c3 => ?_) (fun c3 => ?_)
          · have ho1 : fi % 2 = 1 := by simpa using (fa_boolp er21).2.mp c3
            refine lv_aload_n hx hb dX3_invMod_84 rfl (lv_at hl 0 rfl) ?_
            refine q_get (C := RX3) (T := TX3) (v := .ref (g.P 10)) hx hb hts hown (fun _ h9 => iw_X3_invMod_X3 _ h9) hW (i := 3) (by decide) rfl rfl 9 (by decide) (hts (.fieldLink RX3 28 "ModEngineModel" "base" "[J") (by decide +kernel)) rfl dX3_invMod_85 ?_
            refine lv_iconst (v := 0) hx hb dX3_invMod_88 (by decide) ?_
            refine q_i (q_runS (As := [.ref (g.P 10), .int 0]) (rest := []) S hW (n_bit l g hg (σ.setJ J) (b := 0) (by decide) h10 (by decide)) gX3_invMod_X3_bit (nA := 2) ⟨rfl, by decide +kernel, ⟨by decide, by decide⟩⟩ rfl hl.1 rfl (Nat.le_of_ble_eq_true rfl) dX3_invMod_89 ⟨Nat.zero_le _, Nat.zero_le _⟩) hW Ad_hi (fun r_89 σ22 H locs hp hW => ?_)
            obtain ⟨e22, er22⟩ : σ22 = σ.setJ J ∧ r_89 = if ba.testBit 0 = true then 1 else 0 := hp
            rw [e22] at hW
            rw [show ba.testBit 0 = decide (ba % 2 = 1) from Nat.testBit_zero ba] at er22
            refine lv_if_ne (tgt := 113) hx hb dX3_invMod_92 (by decide) (fun c4 => ?_) (fun c4 => ?_)
            · have ho2 : ba % 2 = 1 := by simpa using (fa_boolp er22).2.mp c4
              refine lv_aload_n hx hb dX3_invMod_113 rfl (lv_at hl 0 rfl) ?_
              refine q_get (C := RX3) (T := TX3) (v := .ref (g.P 6)) hx hb hts hown (fun _ h9 => iw_X3_invMod_X3 _ h9) hW (i := 3) (by decide) rfl rfl 5 (by decide) (hts (.fieldLink RX3 16 "ModEngineModel" "first" "[J") (by decide +kernel)) rfl dX3_invMod_114 ?_
              refine lv_aload_n hx hb dX3_invMod_117 rfl (lv_at hl 0 rfl) ?_
              refine q_get (C := RX3) (T := TX3) (v := .ref (g.P 10)) hx hb hts hown (fun _ h9 => iw_X3_invMod_X3 _ h9) hW (i := 3) (by decide) rfl rfl 9 (by decide) (hts (.fieldLink RX3 28 "ModEngineModel" "base" "[J") (by decide +kernel)) rfl dX3_invMod_118 ?_
              refine q_i (q_runS (As := [.ref (g.P 6), .ref (g.P 10)]) (rest := []) S hW (n_compared l g hg (σ.setJ J) (by decide) (by decide) h6 h10) gX3_invMod_X3_compared (nA := 2) ⟨rfl, by decide +kernel, ⟨by decide, by decide⟩⟩ rfl hl.1 rfl (Nat.le_of_ble_eq_true rfl) dX3_invMod_121 ⟨Nat.zero_le _, Nat.zero_le _⟩) hW Ad_hi (fun r_121 σ23 H locs hp hW => ?_)
              obtain ⟨e23, er23⟩ : σ23 = σ.setJ J ∧ r_121 = if fi < ba then -1 else if fi = ba then 0 else 1 := hp
              rw [e23] at hW
              refine lv_if_lt (tgt := 153) hx hb dX3_invMod_124 (by decide) (fun c5 => ?_) (fun c5 => ?_)
              · have hlt := (ord_lt er23).mp c5
                refine lv_aload_n hx hb dX3_invMod_153 rfl (lv_at hl 0 rfl) ?_
                refine q_get (C := RX3) (T := TX3) (v := .ref (g.P 10)) hx hb hts hown (fun _ h9 => iw_X3_invMod_X3 _ h9) hW (i := 3) (by decide) rfl rfl 9 (by decide) (hts (.fieldLink RX3 28 "ModEngineModel" "base" "[J") (by decide +kernel)) rfl dX3_invMod_154 ?_
                refine lv_aload_n hx hb dX3_invMod_157 rfl (lv_at hl 0 rfl) ?_
                refine q_get (C := RX3) (T := TX3) (v := .ref (g.P 6)) hx hb hts hown (fun _ h9 => iw_X3_invMod_X3 _ h9) hW (i := 3) (by decide) rfl rfl 5 (by decide) (hts (.fieldLink RX3 16 "ModEngineModel" "first" "[J") (by decide +kernel)) rfl dX3_invMod_158 ?_
                refine q_v (q_runS (As := [.ref (g.P 10), .ref (g.P 6)]) (rest := []) S hW (n_minus l g hg (σ.setJ J) (by decide) (by decide) h10 h6 (by omega)) gX3_invMod_X3_minus (nA := 2) ⟨rfl, by decide +kernel, ⟨by decide, by decide⟩⟩ rfl hl.1 rfl (Nat.le_of_ble_eq_true rfl) dX3_invMod_161 ⟨Nat.zero_le _, Nat.zero_le _⟩) hW Ad_hi (fun σ24 H locs hp hW => ?_)
                obtain ⟨J24, e24, hg24, hn24⟩ : ∃ J', σ24 = σ.setJ J' ∧ Gr J J' [10] ∧ Nb J' 10 (ba - fi) := hp
                rw [e24] at hW
                have n5_24 := hg24.N (by decide) h5
                have n6_24 := hg24.N (by decide) h6
                have n8_24 := hg24.N (by decide) h8
                have n11_24 := hg24.N (by decide) h11
                have hA24 : mAbs g (σ.setJ J24) M X := mAbs_keep (σ := σ.setJ J) hA hg24 (by decide)
                refine lv_aload_n hx hb dX3_invMod_164 rfl (lv_at hl 0 rfl) ?_
                refine lv_aload_n hx hb dX3_invMod_165 rfl (lv_at hl 0 rfl) ?_
                refine q_get (C := RX3) (T := TX3) (v := .ref (g.P 11)) hx hb hts hown (fun _ h9 => iw_X3_invMod_X3 _ h9) hW (i := 3) (by decide) rfl rfl 10 (by decide) (hts (.fieldLink RX3 31 "ModEngineModel" "power" "[J") (by decide +kernel)) rfl dX3_invMod_166 ?_
                refine lv_aload_n hx hb dX3_invMod_169 rfl (lv_at hl 0 rfl) ?_
                refine q_get (C := RX3) (T := TX3) (v := .ref (g.P 8)) hx hb hts hown (fun _ h9 => iw_X3_invMod_X3 _ h9) hW (i := 3) (by decide) rfl rfl 7 (by decide) (hts (.fieldLink RX3 22 "ModEngineModel" "result" "[J") (by decide +kernel)) rfl dX3_invMod_170 ?_
                refine q_v (q_runV (As := [.ref (g.P 11), .ref (g.P 8)]) (rest := []) (i := 3) S hW (by decide) rfl rfl (n_difference l g hg (σ.setJ J24) hM0 hM8 n5_24 (by decide) (by decide) (by decide) n11_24 n8_24 hI.2.1 hI.1 (by decide)) gX3_invMod_X3_difference rfl (nA := 2) ⟨rfl, by decide +kernel, ⟨by decide, by decide⟩⟩ rfl hl.1 rfl (Nat.le_of_ble_eq_true rfl) dX3_invMod_173 ⟨Nat.zero_le _, Nat.zero_le _⟩) hW Ad_hi (fun σ25 H locs hp hW => ?_)
                obtain ⟨J25, e25, hg25, hn25⟩ : ∃ J', σ25 = σ.setJ J' ∧ Gr J24 J' [11] ∧ Nb J' 11 (dfm M v u) := hp
                rw [e25] at hW
                have n5_25 := hg25.N (by decide) n5_24
                have n6_25 := hg25.N (by decide) n6_24
                have n8_25 := hg25.N (by decide) n8_24
                have n10_25 := hg25.N (by decide) hn24
                have hA25 : mAbs g (σ.setJ J25) M X := mAbs_keep (σ := σ.setJ J24) hA24 hg25 (by decide)
                refine lv_goto (tgt := 45) hx hb dX3_invMod_176 (by decide) ?_
                exact ih fi (ba - fi) u (dfm M v u) J25 (by omega) hA25 n5_25 n6_25 n10_25 n8_25 hn25 (gInv_swap (gInv_sub hM0 (gInv_swap hI) (by omega))) (by omega) (Or.inl ho1) H locs ls hW (lv_sub hl [0, 1, 2] rfl)
              · have hge := Nat.not_lt.mp (fun z => c5 ((ord_lt er23).mpr z))
                refine lv_aload_n hx hb dX3_invMod_127 rfl (lv_at hl 0 rfl) ?_
                refine q_get (C := RX3) (T := TX3) (v := .ref (g.P 6)) hx hb hts hown (fun _ h9 => iw_X3_invMod_X3 _ h9) hW (i := 3) (by decide) rfl rfl 5 (by decide) (hts (.fieldLink RX3 16 "ModEngineModel" "first" "[J") (by decide +kernel)) rfl dX3_invMod_128 ?_
                refine lv_aload_n hx hb dX3_invMod_131 rfl (lv_at hl 0 rfl) ?_
                refine q_get (C := RX3) (T := TX3) (v := .ref (g.P 10)) hx hb hts hown (fun _ h9 => iw_X3_invMod_X3 _ h9) hW (i := 3) (by decide) rfl rfl 9 (by decide) (hts (.fieldLink RX3 28 "ModEngineModel" "base" "[J") (by decide +kernel)) rfl dX3_invMod_132 ?_
                refine q_v (q_runS (As := [.ref (g.P 6), .ref (g.P 10)]) (rest := []) S hW (n_minus l g hg (σ.setJ J) (by decide) (by decide) h6 h10 hge) gX3_invMod_X3_minus (nA := 2) ⟨rfl, by decide +kernel, ⟨by decide, by decide⟩⟩ rfl hl.1 rfl (Nat.le_of_ble_eq_true rfl) dX3_invMod_135 ⟨Nat.zero_le _, Nat.zero_le _⟩) hW Ad_hi (fun σ24 H locs hp hW => ?_)
                obtain ⟨J24, e24, hg24, hn24⟩ : ∃ J', σ24 = σ.setJ J' ∧ Gr J J' [6] ∧ Nb J' 6 (fi - ba) := hp
                rw [e24] at hW
                have n5_24 := hg24.N (by decide) h5
                have n10_24 := hg24.N (by decide) h10
                have n8_24 := hg24.N (by decide) h8
                have n11_24 := hg24.N (by decide) h11
                have hA24 : mAbs g (σ.setJ J24) M X := mAbs_keep (σ := σ.setJ J) hA hg24 (by decide)
                refine lv_aload_n hx hb dX3_invMod_138 rfl (lv_at hl 0 rfl) ?_
                refine lv_aload_n hx hb dX3_invMod_139 rfl (lv_at hl 0 rfl) ?_
                refine q_get (C := RX3) (T := TX3) (v := .ref (g.P 8)) hx hb hts hown (fun _ h9 => iw_X3_invMod_X3 _ h9) hW (i := 3) (by decide) rfl rfl 7 (by decide) (hts (.fieldLink RX3 22 "ModEngineModel" "result" "[J") (by decide +kernel)) rfl dX3_invMod_140 ?_
                refine lv_aload_n hx hb dX3_invMod_143 rfl (lv_at hl 0 rfl) ?_
                refine q_get (C := RX3) (T := TX3) (v := .ref (g.P 11)) hx hb hts hown (fun _ h9 => iw_X3_invMod_X3 _ h9) hW (i := 3) (by decide) rfl rfl 10 (by decide) (hts (.fieldLink RX3 31 "ModEngineModel" "power" "[J") (by decide +kernel)) rfl dX3_invMod_144 ?_
                refine q_v (q_runV (As := [.ref (g.P 8), .ref (g.P 11)]) (rest := []) (i := 3) S hW (by decide) rfl rfl (n_difference l g hg (σ.setJ J24) hM0 hM8 n5_24 (by decide) (by decide) (by decide) n8_24 n11_24 hI.1 hI.2.1 (by decide)) gX3_invMod_X3_difference rfl (nA := 2) ⟨rfl, by decide +kernel, ⟨by decide, by decide⟩⟩ rfl hl.1 rfl (Nat.le_of_ble_eq_true rfl) dX3_invMod_147 ⟨Nat.zero_le _, Nat.zero_le _⟩) hW Ad_hi (fun σ25 H locs hp hW => ?_)
                obtain ⟨J25, e25, hg25, hn25⟩ : ∃ J', σ25 = σ.setJ J' ∧ Gr J24 J' [8] ∧ Nb J' 8 (dfm M u v) := hp
                rw [e25] at hW
                have n5_25 := hg25.N (by decide) n5_24
                have n10_25 := hg25.N (by decide) n10_24
                have n11_25 := hg25.N (by decide) n11_24
                have n6_25 := hg25.N (by decide) hn24
                have hA25 : mAbs g (σ.setJ J25) M X := mAbs_keep (σ := σ.setJ J24) hA24 hg25 (by decide)
                refine lv_goto (tgt := 45) hx hb dX3_invMod_150 (by decide) ?_
                exact ih (fi - ba) ba (dfm M u v) v J25 (by omega) hA25 n5_25 n6_25 n10_25 hn25 n11_25 (gInv_sub hM0 hI hge) hq (Or.inr ho2) H locs ls hW (lv_sub hl [0, 1, 2] rfl)
            · have ho2 : ba % 2 = 0 := by
                have : ¬ ba % 2 = 1 := fun z => (fa_boolp er22).1.mp c4 (by simp [z])
                omega
              refine lv_aload_n hx hb dX3_invMod_95 rfl (lv_at hl 0 rfl) ?_
              refine q_get (C := RX3) (T := TX3) (v := .ref (g.P 10)) hx hb hts hown (fun _ h9 => iw_X3_invMod_X3 _ h9) hW (i := 3) (by decide) rfl rfl 9 (by decide) (hts (.fieldLink RX3 28 "ModEngineModel" "base" "[J") (by decide +kernel)) rfl dX3_invMod_96 ?_
              refine q_v (q_runS (As := [.ref (g.P 10)]) (rest := []) S hW (n_half l g hg (σ.setJ J) (by decide) h10) gX3_invMod_X3_half (nA := 1) ⟨rfl, by decide +kernel, ⟨by decide, by decide⟩⟩ rfl hl.1 rfl (Nat.le_of_ble_eq_true rfl) dX3_invMod_99 ⟨Nat.zero_le _, Nat.zero_le _⟩) hW Ad_hi (fun σ23 H locs hp hW => ?_)
              obtain ⟨J23, e23, hg23, hn23⟩ : ∃ J', σ23 = σ.setJ J' ∧ Gr J J' [10] ∧ Nb J' 10 (ba / 2) := hp
              rw [e23] at hW
              have n5_23 := hg23.N (by decide) h5
              have n6_23 := hg23.N (by decide) h6
              have n8_23 := hg23.N (by decide) h8
              have n11_23 := hg23.N (by decide) h11
              have hA23 : mAbs g (σ.setJ J23) M X := mAbs_keep (σ := σ.setJ J) hA hg23 (by decide)
              refine lv_aload_n hx hb dX3_invMod_102 rfl (lv_at hl 0 rfl) ?_
              refine lv_aload_n hx hb dX3_invMod_103 rfl (lv_at hl 0 rfl) ?_
              refine q_get (C := RX3) (T := TX3) (v := .ref (g.P 11)) hx hb hts hown (fun _ h9 => iw_X3_invMod_X3 _ h9) hW (i := 3) (by decide) rfl rfl 10 (by decide) (hts (.fieldLink RX3 31 "ModEngineModel" "power" "[J") (by decide +kernel)) rfl dX3_invMod_104 ?_
              refine q_v (q_runV (As := [.ref (g.P 11)]) (rest := []) (i := 3) S hW (by decide) rfl rfl (n_halfOf l g hg (σ.setJ J23) hM0 hM8 n5_23 (by decide) (by decide) n11_23 hI.2.1) gX3_invMod_X3_halfOf rfl (nA := 1) ⟨rfl, by decide +kernel, ⟨by decide, by decide⟩⟩ rfl hl.1 rfl (Nat.le_of_ble_eq_true rfl) dX3_invMod_107 ⟨Nat.zero_le _, Nat.zero_le _⟩) hW Ad_hi (fun σ24 H locs hp hW => ?_)
              obtain ⟨J24, e24, hg24, hn24⟩ : ∃ J', σ24 = σ.setJ J' ∧ Gr J23 J' [11] ∧ Nb J' 11 (hlf M v) := hp
              rw [e24] at hW
              have n5_24 := hg24.N (by decide) n5_23
              have n6_24 := hg24.N (by decide) n6_23
              have n8_24 := hg24.N (by decide) n8_23
              have n10_24 := hg24.N (by decide) hn23
              have hA24 : mAbs g (σ.setJ J24) M X := mAbs_keep (σ := σ.setJ J23) hA23 hg24 (by decide)
              refine lv_goto (tgt := 45) hx hb dX3_invMod_110 (by decide) ?_
              exact ih fi (ba / 2) u (hlf M v) J24 (by omega) hA24 n5_24 n6_24 n10_24 n8_24 hn24 (gInv_swap (gInv_half hM1 (gInv_swap hI) ho2 ho1)) (by omega) (Or.inl ho1) H locs ls hW (lv_sub hl [0, 1, 2] rfl)
          · have ho1 : fi % 2 = 0 := by
              have : ¬ fi % 2 = 1 := fun z => (fa_boolp er21).1.mp c3 (by simp [z])
              omega
            have ho2 : ba % 2 = 1 := by omega
            refine lv_aload_n hx hb dX3_invMod_66 rfl (lv_at hl 0 rfl) ?_
            refine q_get (C := RX3) (T := TX3) (v := .ref (g.P 6)) hx hb hts hown (fun _ h9 => iw_X3_invMod_X3 _ h9) hW (i := 3) (by decide) rfl rfl 5 (by decide) (hts (.fieldLink RX3 16 "ModEngineModel" "first" "[J") (by decide +kernel)) rfl dX3_invMod_67 ?_
            refine q_v (q_runS (As := [.ref (g.P 6)]) (rest := []) S hW (n_half l g hg (σ.setJ J) (by decide) h6) gX3_invMod_X3_half (nA := 1) ⟨rfl, by decide +kernel, ⟨by decide, by decide⟩⟩ rfl hl.1 rfl (Nat.le_of_ble_eq_true rfl) dX3_invMod_70 ⟨Nat.zero_le _, Nat.zero_le _⟩) hW Ad_hi (fun σ22 H locs hp hW => ?_)
            obtain ⟨J22, e22, hg22, hn22⟩ : ∃ J', σ22 = σ.setJ J' ∧ Gr J J' [6] ∧ Nb J' 6 (fi / 2) := hp
            rw [e22] at hW
            have n5_22 := hg22.N (by decide) h5
            have n10_22 := hg22.N (by decide) h10
            have n8_22 := hg22.N (by decide) h8
            have n11_22 := hg22.N (by decide) h11
            have hA22 : mAbs g (σ.setJ J22) M X := mAbs_keep (σ := σ.setJ J) hA hg22 (by decide)
            refine lv_aload_n hx hb dX3_invMod_73 rfl (lv_at hl 0 rfl) ?_
            refine lv_aload_n hx hb dX3_invMod_74 rfl (lv_at hl 0 rfl) ?_
            refine q_get (C := RX3) (T := TX3) (v := .ref (g.P 8)) hx hb hts hown (fun _ h9 => iw_X3_invMod_X3 _ h9) hW (i := 3) (by decide) rfl rfl 7 (by decide) (hts (.fieldLink RX3 22 "ModEngineModel" "result" "[J") (by decide +kernel)) rfl dX3_invMod_75 ?_
            refine q_v (q_runV (As := [.ref (g.P 8)]) (rest := []) (i := 3) S hW (by decide) rfl rfl (n_halfOf l g hg (σ.setJ J22) hM0 hM8 n5_22 (by decide) (by decide) n8_22 hI.1) gX3_invMod_X3_halfOf rfl (nA := 1) ⟨rfl, by decide +kernel, ⟨by decide, by decide⟩⟩ rfl hl.1 rfl (Nat.le_of_ble_eq_true rfl) dX3_invMod_78 ⟨Nat.zero_le _, Nat.zero_le _⟩) hW Ad_hi (fun σ23 H locs hp hW => ?_)
            obtain ⟨J23, e23, hg23, hn23⟩ : ∃ J', σ23 = σ.setJ J' ∧ Gr J22 J' [8] ∧ Nb J' 8 (hlf M u) := hp
            rw [e23] at hW
            have n5_23 := hg23.N (by decide) n5_22
            have n10_23 := hg23.N (by decide) n10_22
            have n11_23 := hg23.N (by decide) n11_22
            have n6_23 := hg23.N (by decide) hn22
            have hA23 : mAbs g (σ.setJ J23) M X := mAbs_keep (σ := σ.setJ J22) hA22 hg23 (by decide)
            refine lv_goto (tgt := 45) hx hb dX3_invMod_81 (by decide) ?_
            exact ih (fi / 2) ba (hlf M u) v J23 (by omega) hA23 n5_23 n6_23 n10_23 hn23 n11_23 (gInv_half hM1 hI ho1 ho2) hq (Or.inr ho2) H locs ls hW (lv_sub hl [0, 1, 2] rfl)
    refine loop (X y % M + M + 1) _ _ _ _ J5 (Nat.lt_succ_self _) hA5 n5_5 n6_5 n10_5 n8_5 hn5 ?_ (by omega) (Or.inr hM1) _ _ ls hW (lv_sub hl [0, 1, 2] rfl)
    refine ⟨by omega, by omega, by rw [Nat.one_mul, Nat.mod_mod], by rw [Nat.zero_mul, Nat.zero_mod, Nat.mod_self], ?_⟩
    rw [← Nat.gcd_rec, Nat.gcd_comm]
  · have hno : ¬ (σ.rm = 1 ∧ isR d g.n ∧ isR a g.n ∧ isR a g.n) := er1.elim (fun z => absurd (z.1.symm.trans c1) (by decide)) (fun z => z.2)
    refine lv_iconst (v := 2) hx hb dX3_invMod_10 (by decide) ?_
    exact fin _ _ _ _ _ _ hW (⟨⟨rfl, rfl, rfl⟩, M, X, ha, hc, ⟨Or.inr ⟨fun z => hno ⟨z.1, z.2.1, z.2.2, z.2.2⟩, rfl, rfl⟩, rfl, rfl⟩⟩) dX3_invMod_11
set_option maxHeartbeats 4000000 in
set_option maxRecDepth 100000 in
/-- reference: compare(a, b) -/
theorem n_compare (l : Launch) (g : qCfg) (hg : g.ok) (σ : qSt) {M : Nat} {X : Nat → Nat} (ha : mAbs g σ M X) (hc : mInv σ M) (d a : Int32) : qCI l g yX3_compare wsX3_compare 1 23 [.ref (g.P 3), .int d, .int a] σ (mPost g σ (sCmp g.n d a M X σ.rm)) := by
  refine q_sI (cc := cX3_compare) (maxL := 3) (by decide) rfl (Nat.le_of_ble_eq_true rfl) ?_
  intro p e s m args below meth c ls Q S hW hl fin
  obtain ⟨hx, hb, hml, hown, hts, hr, hlocks⟩ := id S
  obtain ⟨hk1, hk8, hn1, hn8⟩ := id hg
  have hl : lv_has ls 3 [(0, .ref (g.P 3)), (1, .int d), (2, .int a)] := hl
  refine lv_aload_n hx hb dX3_compare_0 rfl (lv_at hl 0 rfl) ?_
  refine lv_iload_n hx hb dX3_compare_1 rfl (lv_at hl 1 rfl) ?_
  refine q_i (q_runV (As := [.int d]) (rest := []) (i := 3) S hW (by decide) rfl rfl (n_isRegister l g hg σ d) gX3_compare_X3_isRegister rfl (nA := 1) ⟨rfl, by decide +kernel, ⟨by decide, by decide⟩⟩ rfl hl.1 rfl (Nat.le_of_ble_eq_true rfl) dX3_compare_2 ⟨Nat.zero_le _, Nat.zero_le _⟩) hW Ad_hi (fun r_2 σ1 H locs hp hW => ?_)
  obtain ⟨e1, er1⟩ : σ1 = σ ∧ (r_2 = 1 ∧ isR d g.n ∨ r_2 = 0 ∧ ¬ isR d g.n) := hp
  rw [e1] at hW
  refine lv_if_eq (tgt := 16) hx hb dX3_compare_5 (by decide) (fun c1 => ?_) (fun c1 => ?_)
  · have hno : ¬ isR d g.n := er1.elim (fun z => absurd (z.1.symm.trans c1) (by decide)) (fun z => z.2)
    refine lv_iconst (v := 2) hx hb dX3_compare_16 (by decide) ?_
    exact fin _ _ _ _ _ _ hW (⟨⟨rfl, rfl, rfl⟩, M, X, ha, hc, ⟨Or.inr ⟨fun q => hno q.1, rfl⟩, rfl, rfl, rfl⟩⟩) dX3_compare_17
  · obtain ⟨y, hy, ey⟩ : isR d g.n := er1.elim (fun z => z.2) (fun z => absurd z.1 c1)
    refine lv_aload_n hx hb dX3_compare_8 rfl (lv_at hl 0 rfl) ?_
    refine lv_iload_n hx hb dX3_compare_9 rfl (lv_at hl 2 rfl) ?_
    refine q_i (q_runV (As := [.int a]) (rest := []) (i := 3) S hW (by decide) rfl rfl (n_isRegister l g hg σ a) gX3_compare_X3_isRegister rfl (nA := 1) ⟨rfl, by decide +kernel, ⟨by decide, by decide⟩⟩ rfl hl.1 rfl (Nat.le_of_ble_eq_true rfl) dX3_compare_10 ⟨Nat.zero_le _, Nat.zero_le _⟩) hW Ad_hi (fun r_10 σ2 H locs hp hW => ?_)
    obtain ⟨e2, er2⟩ : σ2 = σ ∧ (r_10 = 1 ∧ isR a g.n ∨ r_10 = 0 ∧ ¬ isR a g.n) := hp
    rw [e2] at hW
    refine lv_if_ne (tgt := 18) hx hb dX3_compare_13 (by decide) (fun c2 => ?_) (fun c2 => ?_)
    · obtain ⟨z, hz, ez⟩ : isR a g.n := er2.elim (fun z => z.2) (fun z => absurd z.1 c2)
      refine lv_aload_n hx hb dX3_compare_18 rfl (lv_at hl 0 rfl) ?_
      refine lv_aload_n hx hb dX3_compare_19 rfl (lv_at hl 0 rfl) ?_
      refine q_get (C := RX3) (T := TX3) (v := .ref (g.P 6)) hx hb hts hown (fun _ h9 => iw_X3_compare_X3 _ h9) hW (i := 3) (by decide) rfl rfl 5 (by decide) (hts (.fieldLink RX3 16 "ModEngineModel" "first" "[J") (by decide +kernel)) rfl dX3_compare_20 ?_
      refine lv_aload_n hx hb dX3_compare_23 rfl (lv_at hl 0 rfl) ?_
      refine lv_iload_n hx hb dX3_compare_24 rfl (lv_at hl 1 rfl) ?_
      refine q_i (q_runV (As := [.int d]) (rest := [.ref (g.P 6), .ref (g.P 3)]) (i := 3) S hW (by decide) rfl rfl (n_placeOf l g hg σ (x := d) ey) gX3_compare_X3_placeOf rfl (nA := 1) ⟨rfl, by decide +kernel, ⟨by decide, by decide⟩⟩ rfl hl.1 rfl (Nat.le_of_ble_eq_true rfl) dX3_compare_25 ⟨Nat.zero_le _, Nat.zero_le _⟩) hW Ad_hi (fun r_25 σ3 H locs hp hW => ?_)
      obtain ⟨e3, er3⟩ : σ3 = σ ∧ r_25 = nI (9 * y) := hp
      rw [e3] at hW
      refine q_ti (y := nI (9 * y)) er3 ?_
      refine q_v (q_runV (As := [.ref (g.P 6), .int (nI (9 * y))]) (rest := []) (i := 3) S hW (by decide) rfl rfl (n_read l g hg σ (i := 6) (q := 9 * y) (by decide) (by omega)) gX3_compare_X3_read rfl (nA := 2) ⟨rfl, by decide +kernel, ⟨by decide, by decide⟩⟩ rfl hl.1 rfl (Nat.le_of_ble_eq_true rfl) dX3_compare_28 ⟨Nat.zero_le _, Nat.zero_le _⟩) hW Ad_hi (fun σ4 H locs hp hW => ?_)
      obtain ⟨J4, e4, hg4, hcp4⟩ : ∃ J', σ4 = σ.setJ J' ∧ Gr σ.J J' [6] ∧ ∀ x, x < 9 → J' 6 x = σ.J 4 (9 * y + x) := hp
      rw [e4] at hW
      have hn4 : Nb J4 6 (X y) := Nh.rd ((ha.2.2 y hy).1) hcp4
      have hA4 := mAbs_keep ha hg4 (by decide)
      refine lv_aload_n hx hb dX3_compare_31 rfl (lv_at hl 0 rfl) ?_
      refine lv_aload_n hx hb dX3_compare_32 rfl (lv_at hl 0 rfl) ?_
      refine q_get (C := RX3) (T := TX3) (v := .ref (g.P 7)) hx hb hts hown (fun _ h9 => iw_X3_compare_X3 _ h9) hW (i := 3) (by decide) rfl rfl 6 (by decide) (hts (.fieldLink RX3 19 "ModEngineModel" "second" "[J") (by decide +kernel)) rfl dX3_compare_33 ?_
      refine lv_aload_n hx hb dX3_compare_36 rfl (lv_at hl 0 rfl) ?_
      refine lv_iload_n hx hb dX3_compare_37 rfl (lv_at hl 2 rfl) ?_
      refine q_i (q_runV (As := [.int a]) (rest := [.ref (g.P 7), .ref (g.P 3)]) (i := 3) S hW (by decide) rfl rfl (n_placeOf l g hg (σ.setJ J4) (x := a) ez) gX3_compare_X3_placeOf rfl (nA := 1) ⟨rfl, by decide +kernel, ⟨by decide, by decide⟩⟩ rfl hl.1 rfl (Nat.le_of_ble_eq_true rfl) dX3_compare_38 ⟨Nat.zero_le _, Nat.zero_le _⟩) hW Ad_hi (fun r_38 σ5 H locs hp hW => ?_)
      obtain ⟨e5, er5⟩ : σ5 = σ.setJ J4 ∧ r_38 = nI (9 * z) := hp
      rw [e5] at hW
      refine q_ti (y := nI (9 * z)) er5 ?_
      have hzz : Nh J4 z (X z) := (hA4.2.2 z hz).1
      refine q_v (q_runV (As := [.ref (g.P 7), .int (nI (9 * z))]) (rest := []) (i := 3) S hW (by decide) rfl rfl (n_read l g hg (σ.setJ J4) (i := 7) (q := 9 * z) (by decide) (by omega)) gX3_compare_X3_read rfl (nA := 2) ⟨rfl, by decide +kernel, ⟨by decide, by decide⟩⟩ rfl hl.1 rfl (Nat.le_of_ble_eq_true rfl) dX3_compare_41 ⟨Nat.zero_le _, Nat.zero_le _⟩) hW Ad_hi (fun σ6 H locs hp hW => ?_)
      obtain ⟨J6, e6, hg6, hcp6⟩ : ∃ J', σ6 = σ.setJ J' ∧ Gr J4 J' [7] ∧ ∀ x, x < 9 → J' 7 x = J4 4 (9 * z + x) := hp
      rw [e6] at hW
      have hn6 : Nb J6 7 (X z) := Nh.rd hzz hcp6
      have n6_6 := hg6.N (by decide) hn4
      have hA6 : mAbs g (σ.setJ J6) M X := mAbs_keep (σ := σ.setJ J4) hA4 hg6 (by decide)
      refine lv_aload_n hx hb dX3_compare_44 rfl (lv_at hl 0 rfl) ?_
      refine q_get (C := RX3) (T := TX3) (v := .ref (g.P 6)) hx hb hts hown (fun _ h9 => iw_X3_compare_X3 _ h9) hW (i := 3) (by decide) rfl rfl 5 (by decide) (hts (.fieldLink RX3 16 "ModEngineModel" "first" "[J") (by decide +kernel)) rfl dX3_compare_45 ?_
      refine lv_aload_n hx hb dX3_compare_48 rfl (lv_at hl 0 rfl) ?_
      refine q_get (C := RX3) (T := TX3) (v := .ref (g.P 7)) hx hb hts hown (fun _ h9 => iw_X3_compare_X3 _ h9) hW (i := 3) (by decide) rfl rfl 6 (by decide) (hts (.fieldLink RX3 19 "ModEngineModel" "second" "[J") (by decide +kernel)) rfl dX3_compare_49 ?_
      refine q_i (q_runS (As := [.ref (g.P 6), .ref (g.P 7)]) (rest := []) S hW (n_compared l g hg (σ.setJ J6) (by decide) (by decide) n6_6 hn6) gX3_compare_X3_compared (nA := 2) ⟨rfl, by decide +kernel, ⟨by decide, by decide⟩⟩ rfl hl.1 rfl (Nat.le_of_ble_eq_true rfl) dX3_compare_52 ⟨Nat.zero_le _, Nat.zero_le _⟩) hW Ad_hi (fun r_52 σ7 H locs hp hW => ?_)
      obtain ⟨e7, er7⟩ : σ7 = σ.setJ J6 ∧ r_52 = if (X y) < (X z) then -1 else if (X y) = (X z) then 0 else 1 := hp
      rw [e7] at hW
      exact fin _ _ _ _ _ _ hW (⟨⟨rfl, rfl, rfl⟩, M, X, hA6, hc, Or.inl ⟨y, z, hy, hz, ey, ez, er7⟩, rfl, rfl, rfl⟩) dX3_compare_55
    · have hno : ¬ isR a g.n := er2.elim (fun z => absurd (z.1.symm.trans c2) (by decide)) (fun z => z.2)
      refine lv_iconst (v := 2) hx hb dX3_compare_16 (by decide) ?_
      exact fin _ _ _ _ _ _ hW (⟨⟨rfl, rfl, rfl⟩, M, X, ha, hc, ⟨Or.inr ⟨fun q => hno q.2, rfl⟩, rfl, rfl, rfl⟩⟩) dX3_compare_17
