theorem iw_X1_bringBelow_X1 : ∀ w ∈ wsX10, w ∈ wsX1_bringBelow := by decide +kernel
theorem iw_X1_addBelow_X1 : ∀ w ∈ wsX10, w ∈ wsX1_addBelow := by decide +kernel
theorem iw_X1_subtractBelow_X1 : ∀ w ∈ wsX10, w ∈ wsX1_subtractBelow := by decide +kernel
theorem iw_X1_halveBelow_X1 : ∀ w ∈ wsX10, w ∈ wsX1_halveBelow := by decide +kernel
theorem iw_X1_doubleOften_X1 : ∀ w ∈ wsX10, w ∈ wsX1_doubleOften := by decide +kernel
theorem iw_X1_hasFitModulus_X1 : ∀ w ∈ wsX10, w ∈ wsX1_hasFitModulus := by decide +kernel
theorem iw_X1_prepare_X1 : ∀ w ∈ wsX10, w ∈ wsX1_prepare := by decide +kernel
theorem iw_X1_montgomery_X1 : ∀ w ∈ wsX10, w ∈ wsX1_montgomery := by decide +kernel
theorem iw_X1_residue_X1 : ∀ w ∈ wsX10, w ∈ wsX1_residue := by decide +kernel
set_option maxHeartbeats 4000000 in
set_option maxRecDepth 100000 in
/-- Ring.bringBelow(row, top) -/
theorem r_bringBelow (l : Launch) (g : qCfg) (hg : g.ok) (σ : qSt) {i : Nat} (hi : 12 ≤ i ∧ i < g.N)(hne : i ≠ 12) {t : Nat} (ht : t ≤ 1) (hv : qV g σ.F i + t * 2 ^ (32 * g.k) < 2 * qV g σ.F 12) : qCV l g yX1_bringBelow wsX1_bringBelow 1 26 [.ref (g.P 1), .ref (g.P i), .long (lN t)] σ (fun σ' => ∃ F', σ' = σ.setF F' ∧ Fr σ.F F' [i] ∧ qV g F' i = (qV g σ.F i + t * 2 ^ (32 * g.k)) % qV g σ.F 12) := by
  refine q_sV (cc := cX1_bringBelow) (maxL := 4) (by decide) rfl (Nat.le_of_ble_eq_true rfl) ?_
  intro p e s m args below meth c ls Q S hW hl fin
  obtain ⟨hx, hb, hml, hown, hts, hr, hlocks⟩ := id S
  obtain ⟨hk1, hk8, hn1, hn8⟩ := id hg
  have hl : lv_has ls 4 [(0, .ref (g.P 1)), (1, .ref (g.P i)), (2, .long (lN t))] := hl
  refine lv_lload_n hx hb dX1_bringBelow_0 rfl (lv_at hl 2 rfl) ?_
  refine lv_lconst (v := 0) hx hb dX1_bringBelow_1 (by decide) ?_
  refine W.lcmp hx hb dX1_bringBelow_2 ?_
  refine lv_if_ne (tgt := 21) hx hb dX1_bringBelow_3 (by decide) (fun c1 => ?_) (fun c1 => ?_)
  · have h0 : t ≠ 0 := fun q => c1 ((lcmp_0 (by omega)).mpr q)
    refine lv_aload_n hx hb dX1_bringBelow_21 rfl (lv_at hl 1 rfl) ?_
    refine lv_aload_n hx hb dX1_bringBelow_22 rfl (lv_at hl 1 rfl) ?_
    refine lv_aload_n hx hb dX1_bringBelow_23 rfl (lv_at hl 0 rfl) ?_
    refine q_get (C := RX1) (T := TX1) (v := .ref (g.P 12)) hx hb hts hown (fun _ h9 => iw_X1_bringBelow_X1 _ h9) hW (i := 1) (by decide) rfl rfl 0 (by decide) (hts (.fieldLink RX1 18 "ModEngine$Ring" "modulus" "[I") (by decide +kernel)) rfl dX1_bringBelow_24 ?_
    refine lv_aload_n hx hb dX1_bringBelow_27 rfl (lv_at hl 0 rfl) ?_
    refine q_get (C := RX1) (T := TX1) (v := .int (nI g.k)) hx hb hts hown (fun _ h9 => iw_X1_bringBelow_X1 _ h9) hW (i := 1) (by decide) rfl rfl 1 (by decide) (hts (.fieldLink RX1 9 "ModEngine$Ring" "k" "I") (by decide +kernel)) rfl dX1_bringBelow_28 ?_
    refine q_i (q_runS (As := [.ref (g.P i), .ref (g.P i), .ref (g.P 12), .int (nI g.k)]) (rest := []) S hW (k_subtract l g hg σ hi hi (rowk (by decide))) gX1_bringBelow_X0_subtract (nA := 4) ⟨rfl, by decide +kernel, ⟨by decide, by decide⟩⟩ rfl hl.1 rfl (Nat.le_of_ble_eq_true rfl) dX1_bringBelow_31 ⟨Nat.zero_le _, Nat.zero_le _⟩) hW Ad_hi (fun r_31 σ1 H locs hp hW => ?_)
    obtain ⟨F1, c1, e1, hf1, hc1, er1, hv1⟩ : ∃ F', ∃ c, σ1 = σ.setF F' ∧ Fr σ.F F' [i] ∧ c ≤ 1 ∧ r_31 = nI c ∧ qV g F' i + qV g σ.F 12 = qV g σ.F i + c * 2 ^ (32 * g.k) := hp
    rw [e1] at hW
    refine q_ti (y := nI c1) er1 ?_
    refine lv_pop hx hb dX1_bringBelow_34 rfl ?_
    exact fin _ _ _ _ _ hW (⟨F1, rfl, hf1, bring_num qV_lt ht hv (Or.inl h0) hv1 hc1 qV_lt⟩) dX1_bringBelow_35
  · have h0 : t = 0 := (lcmp_0 (by omega)).mp c1
    subst h0
    refine lv_aload_n hx hb dX1_bringBelow_6 rfl (lv_at hl 1 rfl) ?_
    refine lv_aload_n hx hb dX1_bringBelow_7 rfl (lv_at hl 0 rfl) ?_
    refine q_get (C := RX1) (T := TX1) (v := .ref (g.P 12)) hx hb hts hown (fun _ h9 => iw_X1_bringBelow_X1 _ h9) hW (i := 1) (by decide) rfl rfl 0 (by decide) (hts (.fieldLink RX1 18 "ModEngine$Ring" "modulus" "[I") (by decide +kernel)) rfl dX1_bringBelow_8 ?_
    refine lv_aload_n hx hb dX1_bringBelow_11 rfl (lv_at hl 0 rfl) ?_
    refine q_get (C := RX1) (T := TX1) (v := .int (nI g.k)) hx hb hts hown (fun _ h9 => iw_X1_bringBelow_X1 _ h9) hW (i := 1) (by decide) rfl rfl 1 (by decide) (hts (.fieldLink RX1 9 "ModEngine$Ring" "k" "I") (by decide +kernel)) rfl dX1_bringBelow_12 ?_
    refine q_i (q_runS (As := [.ref (g.P i), .ref (g.P 12), .int (nI g.k)]) (rest := []) S hW (k_order l g hg σ hi (rowk (by decide))) gX1_bringBelow_X0_order (nA := 3) ⟨rfl, by decide +kernel, ⟨by decide, by decide⟩⟩ rfl hl.1 rfl (Nat.le_of_ble_eq_true rfl) dX1_bringBelow_15 ⟨Nat.zero_le _, Nat.zero_le _⟩) hW Ad_hi (fun r_15 σ1 H locs hp hW => ?_)
    obtain ⟨e1, er1⟩ : σ1 = σ ∧ r_15 = if qV g σ.F i < qV g σ.F 12 then -1 else if qV g σ.F i = qV g σ.F 12 then 0 else 1 := hp
    rw [e1] at hW
    refine lv_if_lt (tgt := 35) hx hb dX1_bringBelow_18 (by decide) (fun c2 => ?_) (fun c2 => ?_)
    · have h1 := (ord_lt er1).mp c2
      exact fin _ _ _ _ _ hW (⟨σ.F, rfl, Fr.rf, by rw [Nat.zero_mul, Nat.add_zero, Nat.mod_eq_of_lt h1]⟩) dX1_bringBelow_35
    · have h1 : ¬ qV g σ.F i < qV g σ.F 12 := fun q => c2 ((ord_lt er1).mpr q)
      refine lv_aload_n hx hb dX1_bringBelow_21 rfl (lv_at hl 1 rfl) ?_
      refine lv_aload_n hx hb dX1_bringBelow_22 rfl (lv_at hl 1 rfl) ?_
      refine lv_aload_n hx hb dX1_bringBelow_23 rfl (lv_at hl 0 rfl) ?_
      refine q_get (C := RX1) (T := TX1) (v := .ref (g.P 12)) hx hb hts hown (fun _ h9 => iw_X1_bringBelow_X1 _ h9) hW (i := 1) (by decide) rfl rfl 0 (by decide) (hts (.fieldLink RX1 18 "ModEngine$Ring" "modulus" "[I") (by decide +kernel)) rfl dX1_bringBelow_24 ?_
      refine lv_aload_n hx hb dX1_bringBelow_27 rfl (lv_at hl 0 rfl) ?_
      refine q_get (C := RX1) (T := TX1) (v := .int (nI g.k)) hx hb hts hown (fun _ h9 => iw_X1_bringBelow_X1 _ h9) hW (i := 1) (by decide) rfl rfl 1 (by decide) (hts (.fieldLink RX1 9 "ModEngine$Ring" "k" "I") (by decide +kernel)) rfl dX1_bringBelow_28 ?_
      refine q_i (q_runS (As := [.ref (g.P i), .ref (g.P i), .ref (g.P 12), .int (nI g.k)]) (rest := []) S hW (k_subtract l g hg σ hi hi (rowk (by decide))) gX1_bringBelow_X0_subtract (nA := 4) ⟨rfl, by decide +kernel, ⟨by decide, by decide⟩⟩ rfl hl.1 rfl (Nat.le_of_ble_eq_true rfl) dX1_bringBelow_31 ⟨Nat.zero_le _, Nat.zero_le _⟩) hW Ad_hi (fun r_31 σ2 H locs hp hW => ?_)
      obtain ⟨F2, c2, e2, hf2, hc2, er2, hv2⟩ : ∃ F', ∃ c, σ2 = σ.setF F' ∧ Fr σ.F F' [i] ∧ c ≤ 1 ∧ r_31 = nI c ∧ qV g F' i + qV g σ.F 12 = qV g σ.F i + c * 2 ^ (32 * g.k) := hp
      rw [e2] at hW
      refine q_ti (y := nI c2) er2 ?_
      refine lv_pop hx hb dX1_bringBelow_34 rfl ?_
      exact fin _ _ _ _ _ hW (⟨F2, rfl, hf2, bring_num qV_lt ht hv (Or.inr (Nat.not_lt.mp h1)) hv2 hc2 qV_lt⟩) dX1_bringBelow_35
set_option maxHeartbeats 4000000 in
set_option maxRecDepth 100000 in
/-- Ring.addBelow(into, a, b) -/
theorem r_addBelow (l : Launch) (g : qCfg) (hg : g.ok) (σ : qSt) {i j r : Nat} (hi : 12 ≤ i ∧ i < g.N)(hj : 12 ≤ j ∧ j < g.N)(hrr : 12 ≤ r ∧ r < g.N) (hne : i ≠ 12) (hvj : qV g σ.F j < qV g σ.F 12) (hvr : qV g σ.F r < qV g σ.F 12) : qCV l g yX1_addBelow wsX1_addBelow 2 49 [.ref (g.P 1), .ref (g.P i), .ref (g.P j), .ref (g.P r)] σ (fun σ' => ∃ F', σ' = σ.setF F' ∧ Fr σ.F F' [i] ∧ qV g F' i = (qV g σ.F j + qV g σ.F r) % qV g σ.F 12) := by
  refine q_sV (cc := cX1_addBelow) (maxL := 6) (by decide) rfl (Nat.le_of_ble_eq_true rfl) ?_
  intro p e s m args below meth c ls Q S hW hl fin
  obtain ⟨hx, hb, hml, hown, hts, hr, hlocks⟩ := id S
  obtain ⟨hk1, hk8, hn1, hn8⟩ := id hg
  have hl : lv_has ls 6 [(0, .ref (g.P 1)), (1, .ref (g.P i)), (2, .ref (g.P j)), (3, .ref (g.P r))] := hl
  refine lv_aload_n hx hb dX1_addBelow_0 rfl (lv_at hl 1 rfl) ?_
  refine lv_aload_n hx hb dX1_addBelow_1 rfl (lv_at hl 2 rfl) ?_
  refine lv_aload_n hx hb dX1_addBelow_2 rfl (lv_at hl 3 rfl) ?_
  refine lv_aload_n hx hb dX1_addBelow_3 rfl (lv_at hl 0 rfl) ?_
  refine q_get (C := RX1) (T := TX1) (v := .int (nI g.k)) hx hb hts hown (fun _ h9 => iw_X1_addBelow_X1 _ h9) hW (i := 1) (by decide) rfl rfl 1 (by decide) (hts (.fieldLink RX1 9 "ModEngine$Ring" "k" "I") (by decide +kernel)) rfl dX1_addBelow_4 ?_
  refine q_l (q_runS (As := [.ref (g.P i), .ref (g.P j), .ref (g.P r), .int (nI g.k)]) (rest := []) S hW (k_add l g hg σ hi hj hrr) gX1_addBelow_X0_add (nA := 4) ⟨rfl, by decide +kernel, ⟨by decide, by decide⟩⟩ rfl hl.1 rfl (Nat.le_of_ble_eq_true rfl) dX1_addBelow_7 ⟨Nat.zero_le _, Nat.zero_le _⟩) hW Ad_hi (fun r_7 σ1 H locs hp hW => ?_)
  obtain ⟨F1, c1, e1, hf1, hc1, er1, hv1⟩ : ∃ F', ∃ c, σ1 = σ.setF F' ∧ Fr σ.F F' [i] ∧ c ≤ 1 ∧ r_7 = lN c ∧ qV g F' i + c * 2 ^ (32 * g.k) = qV g σ.F j + qV g σ.F r := hp
  rw [e1] at hW
  refine q_tl (y := lN c1) er1 ?_
  refine lv_lstore (lv' := [(4, .long (lN c1)), (0, .ref (g.P 1)), (1, .ref (g.P i)), (2, .ref (g.P j)), (3, .ref (g.P r))]) hx hb dX1_addBelow_10 hl (by decide) rfl (fun ls hl => ?_)
  refine lv_aload_n hx hb dX1_addBelow_12 rfl (lv_at hl 1 rfl) ?_
  refine lv_aload_n hx hb dX1_addBelow_13 rfl (lv_at hl 2 rfl) ?_
  refine lv_lload hx hb dX1_addBelow_14 (lv_at hl 0 rfl) ?_
  have hm : qV g F1 12 = qV g σ.F 12 := hf1.V (by simp; exact Ne.symm hne)
  refine q_v (q_runV (As := [.ref (g.P i), .long (lN c1)]) (rest := []) (i := 1) S hW (by decide) rfl rfl (r_bringBelow l g hg (σ.setF F1) hi hne hc1 (by show qV g F1 i + _ < 2 * qV g F1 12; rw [hm]; omega)) gX1_addBelow_X1_bringBelow rfl (nA := 2) ⟨rfl, by decide +kernel, ⟨by decide, by decide⟩⟩ rfl hl.1 rfl (Nat.le_of_ble_eq_true rfl) dX1_addBelow_16 ⟨Nat.zero_le _, Nat.zero_le _⟩) hW Ad_hi (fun σ2 H locs hp hW => ?_)
  obtain ⟨F2, e2, hf2, hv2⟩ : ∃ F', σ2 = σ.setF F' ∧ Fr F1 F' [i] ∧ qV g F' i = (qV g F1 i + c1 * 2 ^ (32 * g.k)) % qV g F1 12 := hp
  rw [e2] at hW
  exact fin _ _ _ _ _ hW (⟨F2, rfl, fun r hr => by rw [hf2 r hr, hf1 r hr], by rw [hv2, hm, hv1]⟩) dX1_addBelow_19
set_option maxHeartbeats 4000000 in
set_option maxRecDepth 100000 in
/-- Ring.subtractBelow(into, a, b) -/
theorem r_subtractBelow (l : Launch) (g : qCfg) (hg : g.ok) (σ : qSt) {i j r : Nat} (hi : 12 ≤ i ∧ i < g.N)(hj : 12 ≤ j ∧ j < g.N)(hrr : 12 ≤ r ∧ r < g.N) (hne : i ≠ 12) (hle : qV g σ.F r ≤ qV g σ.F j + qV g σ.F 12) : qCV l g yX1_subtractBelow wsX1_subtractBelow 1 26 [.ref (g.P 1), .ref (g.P i), .ref (g.P j), .ref (g.P r)] σ (fun σ' => ∃ F', σ' = σ.setF F' ∧ Fr σ.F F' [i] ∧ qV g F' i = if qV g σ.F r ≤ qV g σ.F j then qV g σ.F j - qV g σ.F r else qV g σ.F j + qV g σ.F 12 - qV g σ.F r) := by
  refine q_sV (cc := cX1_subtractBelow) (maxL := 4) (by decide) rfl (Nat.le_of_ble_eq_true rfl) ?_
  intro p e s m args below meth c ls Q S hW hl fin
  obtain ⟨hx, hb, hml, hown, hts, hr, hlocks⟩ := id S
  obtain ⟨hk1, hk8, hn1, hn8⟩ := id hg
  have hl : lv_has ls 4 [(0, .ref (g.P 1)), (1, .ref (g.P i)), (2, .ref (g.P j)), (3, .ref (g.P r))] := hl
  refine lv_aload_n hx hb dX1_subtractBelow_0 rfl (lv_at hl 1 rfl) ?_
  refine lv_aload_n hx hb dX1_subtractBelow_1 rfl (lv_at hl 2 rfl) ?_
  refine lv_aload_n hx hb dX1_subtractBelow_2 rfl (lv_at hl 3 rfl) ?_
  refine lv_aload_n hx hb dX1_subtractBelow_3 rfl (lv_at hl 0 rfl) ?_
  refine q_get (C := RX1) (T := TX1) (v := .int (nI g.k)) hx hb hts hown (fun _ h9 => iw_X1_subtractBelow_X1 _ h9) hW (i := 1) (by decide) rfl rfl 1 (by decide) (hts (.fieldLink RX1 9 "ModEngine$Ring" "k" "I") (by decide +kernel)) rfl dX1_subtractBelow_4 ?_
  refine q_i (q_runS (As := [.ref (g.P i), .ref (g.P j), .ref (g.P r), .int (nI g.k)]) (rest := []) S hW (k_subtract l g hg σ hi hj hrr) gX1_subtractBelow_X0_subtract (nA := 4) ⟨rfl, by decide +kernel, ⟨by decide, by decide⟩⟩ rfl hl.1 rfl (Nat.le_of_ble_eq_true rfl) dX1_subtractBelow_7 ⟨Nat.zero_le _, Nat.zero_le _⟩) hW Ad_hi (fun r_7 σ1 H locs hp hW => ?_)
  obtain ⟨F1, c1, e1, hf1, hc1, er1, hv1⟩ : ∃ F', ∃ c, σ1 = σ.setF F' ∧ Fr σ.F F' [i] ∧ c ≤ 1 ∧ r_7 = nI c ∧ qV g F' i + qV g σ.F r = qV g σ.F j + c * 2 ^ (32 * g.k) := hp
  rw [e1] at hW
  refine q_ti (y := nI c1) er1 ?_
  have hm : qV g F1 12 = qV g σ.F 12 := hf1.V (by simp; exact Ne.symm hne)
  refine lv_if_eq (tgt := 27) hx hb dX1_subtractBelow_10 (by decide) (fun c9 => ?_) (fun c9 => ?_)
  · have h0 : c1 = 0 := (nI_eq (by omega) (by decide)).mp (c9.trans nI_0.symm)
    exact fin _ _ _ _ _ hW (⟨F1, rfl, hf1, subb_num (c2 := 0) qV_lt qV_lt hv1 hc1 qV_lt hle qV_lt (Or.inl ⟨h0, rfl⟩)⟩) dX1_subtractBelow_27
  · have h0 : c1 = 1 := by
      rcases (show c1 = 0 ∨ c1 = 1 by omega) with q | q
      · exact absurd (by rw [q]; rfl) c9
      · exact q
    refine lv_aload_n hx hb dX1_subtractBelow_13 rfl (lv_at hl 1 rfl) ?_
    refine lv_aload_n hx hb dX1_subtractBelow_14 rfl (lv_at hl 1 rfl) ?_
    refine lv_aload_n hx hb dX1_subtractBelow_15 rfl (lv_at hl 0 rfl) ?_
    refine q_get (C := RX1) (T := TX1) (v := .ref (g.P 12)) hx hb hts hown (fun _ h9 => iw_X1_subtractBelow_X1 _ h9) hW (i := 1) (by decide) rfl rfl 0 (by decide) (hts (.fieldLink RX1 18 "ModEngine$Ring" "modulus" "[I") (by decide +kernel)) rfl dX1_subtractBelow_16 ?_
    refine lv_aload_n hx hb dX1_subtractBelow_19 rfl (lv_at hl 0 rfl) ?_
    refine q_get (C := RX1) (T := TX1) (v := .int (nI g.k)) hx hb hts hown (fun _ h9 => iw_X1_subtractBelow_X1 _ h9) hW (i := 1) (by decide) rfl rfl 1 (by decide) (hts (.fieldLink RX1 9 "ModEngine$Ring" "k" "I") (by decide +kernel)) rfl dX1_subtractBelow_20 ?_
    refine q_l (q_runS (As := [.ref (g.P i), .ref (g.P i), .ref (g.P 12), .int (nI g.k)]) (rest := []) S hW (k_add l g hg (σ.setF F1) hi hi (rowk (by decide))) gX1_subtractBelow_X0_add (nA := 4) ⟨rfl, by decide +kernel, ⟨by decide, by decide⟩⟩ rfl hl.1 rfl (Nat.le_of_ble_eq_true rfl) dX1_subtractBelow_23 ⟨Nat.zero_le _, Nat.zero_le _⟩) hW Ad_hi (fun r_23 σ2 H locs hp hW => ?_)
    obtain ⟨F2, c2, e2, hf2, hc2, er2, hv2⟩ : ∃ F', ∃ c, σ2 = σ.setF F' ∧ Fr F1 F' [i] ∧ c ≤ 1 ∧ r_23 = lN c ∧ qV g F' i + c * 2 ^ (32 * g.k) = qV g F1 i + qV g F1 12 := hp
    rw [e2] at hW
    refine q_tl (y := lN c2) er2 ?_
    refine lv_pop2_2 hx hb dX1_subtractBelow_26 rfl ?_
    exact fin _ _ _ _ _ hW (⟨F2, rfl, fun r hr => by rw [hf2 r hr, hf1 r hr], subb_num (c2 := c2) qV_lt qV_lt hv1 hc1 qV_lt hle qV_lt (Or.inr ⟨h0, by rw [← hm]; exact hv2, hc2, qV_lt⟩)⟩) dX1_subtractBelow_27
set_option maxHeartbeats 4000000 in
set_option maxRecDepth 100000 in
/-- Ring.halveBelow(row) -/
theorem r_halveBelow (l : Launch) (g : qCfg) (hg : g.ok) (σ : qSt) {i : Nat} (hi : 12 ≤ i ∧ i < g.N)(hne : i ≠ 12) : qCV l g yX1_halveBelow wsX1_halveBelow 1 28 [.ref (g.P 1), .ref (g.P i)] σ (fun σ' => ∃ F', σ' = σ.setF F' ∧ Fr σ.F F' [i] ∧ qV g F' i = if qV g σ.F i % 2 = 1 then (qV g σ.F i + qV g σ.F 12) / 2 else qV g σ.F i / 2) := by
  refine q_sV (cc := cX1_halveBelow) (maxL := 4) (by decide) rfl (Nat.le_of_ble_eq_true rfl) ?_
  intro p e s m args below meth c ls Q S hW hl fin
  obtain ⟨hx, hb, hml, hown, hts, hr, hlocks⟩ := id S
  obtain ⟨hk1, hk8, hn1, hn8⟩ := id hg
  have hl : lv_has ls 4 [(0, .ref (g.P 1)), (1, .ref (g.P i))] := hl
  refine lv_aload_n hx hb dX1_halveBelow_0 rfl (lv_at hl 1 rfl) ?_
  refine q_i (q_runS (As := [.ref (g.P i)]) (rest := []) S hW (k_isOdd l g hg σ hi) gX1_halveBelow_X0_isOdd (nA := 1) ⟨rfl, by decide +kernel, ⟨by decide, by decide⟩⟩ rfl hl.1 rfl (Nat.le_of_ble_eq_true rfl) dX1_halveBelow_1 ⟨Nat.zero_le _, Nat.zero_le _⟩) hW Ad_hi (fun r_1 σ1 H locs hp hW => ?_)
  obtain ⟨e1, er1⟩ : σ1 = σ ∧ r_1 = if qV g σ.F i % 2 = 1 then 1 else 0 := hp
  rw [e1] at hW
  refine lv_if_eq (tgt := 23) hx hb dX1_halveBelow_4 (by decide) (fun c9 => ?_) (fun c9 => ?_)
  · have h0 := (fa_boolp er1).1.mp c9
    refine lv_lconst (v := 0) hx hb dX1_halveBelow_23 (by decide) ?_
    refine q_tl (y := lN 0) rfl ?_
    refine lv_lstore_n (lv' := [(2, .long (lN 0)), (0, .ref (g.P 1)), (1, .ref (g.P i))]) hx hb dX1_halveBelow_24 rfl hl (by decide) rfl (fun ls hl => ?_)
    refine lv_aload_n hx hb dX1_halveBelow_25 rfl (lv_at hl 2 rfl) ?_
    refine lv_lload_n hx hb dX1_halveBelow_26 rfl (lv_at hl 0 rfl) ?_
    refine lv_aload_n hx hb dX1_halveBelow_27 rfl (lv_at hl 1 rfl) ?_
    refine q_get (C := RX1) (T := TX1) (v := .int (nI g.k)) hx hb hts hown (fun _ h9 => iw_X1_halveBelow_X1 _ h9) hW (i := 1) (by decide) rfl rfl 1 (by decide) (hts (.fieldLink RX1 9 "ModEngine$Ring" "k" "I") (by decide +kernel)) rfl dX1_halveBelow_28 ?_
    refine q_v (q_runS (As := [.ref (g.P i), .long (lN 0), .int (nI g.k)]) (rest := []) S hW (k_halve l g hg σ hi (t := 0) (by omega)) gX1_halveBelow_X0_halve (nA := 3) ⟨rfl, by decide +kernel, ⟨by decide, by decide⟩⟩ rfl hl.1 rfl (Nat.le_of_ble_eq_true rfl) dX1_halveBelow_31 ⟨Nat.zero_le _, Nat.zero_le _⟩) hW Ad_hi (fun σ2 H locs hp hW => ?_)
    obtain ⟨F2, e2, hf2, hv2⟩ : ∃ F', σ2 = σ.setF F' ∧ Fr σ.F F' [i] ∧ qV g F' i = (qV g σ.F i + 0 * 2 ^ (32 * g.k)) / 2 := hp
    rw [e2] at hW
    exact fin _ _ _ _ _ hW (⟨F2, rfl, hf2, by rw [hv2, if_neg h0, Nat.zero_mul, Nat.add_zero]⟩) dX1_halveBelow_34
  · have h0 := (fa_boolp er1).2.mp c9
    refine lv_aload_n hx hb dX1_halveBelow_7 rfl (lv_at hl 1 rfl) ?_
    refine lv_aload_n hx hb dX1_halveBelow_8 rfl (lv_at hl 1 rfl) ?_
    refine lv_aload_n hx hb dX1_halveBelow_9 rfl (lv_at hl 0 rfl) ?_
    refine q_get (C := RX1) (T := TX1) (v := .ref (g.P 12)) hx hb hts hown (fun _ h9 => iw_X1_halveBelow_X1 _ h9) hW (i := 1) (by decide) rfl rfl 0 (by decide) (hts (.fieldLink RX1 18 "ModEngine$Ring" "modulus" "[I") (by decide +kernel)) rfl dX1_halveBelow_10 ?_
    refine lv_aload_n hx hb dX1_halveBelow_13 rfl (lv_at hl 0 rfl) ?_
    refine q_get (C := RX1) (T := TX1) (v := .int (nI g.k)) hx hb hts hown (fun _ h9 => iw_X1_halveBelow_X1 _ h9) hW (i := 1) (by decide) rfl rfl 1 (by decide) (hts (.fieldLink RX1 9 "ModEngine$Ring" "k" "I") (by decide +kernel)) rfl dX1_halveBelow_14 ?_
    refine q_l (q_runS (As := [.ref (g.P i), .ref (g.P i), .ref (g.P 12), .int (nI g.k)]) (rest := []) S hW (k_add l g hg σ hi hi (rowk (by decide))) gX1_halveBelow_X0_add (nA := 4) ⟨rfl, by decide +kernel, ⟨by decide, by decide⟩⟩ rfl hl.1 rfl (Nat.le_of_ble_eq_true rfl) dX1_halveBelow_17 ⟨Nat.zero_le _, Nat.zero_le _⟩) hW Ad_hi (fun r_17 σ2 H locs hp hW => ?_)
    obtain ⟨F2, c2, e2, hf2, hc2, er2, hv2⟩ : ∃ F', ∃ c, σ2 = σ.setF F' ∧ Fr σ.F F' [i] ∧ c ≤ 1 ∧ r_17 = lN c ∧ qV g F' i + c * 2 ^ (32 * g.k) = qV g σ.F i + qV g σ.F 12 := hp
    rw [e2] at hW
    refine q_tl (y := lN c2) er2 ?_
    refine lv_goto (tgt := 24) hx hb dX1_halveBelow_20 (by decide) ?_
    refine lv_lstore_n (lv' := [(2, .long (lN c2)), (0, .ref (g.P 1)), (1, .ref (g.P i))]) hx hb dX1_halveBelow_24 rfl hl (by decide) rfl (fun ls hl => ?_)
    refine lv_aload_n hx hb dX1_halveBelow_25 rfl (lv_at hl 2 rfl) ?_
    refine lv_lload_n hx hb dX1_halveBelow_26 rfl (lv_at hl 0 rfl) ?_
    refine lv_aload_n hx hb dX1_halveBelow_27 rfl (lv_at hl 1 rfl) ?_
    refine q_get (C := RX1) (T := TX1) (v := .int (nI g.k)) hx hb hts hown (fun _ h9 => iw_X1_halveBelow_X1 _ h9) hW (i := 1) (by decide) rfl rfl 1 (by decide) (hts (.fieldLink RX1 9 "ModEngine$Ring" "k" "I") (by decide +kernel)) rfl dX1_halveBelow_28 ?_
    refine q_v (q_runS (As := [.ref (g.P i), .long (lN c2), .int (nI g.k)]) (rest := []) S hW (k_halve l g hg (σ.setF F2) hi (t := c2) hc2) gX1_halveBelow_X0_halve (nA := 3) ⟨rfl, by decide +kernel, ⟨by decide, by decide⟩⟩ rfl hl.1 rfl (Nat.le_of_ble_eq_true rfl) dX1_halveBelow_31 ⟨Nat.zero_le _, Nat.zero_le _⟩) hW Ad_hi (fun σ3 H locs hp hW => ?_)
    obtain ⟨F3, e3, hf3, hv3⟩ : ∃ F', σ3 = σ.setF F' ∧ Fr F2 F' [i] ∧ qV g F' i = (qV g F2 i + c2 * 2 ^ (32 * g.k)) / 2 := hp
    rw [e3] at hW
    exact fin _ _ _ _ _ hW (⟨F3, rfl, fun r hr => by rw [hf3 r hr, hf2 r hr], by rw [hv3, hv2, if_pos h0]⟩) dX1_halveBelow_34
set_option maxHeartbeats 4000000 in
set_option maxRecDepth 100000 in
/-- Ring.doubleOften(row): 2 to 32 k times the row, modulo the modulus -/
theorem r_doubleOften (l : Launch) (g : qCfg) (hg : g.ok) (σ : qSt) {i : Nat} (hi : 12 ≤ i ∧ i < g.N)(hne : i ≠ 12) (hvi : qV g σ.F i < qV g σ.F 12) : qCV l g yX1_doubleOften wsX1_doubleOften 3 74 [.ref (g.P 1), .ref (g.P i)] σ (fun σ' => ∃ F', σ' = σ.setF F' ∧ Fr σ.F F' [i] ∧ qV g F' i = qV g σ.F i * 2 ^ (32 * g.k) % qV g σ.F 12) := by
  refine q_sV (cc := cX1_doubleOften) (maxL := 3) (by decide) rfl (Nat.le_of_ble_eq_true rfl) ?_
  intro p e s m args below meth c ls Q S hW hl fin
  obtain ⟨hx, hb, hml, hown, hts, hr, hlocks⟩ := id S
  obtain ⟨hk1, hk8, hn1, hn8⟩ := id hg
  have hl : lv_has ls 3 [(0, .ref (g.P 1)), (1, .ref (g.P i))] := hl
  have loop : ∀ (n x : Nat) (F : Nat → Nat → Int32), x ≤ 32 * g.k → 32 * g.k + 1 ≤ x + n → Fr σ.F F [i] → qV g F i = qV g σ.F i * 2 ^ x % qV g σ.F 12 → ∀ (H : Heap) (locs : List Loc) (ls : Array Slot), Wo g (Ad g s.heap.size) s H locs (σ.setF F) → lv_has ls 3 [(2, .int (nI x)), (0, .ref (g.P 1)), (1, .ref (g.P i))] → W p l e (rmm 3 74) s m args below meth c H locs 0 0 Q (F0 m 2 ls []) := by
    intro n
    induction n with
    | zero => intro x F h1 h2; exact absurd h2 (by omega)
    | succ n ih =>
      intro x F hx1 hx2 hf hv H locs ls hW hl
      refine lv_iload_n hx hb dX1_doubleOften_2 rfl (lv_at hl 0 rfl) ?_
      refine lv_aload_n hx hb dX1_doubleOften_3 rfl (lv_at hl 1 rfl) ?_
      refine q_get (C := RX1) (T := TX1) (v := .int (nI (32 * g.k))) hx hb hts hown (fun _ h9 => iw_X1_doubleOften_X1 _ h9) hW (i := 1) (by decide) rfl rfl 2 (by decide) (hts (.fieldLink RX1 15 "ModEngine$Ring" "bits" "I") (by decide +kernel)) rfl dX1_doubleOften_4 ?_
      refine lv_icmp_ge (tgt := 23) hx hb dX1_doubleOften_7 (by decide) (fun c9 => ?_) (fun c9 => ?_)
      · have hx3 := nle c9 (by omega) (by omega)
        have hx4 : x = 32 * g.k := by omega
        rw [hx4] at hv
        exact fin _ _ _ _ _ hW (⟨F, rfl, hf, hv⟩) dX1_doubleOften_23
      · have hx3 := nge c9 (by omega)
        refine lv_aload_n hx hb dX1_doubleOften_10 rfl (lv_at hl 1 rfl) ?_
        refine lv_aload_n hx hb dX1_doubleOften_11 rfl (lv_at hl 2 rfl) ?_
        refine lv_aload_n hx hb dX1_doubleOften_12 rfl (lv_at hl 2 rfl) ?_
        refine lv_aload_n hx hb dX1_doubleOften_13 rfl (lv_at hl 2 rfl) ?_
        have hm : qV g F 12 = qV g σ.F 12 := hf.V (by simp; exact Ne.symm hne)
        have hlt : qV g F i < qV g F 12 := by rw [hv, hm]; exact Nat.mod_lt _ (by omega)
        refine q_v (q_runV (As := [.ref (g.P i), .ref (g.P i), .ref (g.P i)]) (rest := []) (i := 1) S hW (by decide) rfl rfl (r_addBelow l g hg (σ.setF F) hi hi hi hne hlt hlt) gX1_doubleOften_X1_addBelow rfl (nA := 3) ⟨rfl, by decide +kernel, ⟨by decide, by decide⟩⟩ rfl hl.1 rfl (Nat.le_of_ble_eq_true rfl) dX1_doubleOften_14 ⟨Nat.zero_le _, Nat.zero_le _⟩) hW Ad_hi (fun σ1 H locs hp hW => ?_)
        obtain ⟨F1, e1, hf1, hv1⟩ : ∃ F', σ1 = σ.setF F' ∧ Fr F F' [i] ∧ qV g F' i = (qV g F i + qV g F i) % qV g F 12 := hp
        rw [e1] at hW
        refine lv_iinc (v := nI (x + 1)) (lv' := [(2, .int (nI (x + 1))), (0, .ref (g.P 1)), (1, .ref (g.P i))]) hx hb dX1_doubleOften_17 hl (k := 0) rfl (nI_1 _) (by decide) rfl (fun ls hl => ?_)
        refine lv_goto (tgt := 2) hx hb dX1_doubleOften_20 (by decide) ?_
        exact ih (x + 1) F1 (by omega) (by omega) (fun r hr => by rw [hf1 r hr, hf r hr]) (by rw [hv1, hm, hv]; exact dbl_num) H locs ls hW (lv_sub hl [0, 1, 2] rfl)
  refine lv_iconst (v := 0) hx hb dX1_doubleOften_0 (by decide) ?_
  refine lv_istore_n (lv' := [(2, .int 0), (0, .ref (g.P 1)), (1, .ref (g.P i))]) hx hb dX1_doubleOften_1 rfl hl (by decide) rfl (fun ls hl => ?_)
  exact loop (32 * g.k + 1) 0 σ.F (by omega) (by omega) Fr.rf (by rw [Nat.pow_zero, Nat.mul_one, Nat.mod_eq_of_lt hvi]) _ _ ls hW (lv_sub hl [0, 1, 2] rfl)
set_option maxHeartbeats 4000000 in
set_option maxRecDepth 100000 in
/-- Ring.inverseOfLimb(limb) -/
theorem r_inverseOfLimb (l : Launch) (g : qCfg) (hg : g.ok) (σ : qSt) (v : Int32) (ho : uI v % 2 = 1) : qCI l g yX1_inverseOfLimb wsX1_inverseOfLimb 0 0 [.int v] σ (fun r σ' => σ' = σ ∧ uI v * uI r % 4294967296 = 1) := by
  refine q_sI (cc := cX1_inverseOfLimb) (maxL := 3) (by decide) rfl (Nat.le_of_ble_eq_true rfl) ?_
  intro p e s m args below meth c ls Q S hW hl fin
  obtain ⟨hx, hb, hml, hown, hts, hr, hlocks⟩ := id S
  obtain ⟨hk1, hk8, hn1, hn8⟩ := id hg
  have hl : lv_has ls 3 [(0, .int v)] := hl
  refine lv_iload_n hx hb dX1_inverseOfLimb_0 rfl (lv_at hl 0 rfl) ?_
  refine lv_istore_n (lv' := [(1, .int v), (0, .int v)]) hx hb dX1_inverseOfLimb_1 rfl hl (by decide) rfl (fun ls hl => ?_)
  refine lv_iconst (v := 0) hx hb dX1_inverseOfLimb_2 (by decide) ?_
  refine lv_istore_n (lv' := [(2, .int 0), (1, .int v), (0, .int v)]) hx hb dX1_inverseOfLimb_3 rfl hl (by decide) rfl (fun ls hl => ?_)
  refine lv_iload_n hx hb dX1_inverseOfLimb_4 rfl (lv_at hl 0 rfl) ?_
  refine lv_iconst (v := 4) hx hb dX1_inverseOfLimb_5 (by decide) ?_
  refine lv_icmp_ge (tgt := 23) hx hb dX1_inverseOfLimb_6 (by decide) (fun c9 => absurd c9 (by decide)) (fun _ => ?_)
  refine lv_iload_n hx hb dX1_inverseOfLimb_9 rfl (lv_at hl 1 rfl) ?_
  refine lv_iconst (v := 2) hx hb dX1_inverseOfLimb_10 (by decide) ?_
  refine lv_iload_n hx hb dX1_inverseOfLimb_11 rfl (lv_at hl 2 rfl) ?_
  refine lv_iload_n hx hb dX1_inverseOfLimb_12 rfl (lv_at hl 1 rfl) ?_
  refine lv_imul hx hb dX1_inverseOfLimb_13 ?_
  refine lv_isub hx hb dX1_inverseOfLimb_14 ?_
  refine lv_imul hx hb dX1_inverseOfLimb_15 ?_
  refine lv_topi (fun x1 ex1 => ?_)
  refine lv_istore_n (lv' := [(1, .int x1), (2, .int 0), (0, .int v)]) hx hb dX1_inverseOfLimb_16 rfl hl (by decide) rfl (fun ls hl => ?_)
  refine lv_iinc (v := nI (0 + 1)) (lv' := [(2, .int (nI (0 + 1))), (1, .int x1), (0, .int v)]) hx hb dX1_inverseOfLimb_17 hl (k := 1) rfl (nI_1 _) (by decide) rfl (fun ls hl => ?_)
  refine lv_goto (tgt := 4) hx hb dX1_inverseOfLimb_20 (by decide) ?_
  refine lv_iload_n hx hb dX1_inverseOfLimb_4 rfl (lv_at hl 0 rfl) ?_
  refine lv_iconst (v := 4) hx hb dX1_inverseOfLimb_5 (by decide) ?_
  refine lv_icmp_ge (tgt := 23) hx hb dX1_inverseOfLimb_6 (by decide) (fun c9 => absurd c9 (by decide)) (fun _ => ?_)
  refine lv_iload_n hx hb dX1_inverseOfLimb_9 rfl (lv_at hl 1 rfl) ?_
  refine lv_iconst (v := 2) hx hb dX1_inverseOfLimb_10 (by decide) ?_
  refine lv_iload_n hx hb dX1_inverseOfLimb_11 rfl (lv_at hl 2 rfl) ?_
  refine lv_iload_n hx hb dX1_inverseOfLimb_12 rfl (lv_at hl 1 rfl) ?_
  refine lv_imul hx hb dX1_inverseOfLimb_13 ?_
  refine lv_isub hx hb dX1_inverseOfLimb_14 ?_
  refine lv_imul hx hb dX1_inverseOfLimb_15 ?_
  refine lv_topi (fun x2 ex2 => ?_)
  refine lv_istore_n (lv' := [(1, .int x2), (2, .int (nI (0 + 1))), (0, .int v)]) hx hb dX1_inverseOfLimb_16 rfl hl (by decide) rfl (fun ls hl => ?_)
  refine lv_iinc (v := nI (0 + 1 + 1)) (lv' := [(2, .int (nI (0 + 1 + 1))), (1, .int x2), (0, .int v)]) hx hb dX1_inverseOfLimb_17 hl (k := 1) rfl (nI_1 _) (by decide) rfl (fun ls hl => ?_)
  refine lv_goto (tgt := 4) hx hb dX1_inverseOfLimb_20 (by decide) ?_
  refine lv_iload_n hx hb dX1_inverseOfLimb_4 rfl (lv_at hl 0 rfl) ?_
  refine lv_iconst (v := 4) hx hb dX1_inverseOfLimb_5 (by decide) ?_
  refine lv_icmp_ge (tgt := 23) hx hb dX1_inverseOfLimb_6 (by decide) (fun c9 => absurd c9 (by decide)) (fun _ => ?_)
  refine lv_iload_n hx hb dX1_inverseOfLimb_9 rfl (lv_at hl 1 rfl) ?_
  refine lv_iconst (v := 2) hx hb dX1_inverseOfLimb_10 (by decide) ?_
  refine lv_iload_n hx hb dX1_inverseOfLimb_11 rfl (lv_at hl 2 rfl) ?_
  refine lv_iload_n hx hb dX1_inverseOfLimb_12 rfl (lv_at hl 1 rfl) ?_
  refine lv_imul hx hb dX1_inverseOfLimb_13 ?_
  refine lv_isub hx hb dX1_inverseOfLimb_14 ?_
  refine lv_imul hx hb dX1_inverseOfLimb_15 ?_
  refine lv_topi (fun x3 ex3 => ?_)
  refine lv_istore_n (lv' := [(1, .int x3), (2, .int (nI (0 + 1 + 1))), (0, .int v)]) hx hb dX1_inverseOfLimb_16 rfl hl (by decide) rfl (fun ls hl => ?_)
  refine lv_iinc (v := nI (0 + 1 + 1 + 1)) (lv' := [(2, .int (nI (0 + 1 + 1 + 1))), (1, .int x3), (0, .int v)]) hx hb dX1_inverseOfLimb_17 hl (k := 1) rfl (nI_1 _) (by decide) rfl (fun ls hl => ?_)
  refine lv_goto (tgt := 4) hx hb dX1_inverseOfLimb_20 (by decide) ?_
  refine lv_iload_n hx hb dX1_inverseOfLimb_4 rfl (lv_at hl 0 rfl) ?_
  refine lv_iconst (v := 4) hx hb dX1_inverseOfLimb_5 (by decide) ?_
  refine lv_icmp_ge (tgt := 23) hx hb dX1_inverseOfLimb_6 (by decide) (fun c9 => absurd c9 (by decide)) (fun _ => ?_)
  refine lv_iload_n hx hb dX1_inverseOfLimb_9 rfl (lv_at hl 1 rfl) ?_
  refine lv_iconst (v := 2) hx hb dX1_inverseOfLimb_10 (by decide) ?_
  refine lv_iload_n hx hb dX1_inverseOfLimb_11 rfl (lv_at hl 2 rfl) ?_
  refine lv_iload_n hx hb dX1_inverseOfLimb_12 rfl (lv_at hl 1 rfl) ?_
  refine lv_imul hx hb dX1_inverseOfLimb_13 ?_
  refine lv_isub hx hb dX1_inverseOfLimb_14 ?_
  refine lv_imul hx hb dX1_inverseOfLimb_15 ?_
  refine lv_topi (fun x4 ex4 => ?_)
  refine lv_istore_n (lv' := [(1, .int x4), (2, .int (nI (0 + 1 + 1 + 1))), (0, .int v)]) hx hb dX1_inverseOfLimb_16 rfl hl (by decide) rfl (fun ls hl => ?_)
  refine lv_iinc (v := nI (0 + 1 + 1 + 1 + 1)) (lv' := [(2, .int (nI (0 + 1 + 1 + 1 + 1))), (1, .int x4), (0, .int v)]) hx hb dX1_inverseOfLimb_17 hl (k := 1) rfl (nI_1 _) (by decide) rfl (fun ls hl => ?_)
  refine lv_goto (tgt := 4) hx hb dX1_inverseOfLimb_20 (by decide) ?_
  refine lv_iload_n hx hb dX1_inverseOfLimb_4 rfl (lv_at hl 0 rfl) ?_
  refine lv_iconst (v := 4) hx hb dX1_inverseOfLimb_5 (by decide) ?_
  refine lv_icmp_ge (tgt := 23) hx hb dX1_inverseOfLimb_6 (by decide) (fun _ => ?_) (fun c9 => absurd (by decide) c9)
  refine lv_iload_n hx hb dX1_inverseOfLimb_23 rfl (lv_at hl 1 rfl) ?_
  exact fin _ _ _ _ _ _ hW (⟨rfl, inv_num ho ex1 ex2 ex3 ex4⟩) dX1_inverseOfLimb_24
set_option maxHeartbeats 4000000 in
set_option maxRecDepth 100000 in
/-- Ring.hasFitModulus() -/
theorem r_hasFitModulus (l : Launch) (g : qCfg) (hg : g.ok) (σ : qSt)  : qCI l g yX1_hasFitModulus wsX1_hasFitModulus 1 23 [.ref (g.P 1)] σ (fun r σ' => σ' = σ ∧ r = if qV g σ.F 12 % 2 = 1 ∧ qV g σ.F 12 ≠ 1 then 1 else 0) := by
  refine q_sZ (cc := cX1_hasFitModulus) (maxL := 1) (by decide) rfl (Nat.le_of_ble_eq_true rfl) ?_
  intro p e s m args below meth c ls Q S hW hl fin
  obtain ⟨hx, hb, hml, hown, hts, hr, hlocks⟩ := id S
  obtain ⟨hk1, hk8, hn1, hn8⟩ := id hg
  have hl : lv_has ls 1 [(0, .ref (g.P 1))] := hl
  refine lv_aload_n hx hb dX1_hasFitModulus_0 rfl (lv_at hl 0 rfl) ?_
  refine q_get (C := RX1) (T := TX1) (v := .ref (g.P 12)) hx hb hts hown (fun _ h9 => iw_X1_hasFitModulus_X1 _ h9) hW (i := 1) (by decide) rfl rfl 0 (by decide) (hts (.fieldLink RX1 18 "ModEngine$Ring" "modulus" "[I") (by decide +kernel)) rfl dX1_hasFitModulus_1 ?_
  refine q_i (q_runS (As := [.ref (g.P 12)]) (rest := []) S hW (k_isOdd l g hg σ (rowk (by decide))) gX1_hasFitModulus_X0_isOdd (nA := 1) ⟨rfl, by decide +kernel, ⟨by decide, by decide⟩⟩ rfl hl.1 rfl (Nat.le_of_ble_eq_true rfl) dX1_hasFitModulus_4 ⟨Nat.zero_le _, Nat.zero_le _⟩) hW Ad_hi (fun r_4 σ1 H locs hp hW => ?_)
  obtain ⟨e1, er1⟩ : σ1 = σ ∧ r_4 = if qV g σ.F 12 % 2 = 1 then 1 else 0 := hp
  rw [e1] at hW
  refine lv_if_eq (tgt := 29) hx hb dX1_hasFitModulus_7 (by decide) (fun c9 => ?_) (fun c9 => ?_)
  · have h0 := (fa_boolp er1).1.mp c9
    refine lv_iconst (v := 0) hx hb dX1_hasFitModulus_29 (by decide) ?_
    exact fin _ _ _ _ _ _ (by decide) hW (⟨rfl, (if_neg (fun q => h0 q.1)).symm⟩) dX1_hasFitModulus_30
  · have h0 := (fa_boolp er1).2.mp c9
    refine lv_aload_n hx hb dX1_hasFitModulus_10 rfl (lv_at hl 0 rfl) ?_
    refine q_get (C := RX1) (T := TX1) (v := .ref (g.P 12)) hx hb hts hown (fun _ h9 => iw_X1_hasFitModulus_X1 _ h9) hW (i := 1) (by decide) rfl rfl 0 (by decide) (hts (.fieldLink RX1 18 "ModEngine$Ring" "modulus" "[I") (by decide +kernel)) rfl dX1_hasFitModulus_11 ?_
    refine lv_iconst (v := 1) hx hb dX1_hasFitModulus_14 (by decide) ?_
    refine lv_aload_n hx hb dX1_hasFitModulus_15 rfl (lv_at hl 0 rfl) ?_
    refine q_get (C := RX1) (T := TX1) (v := .int (nI g.k)) hx hb hts hown (fun _ h9 => iw_X1_hasFitModulus_X1 _ h9) hW (i := 1) (by decide) rfl rfl 1 (by decide) (hts (.fieldLink RX1 9 "ModEngine$Ring" "k" "I") (by decide +kernel)) rfl dX1_hasFitModulus_16 ?_
    refine q_i (q_runS (As := [.ref (g.P 12), .int 1, .int (nI g.k)]) (rest := []) S hW (k_isSmall l g hg σ (rowk (by decide)) 1) gX1_hasFitModulus_X0_isSmall (nA := 3) ⟨rfl, by decide +kernel, ⟨by decide, by decide⟩⟩ rfl hl.1 rfl (Nat.le_of_ble_eq_true rfl) dX1_hasFitModulus_19 ⟨Nat.zero_le _, Nat.zero_le _⟩) hW Ad_hi (fun r_19 σ2 H locs hp hW => ?_)
    obtain ⟨e2, er2⟩ : σ2 = σ ∧ r_19 = if qV g σ.F 12 = uI 1 then 1 else 0 := hp
    rw [e2] at hW
    refine lv_if_ne (tgt := 29) hx hb dX1_hasFitModulus_22 (by decide) (fun c8 => ?_) (fun c8 => ?_)
    · have h1 := (fa_boolp er2).2.mp c8
      refine lv_iconst (v := 0) hx hb dX1_hasFitModulus_29 (by decide) ?_
      exact fin _ _ _ _ _ _ (by decide) hW (⟨rfl, (if_neg (fun q => q.2 h1)).symm⟩) dX1_hasFitModulus_30
    · have h1 := (fa_boolp er2).1.mp c8
      refine lv_iconst (v := 1) hx hb dX1_hasFitModulus_25 (by decide) ?_
      refine lv_goto (tgt := 30) hx hb dX1_hasFitModulus_26 (by decide) ?_
      exact fin _ _ _ _ _ _ (by decide) hW (⟨rfl, (if_pos ⟨h0, h1⟩).symm⟩) dX1_hasFitModulus_30
set_option maxHeartbeats 4000000 in
set_option maxRecDepth 100000 in
/-- Ring.montgomery(into, a, b): into times R is a b modulo the modulus, and below it -/
theorem r_montgomery (l : Launch) (g : qCfg) (hg : g.ok) (σ : qSt) {i j r : Nat} (hi : 12 ≤ i ∧ i < g.N)(hj : 12 ≤ j ∧ j < g.N)(hrr : 12 ≤ r ∧ r < g.N) (hi12 : i ≠ 12) (hi16 : i ≠ 16) (hj16 : j ≠ 16) (hr16 : r ≠ 16) (h0 : 0 < qV g σ.F 12) (hmi : (uI σ.mi * qV g σ.F 12 + 1) % 4294967296 = 0) (hlt : qV g σ.F j * qV g σ.F r < 2 ^ (32 * g.k) * qV g σ.F 12) : qCV l g yX1_montgomery wsX1_montgomery 2 49 [.ref (g.P 1), .ref (g.P i), .ref (g.P j), .ref (g.P r)] σ (fun σ' => ∃ F', σ' = σ.setF F' ∧ Fr σ.F F' [16, i] ∧ qV g F' i < qV g σ.F 12 ∧ qV g F' i * 2 ^ (32 * g.k) % qV g σ.F 12 = qV g σ.F j * qV g σ.F r % qV g σ.F 12) := by
  refine q_sV (cc := cX1_montgomery) (maxL := 7) (by decide) rfl (Nat.le_of_ble_eq_true rfl) ?_
  intro p e s m args below meth c ls Q S hW hl fin
  obtain ⟨hx, hb, hml, hown, hts, hr, hlocks⟩ := id S
  obtain ⟨hk1, hk8, hn1, hn8⟩ := id hg
  have hl : lv_has ls 7 [(0, .ref (g.P 1)), (1, .ref (g.P i)), (2, .ref (g.P j)), (3, .ref (g.P r))] := hl
  have loop : ∀ (n x t q : Nat) (F : Nat → Nat → Int32), x ≤ g.k → g.k + 1 ≤ x + n → Fr σ.F F [16] → q < 2 ^ (32 * x) → (qV g F 16 + t * 2 ^ (32 * g.k)) * 2 ^ (32 * x) = rv (σ.F j) x * qV g σ.F r + q * qV g σ.F 12 → ∀ (H : Heap) (locs : List Loc) (ls : Array Slot), Wo g (Ad g s.heap.size) s H locs (σ.setF F) → lv_has ls 7 [(6, .int (nI x)), (4, .long (lN t)), (0, .ref (g.P 1)), (1, .ref (g.P i)), (2, .ref (g.P j)), (3, .ref (g.P r))] → W p l e (rmm 2 49) s m args below meth c H locs 0 0 Q (F0 m 18 ls []) := by
    intro n
    induction n with
    | zero => intro x t q F h1 h2; exact absurd h2 (by omega)
    | succ n ih =>
      intro x t q F hx1 hx2 hf hq hT H locs ls hW hl
      have hA : rv (σ.F j) x < 2 ^ (32 * x) := rv_lt
      have hTb := mont_bound hT hA hq (qV_lt (i := r)) (qV_lt (i := 12)) h0
      have ht1 : t ≤ 1 := by
        rcases Nat.lt_or_ge t 2 with z | z
        · omega
        · have : 2 * 2 ^ (32 * g.k) ≤ t * 2 ^ (32 * g.k) := Nat.mul_le_mul_right _ z
          omega
      refine lv_iload hx hb dX1_montgomery_18 (lv_at hl 0 rfl) ?_
      refine lv_aload_n hx hb dX1_montgomery_20 rfl (lv_at hl 2 rfl) ?_
      refine q_get (C := RX1) (T := TX1) (v := .int (nI g.k)) hx hb hts hown (fun _ h9 => iw_X1_montgomery_X1 _ h9) hW (i := 1) (by decide) rfl rfl 1 (by decide) (hts (.fieldLink RX1 9 "ModEngine$Ring" "k" "I") (by decide +kernel)) rfl dX1_montgomery_21 ?_
      refine lv_icmp_ge (tgt := 100) hx hb dX1_montgomery_24 (by decide) (fun c9 => ?_) (fun c9 => ?_)
      · have hx3 := nle c9 (by omega) (by omega)
        have hx4 : x = g.k := by omega
        rw [hx4] at hT hq
        have hT2 : (qV g F 16 + t * 2 ^ (32 * g.k)) * 2 ^ (32 * g.k) = qV g σ.F j * qV g σ.F r + q * qV g σ.F 12 := hT
        refine lv_aload_n hx hb dX1_montgomery_100 rfl (lv_at hl 3 rfl) ?_
        refine lv_aload_n hx hb dX1_montgomery_101 rfl (lv_at hl 2 rfl) ?_
        refine q_get (C := RX1) (T := TX1) (v := .ref (g.P 16)) hx hb hts hown (fun _ h9 => iw_X1_montgomery_X1 _ h9) hW (i := 1) (by decide) rfl rfl 6 (by decide) (hts (.fieldLink RX1 31 "ModEngine$Ring" "running" "[I") (by decide +kernel)) rfl dX1_montgomery_102 ?_
        refine lv_aload_n hx hb dX1_montgomery_105 rfl (lv_at hl 2 rfl) ?_
        refine q_get (C := RX1) (T := TX1) (v := .int (nI g.k)) hx hb hts hown (fun _ h9 => iw_X1_montgomery_X1 _ h9) hW (i := 1) (by decide) rfl rfl 1 (by decide) (hts (.fieldLink RX1 9 "ModEngine$Ring" "k" "I") (by decide +kernel)) rfl dX1_montgomery_106 ?_
        refine q_v (q_runS (As := [.ref (g.P i), .ref (g.P 16), .int (nI g.k)]) (rest := []) S hW (k_copy l g hg (σ.setF F) hi (rowk (by decide))) gX1_montgomery_X0_copy (nA := 3) ⟨rfl, by decide +kernel, ⟨by decide, by decide⟩⟩ rfl hl.1 rfl (Nat.le_of_ble_eq_true rfl) dX1_montgomery_109 ⟨Nat.zero_le _, Nat.zero_le _⟩) hW Ad_hi (fun σ1 H locs hp hW => ?_)
        obtain ⟨F1, e1, hf1, hv1⟩ : ∃ F', σ1 = σ.setF F' ∧ Fr F F' [i] ∧ qV g F' i = qV g F 16 := hp
        rw [e1] at hW
        refine lv_aload_n hx hb dX1_montgomery_112 rfl (lv_at hl 2 rfl) ?_
        refine lv_aload_n hx hb dX1_montgomery_113 rfl (lv_at hl 3 rfl) ?_
        refine lv_lload hx hb dX1_montgomery_114 (lv_at hl 1 rfl) ?_
        have hm : qV g F1 12 = qV g σ.F 12 := (hf1.V (by simp; exact Ne.symm hi12)).trans (hf.V (by decide))
        have hlt2 := mont_final hT2 hq hlt h0
        refine q_v (q_runV (As := [.ref (g.P i), .long (lN t)]) (rest := []) (i := 1) S hW (by decide) rfl rfl (r_bringBelow l g hg (σ.setF F1) hi hi12 ht1 (by show qV g F1 i + _ < 2 * qV g F1 12; rw [hm, hv1]; exact hlt2)) gX1_montgomery_X1_bringBelow rfl (nA := 2) ⟨rfl, by decide +kernel, ⟨by decide, by decide⟩⟩ rfl hl.1 rfl (Nat.le_of_ble_eq_true rfl) dX1_montgomery_116 ⟨Nat.zero_le _, Nat.zero_le _⟩) hW Ad_hi (fun σ2 H locs hp hW => ?_)
        obtain ⟨F2, e2, hf2, hv2⟩ : ∃ F', σ2 = σ.setF F' ∧ Fr F1 F' [i] ∧ qV g F' i = (qV g F1 i + t * 2 ^ (32 * g.k)) % qV g F1 12 := hp
        rw [e2] at hW
        rw [hm, hv1] at hv2
        refine fin _ _ _ _ _ hW ⟨F2, rfl, fun a ha => ?_, ?_, ?_⟩ dX1_montgomery_119
        · simp only [List.mem_cons, List.not_mem_nil, or_false, not_or] at ha
          rw [hf2 a (by simp; exact ha.2), hf1 a (by simp; exact ha.2), hf a (by simp; exact ha.1)]
        · rw [hv2]; exact Nat.mod_lt _ h0
        · rw [hv2, Nat.mod_mul_mod, hT2, Nat.add_mul_mod_self_right]
      · have hx3 := nge c9 (by omega)
        refine lv_lload hx hb dX1_montgomery_27 (lv_at hl 1 rfl) ?_
        refine lv_aload_n hx hb dX1_montgomery_29 rfl (lv_at hl 2 rfl) ?_
        refine q_get (C := RX1) (T := TX1) (v := .ref (g.P 16)) hx hb hts hown (fun _ h9 => iw_X1_montgomery_X1 _ h9) hW (i := 1) (by decide) rfl rfl 6 (by decide) (hts (.fieldLink RX1 31 "ModEngine$Ring" "running" "[I") (by decide +kernel)) rfl dX1_montgomery_30 ?_
        refine lv_aload_n hx hb dX1_montgomery_33 rfl (lv_at hl 5 rfl) ?_
        refine lv_aload_n hx hb dX1_montgomery_34 rfl (lv_at hl 4 rfl) ?_
        refine lv_iload hx hb dX1_montgomery_35 (lv_at hl 0 rfl) ?_
        refine q_iald hx hb hW (i := j) (j := x) hj (by omega) hk8 rfl dX1_montgomery_37 ?_
        refine q_ti (y := F j x) rfl ?_
        refine q_ti (y := σ.F j x) (by rw [hf j (by simp; exact hj16)]) ?_
        refine lv_aload_n hx hb dX1_montgomery_38 rfl (lv_at hl 2 rfl) ?_
        refine q_get (C := RX1) (T := TX1) (v := .int (nI g.k)) hx hb hts hown (fun _ h9 => iw_X1_montgomery_X1 _ h9) hW (i := 1) (by decide) rfl rfl 1 (by decide) (hts (.fieldLink RX1 9 "ModEngine$Ring" "k" "I") (by decide +kernel)) rfl dX1_montgomery_39 ?_
        refine q_l (q_runS (As := [.ref (g.P 16), .ref (g.P r), .int (σ.F j x), .int (nI g.k)]) (rest := [.long (lN t)]) S hW (k_addMultiple l g hg (σ.setF F) (rowk (by decide)) hrr (σ.F j x)) gX1_montgomery_X0_addMultiple (nA := 4) ⟨rfl, by decide +kernel, ⟨by decide, by decide⟩⟩ rfl hl.1 rfl (Nat.le_of_ble_eq_true rfl) dX1_montgomery_42 ⟨Nat.zero_le _, Nat.zero_le _⟩) hW Ad_hi (fun r_42 σ1 H locs hp hW => ?_)
        obtain ⟨F1, c1, e1, hf1, hc1, er1, hv1⟩ : ∃ F', ∃ c, σ1 = σ.setF F' ∧ Fr F F' [16] ∧ c < 4294967296 ∧ r_42 = lN c ∧ qV g F' 16 + c * 2 ^ (32 * g.k) = qV g F 16 + uI (σ.F j x) * qV g F r := hp
        rw [e1] at hW
        refine q_tl (y := lN c1) er1 ?_
        refine lv_ladd hx hb dX1_montgomery_45 ?_
        refine q_tl (y := lN (t + c1)) (lN_add _ _) ?_
        refine lv_lstore (lv' := [(4, .long (lN (t + c1))), (6, .int (nI x)), (0, .ref (g.P 1)), (1, .ref (g.P i)), (2, .ref (g.P j)), (3, .ref (g.P r))]) hx hb dX1_montgomery_46 hl (by decide) rfl (fun ls hl => ?_)
        refine lv_lload hx hb dX1_montgomery_48 (lv_at hl 0 rfl) ?_
        refine lv_aload_n hx hb dX1_montgomery_50 rfl (lv_at hl 2 rfl) ?_
        refine q_get (C := RX1) (T := TX1) (v := .ref (g.P 16)) hx hb hts hown (fun _ h9 => iw_X1_montgomery_X1 _ h9) hW (i := 1) (by decide) rfl rfl 6 (by decide) (hts (.fieldLink RX1 31 "ModEngine$Ring" "running" "[I") (by decide +kernel)) rfl dX1_montgomery_51 ?_
        refine lv_aload_n hx hb dX1_montgomery_54 rfl (lv_at hl 2 rfl) ?_
        refine q_get (C := RX1) (T := TX1) (v := .ref (g.P 12)) hx hb hts hown (fun _ h9 => iw_X1_montgomery_X1 _ h9) hW (i := 1) (by decide) rfl rfl 0 (by decide) (hts (.fieldLink RX1 18 "ModEngine$Ring" "modulus" "[I") (by decide +kernel)) rfl dX1_montgomery_55 ?_
        refine lv_aload_n hx hb dX1_montgomery_58 rfl (lv_at hl 2 rfl) ?_
        refine q_get (C := RX1) (T := TX1) (v := .ref (g.P 16)) hx hb hts hown (fun _ h9 => iw_X1_montgomery_X1 _ h9) hW (i := 1) (by decide) rfl rfl 6 (by decide) (hts (.fieldLink RX1 31 "ModEngine$Ring" "running" "[I") (by decide +kernel)) rfl dX1_montgomery_59 ?_
        refine lv_iconst (v := 0) hx hb dX1_montgomery_62 (by decide) ?_
        refine q_iald hx hb hW (i := 16) (j := 0) (rowk (by decide)) (by omega) hk8 rfl dX1_montgomery_63 ?_
        refine q_ti (y := F1 16 0) rfl ?_
        refine lv_aload_n hx hb dX1_montgomery_64 rfl (lv_at hl 2 rfl) ?_
        refine q_get (C := RX1) (T := TX1) (v := .int σ.mi) hx hb hts hown (fun _ h9 => iw_X1_montgomery_X1 _ h9) hW (i := 1) (by decide) rfl rfl 11 (by decide) (hts (.fieldLink RX1 46 "ModEngine$Ring" "minusInverse" "I") (by decide +kernel)) rfl dX1_montgomery_65 ?_
        refine lv_imul hx hb dX1_montgomery_68 ?_
        refine lv_aload_n hx hb dX1_montgomery_69 rfl (lv_at hl 2 rfl) ?_
        refine q_get (C := RX1) (T := TX1) (v := .int (nI g.k)) hx hb hts hown (fun _ h9 => iw_X1_montgomery_X1 _ h9) hW (i := 1) (by decide) rfl rfl 1 (by decide) (hts (.fieldLink RX1 9 "ModEngine$Ring" "k" "I") (by decide +kernel)) rfl dX1_montgomery_70 ?_
        refine q_l (q_runS (As := [.ref (g.P 16), .ref (g.P 12), .int ((F1 16 0) * σ.mi), .int (nI g.k)]) (rest := [.long (lN (t + c1))]) S hW (k_addMultiple l g hg (σ.setF F1) (rowk (by decide)) (rowk (by decide)) (F1 16 0 * σ.mi)) gX1_montgomery_X0_addMultiple (nA := 4) ⟨rfl, by decide +kernel, ⟨by decide, by decide⟩⟩ rfl hl.1 rfl (Nat.le_of_ble_eq_true rfl) dX1_montgomery_73 ⟨Nat.zero_le _, Nat.zero_le _⟩) hW Ad_hi (fun r_73 σ2 H locs hp hW => ?_)
        obtain ⟨F2, c2, e2, hf2, hc2, er2, hv2⟩ : ∃ F', ∃ c, σ2 = σ.setF F' ∧ Fr F1 F' [16] ∧ c < 4294967296 ∧ r_73 = lN c ∧ qV g F' 16 + c * 2 ^ (32 * g.k) = qV g F1 16 + uI (F1 16 0 * σ.mi) * qV g F1 12 := hp
        rw [e2] at hW
        refine q_tl (y := lN c2) er2 ?_
        refine lv_ladd hx hb dX1_montgomery_76 ?_
        refine q_tl (y := lN ((t + c1) + c2)) (lN_add _ _) ?_
        refine lv_lstore (lv' := [(4, .long (lN ((t + c1) + c2))), (6, .int (nI x)), (0, .ref (g.P 1)), (1, .ref (g.P i)), (2, .ref (g.P j)), (3, .ref (g.P r))]) hx hb dX1_montgomery_77 hl (by decide) rfl (fun ls hl => ?_)
        refine lv_aload_n hx hb dX1_montgomery_79 rfl (lv_at hl 2 rfl) ?_
        refine q_get (C := RX1) (T := TX1) (v := .ref (g.P 16)) hx hb hts hown (fun _ h9 => iw_X1_montgomery_X1 _ h9) hW (i := 1) (by decide) rfl rfl 6 (by decide) (hts (.fieldLink RX1 31 "ModEngine$Ring" "running" "[I") (by decide +kernel)) rfl dX1_montgomery_80 ?_
        refine lv_lload hx hb dX1_montgomery_83 (lv_at hl 0 rfl) ?_
        refine lv_aload_n hx hb dX1_montgomery_85 rfl (lv_at hl 2 rfl) ?_
        refine q_get (C := RX1) (T := TX1) (v := .int (nI g.k)) hx hb hts hown (fun _ h9 => iw_X1_montgomery_X1 _ h9) hW (i := 1) (by decide) rfl rfl 1 (by decide) (hts (.fieldLink RX1 9 "ModEngine$Ring" "k" "I") (by decide +kernel)) rfl dX1_montgomery_86 ?_
        refine q_l (q_runS (As := [.ref (g.P 16), .long (lN ((t + c1) + c2)), .int (nI g.k)]) (rest := []) S hW (k_dropLimb l g hg (σ.setF F2) (rowk (by decide)) (t := t + c1 + c2) (by omega)) gX1_montgomery_X0_dropLimb (nA := 3) ⟨rfl, by decide +kernel, ⟨by decide, by decide⟩⟩ rfl hl.1 rfl (Nat.le_of_ble_eq_true rfl) dX1_montgomery_89 ⟨Nat.zero_le _, Nat.zero_le _⟩) hW Ad_hi (fun r_89 σ3 H locs hp hW => ?_)
        obtain ⟨F3, e3, hf3, er3, hv3⟩ : ∃ F', σ3 = σ.setF F' ∧ Fr F2 F' [16] ∧ r_89 = lN ((t + c1 + c2) / 4294967296) ∧ qV g F' 16 + (t + c1 + c2) / 4294967296 * 2 ^ (32 * g.k) = qV g F2 16 / 4294967296 + (t + c1 + c2) * 2 ^ (32 * (g.k - 1)) := hp
        rw [e3] at hW
        refine q_tl (y := lN ((t + c1 + c2) / 4294967296)) er3 ?_
        refine lv_lstore (lv' := [(4, .long (lN ((t + c1 + c2) / 4294967296))), (6, .int (nI x)), (0, .ref (g.P 1)), (1, .ref (g.P i)), (2, .ref (g.P j)), (3, .ref (g.P r))]) hx hb dX1_montgomery_92 hl (by decide) rfl (fun ls hl => ?_)
        refine lv_iinc (v := nI (x + 1)) (lv' := [(6, .int (nI (x + 1))), (4, .long (lN ((t + c1 + c2) / 4294967296))), (0, .ref (g.P 1)), (1, .ref (g.P i)), (2, .ref (g.P j)), (3, .ref (g.P r))]) hx hb dX1_montgomery_94 hl (k := 1) rfl (nI_1 _) (by decide) rfl (fun ls hl => ?_)
        refine lv_goto (tgt := 18) hx hb dX1_montgomery_97 (by decide) ?_
        have hfa : Fr σ.F F1 [16] := fun a ha => by rw [hf1 a ha, hf a ha]
        have hfb : Fr σ.F F2 [16] := fun a ha => by rw [hf2 a ha, hfa a ha]
        have hfc : Fr σ.F F3 [16] := fun a ha => by rw [hf3 a ha, hfb a ha]
        have er1 : qV g F r = qV g σ.F r := hf.V (by simp; exact hr16)
        have em : qV g F1 12 = qV g σ.F 12 := hfa.V (by decide)
        rw [er1] at hv1
        rw [em] at hv2
        obtain ⟨q1, hq1⟩ : ∃ q, qV g F1 16 = uI (F1 16 0) + 4294967296 * q := dv_low hk1
        have hlow := mont_low hq1 (uI_mul (F1 16 0) σ.mi) hmi
        obtain ⟨k1, hk2⟩ : ∃ k1, g.k = k1 + 1 := ⟨g.k - 1, by omega⟩
        have hRR : 2 ^ (32 * g.k) = 2 ^ (32 * (g.k - 1)) * 4294967296 := by rw [hk2, p32, show k1 + 1 - 1 = k1 by omega]
        have hz : qV g F2 16 % 4294967296 = 0 := by
          have h9 : qV g F2 16 + c2 * (2 ^ (32 * (g.k - 1)) * 4294967296) = qV g F1 16 + uI (F1 16 0 * σ.mi) * qV g σ.F 12 := by rw [← hRR]; exact hv2
          rw [← Nat.mul_assoc] at h9
          omega
        have hst := mont_step hT hv1 hv2 hz hv3 hRR
        refine ih (x + 1) _ (q + uI (F1 16 0 * σ.mi) * 2 ^ (32 * x)) F3 (by omega) (by omega) hfc ?_ ?_ H locs ls hW (lv_sub hl [0, 1, 2, 3, 4, 5] rfl)
        · have h8 := uI_lt (F1 16 0 * σ.mi)
          have h9 : uI (F1 16 0 * σ.mi) * 2 ^ (32 * x) ≤ 4294967295 * 2 ^ (32 * x) := Nat.mul_le_mul_right _ (by omega)
          rw [p32]
          omega
        · rw [rv_succ, p32]
          exact hst
  refine lv_aload_n hx hb dX1_montgomery_0 rfl (lv_at hl 0 rfl) ?_
  refine q_get (C := RX1) (T := TX1) (v := .ref (g.P 16)) hx hb hts hown (fun _ h9 => iw_X1_montgomery_X1 _ h9) hW (i := 1) (by decide) rfl rfl 6 (by decide) (hts (.fieldLink RX1 31 "ModEngine$Ring" "running" "[I") (by decide +kernel)) rfl dX1_montgomery_1 ?_
  refine lv_iconst (v := 0) hx hb dX1_montgomery_4 (by decide) ?_
  refine lv_aload_n hx hb dX1_montgomery_5 rfl (lv_at hl 0 rfl) ?_
  refine q_get (C := RX1) (T := TX1) (v := .int (nI g.k)) hx hb hts hown (fun _ h9 => iw_X1_montgomery_X1 _ h9) hW (i := 1) (by decide) rfl rfl 1 (by decide) (hts (.fieldLink RX1 9 "ModEngine$Ring" "k" "I") (by decide +kernel)) rfl dX1_montgomery_6 ?_
  refine q_v (q_runS (As := [.ref (g.P 16), .int 0, .int (nI g.k)]) (rest := []) S hW (k_setSmall l g hg σ (rowk (by decide)) 0) gX1_montgomery_X0_setSmall (nA := 3) ⟨rfl, by decide +kernel, ⟨by decide, by decide⟩⟩ rfl hl.1 rfl (Nat.le_of_ble_eq_true rfl) dX1_montgomery_9 ⟨Nat.zero_le _, Nat.zero_le _⟩) hW Ad_hi (fun σ1 H locs hp hW => ?_)
  obtain ⟨F1, e1, hf1, hv1⟩ : ∃ F', σ1 = σ.setF F' ∧ Fr σ.F F' [16] ∧ qV g F' 16 = uI 0 := hp
  rw [e1] at hW
  refine lv_lconst (v := 0) hx hb dX1_montgomery_12 (by decide) ?_
  refine lv_lstore (lv' := [(4, .long 0), (0, .ref (g.P 1)), (1, .ref (g.P i)), (2, .ref (g.P j)), (3, .ref (g.P r))]) hx hb dX1_montgomery_13 hl (by decide) rfl (fun ls hl => ?_)
  refine lv_iconst (v := 0) hx hb dX1_montgomery_15 (by decide) ?_
  refine lv_istore (lv' := [(6, .int 0), (4, .long 0), (0, .ref (g.P 1)), (1, .ref (g.P i)), (2, .ref (g.P j)), (3, .ref (g.P r))]) hx hb dX1_montgomery_16 hl (by decide) rfl (fun ls hl => ?_)
  exact loop (g.k + 1) 0 0 0 F1 (by omega) (by omega) hf1 (by decide) (by rw [hv1]; show (0 + 0 * _) * _ = 0 * _ + 0 * _; omega) _ _ ls hW (lv_sub hl [0, 1, 2, 3, 4, 5] rfl)
