theorem iw_X1_sum_X1 : ∀ w ∈ wsX10, w ∈ wsX1_sum := by decide +kernel
theorem iw_X1_difference_X1 : ∀ w ∈ wsX10, w ∈ wsX1_difference := by decide +kernel
theorem iw_X1_product_X1 : ∀ w ∈ wsX10, w ∈ wsX1_product := by decide +kernel
theorem iw_X1_productByR_X1 : ∀ w ∈ wsX10, w ∈ wsX1_productByR := by decide +kernel
theorem iw_X1_raise_X1 : ∀ w ∈ wsX10, w ∈ wsX1_raise := by decide +kernel
theorem iw_X1_power_X1 : ∀ w ∈ wsX10, w ∈ wsX1_power := by decide +kernel
set_option maxHeartbeats 4000000 in
set_option maxRecDepth 100000 in
/-- Ring.prepare() -/
theorem r_prepare (l : Launch) (g : qCfg) (hg : g.ok) (σ : qSt) (ho : qV g σ.F 12 % 2 = 1) (h3 : 3 ≤ qV g σ.F 12) (h13 : qV g σ.F 13 = 1) : qCV l g yX1_prepare wsX1_prepare 4 96 [.ref (g.P 1)] σ (fun σ' => ∃ F' v, σ' = (σ.setMi v).setF F' ∧ Fr σ.F F' [14, 15] ∧ Pp g F' v) := by
  refine q_sV (cc := cX1_prepare) (maxL := 1) (by decide) rfl (Nat.le_of_ble_eq_true rfl) ?_
  intro p e s m args below meth c ls Q S hW hl fin
  obtain ⟨hx, hb, hml, hown, hts, hr, hlocks⟩ := id S
  obtain ⟨hk1, hk8, hn1, hn8⟩ := id hg
  have hl : lv_has ls 1 [(0, .ref (g.P 1))] := hl
  obtain ⟨q0, hq0⟩ : ∃ q, qV g σ.F 12 = uI (σ.F 12 0) + 4294967296 * q := dv_low hk1
  refine lv_aload_n hx hb dX1_prepare_0 rfl (lv_at hl 0 rfl) ?_
  refine lv_aload_n hx hb dX1_prepare_1 rfl (lv_at hl 0 rfl) ?_
  refine q_get (C := RX1) (T := TX1) (v := .ref (g.P 12)) hx hb hts hown (fun _ h9 => iw_X1_prepare_X1 _ h9) hW (i := 1) (by decide) rfl rfl 0 (by decide) (hts (.fieldLink RX1 18 "ModEngine$Ring" "modulus" "[I") (by decide +kernel)) rfl dX1_prepare_2 ?_
  refine lv_iconst (v := 0) hx hb dX1_prepare_5 (by decide) ?_
  refine q_iald hx hb hW (i := 12) (j := 0) (rowk (by decide)) (by omega) hk8 rfl dX1_prepare_6 ?_
  refine q_ti (y := σ.F 12 0) rfl ?_
  refine q_i (q_runS (As := [.int (σ.F 12 0)]) (rest := [.ref (g.P 1)]) S hW (r_inverseOfLimb l g hg σ (σ.F 12 0) (by omega)) gX1_prepare_X1_inverseOfLimb (nA := 1) ⟨rfl, by decide +kernel, ⟨by decide, by decide⟩⟩ rfl hl.1 rfl (Nat.le_of_ble_eq_true rfl) dX1_prepare_7 ⟨Nat.zero_le _, Nat.zero_le _⟩) hW Ad_hi (fun r_7 σ0 H locs hp hW => ?_)
  obtain ⟨e0, hinv⟩ : σ0 = σ ∧ uI (σ.F 12 0) * uI r_7 % 4294967296 = 1 := hp
  rw [e0] at hW
  refine lv_ineg hx hb dX1_prepare_10 ?_
  refine lv_topi (fun v ev => ?_)
  refine q_put (C := RX1) (T := TX1) hx hb hts hown (fun _ h9 => iw_X1_prepare_X1 _ h9) tyX1 tyX1_ok nmX1 hW (i := 1) (by decide) rfl rfl 11 (by decide) (hts (.fieldLink RX1 46 "ModEngine$Ring" "minusInverse" "I") (by decide +kernel)) rfl (ty := .int) (by decide +kernel) rfl rfl (Nat.le_of_ble_eq_true rfl) (σ.setMi v) rfl cel_mi dX1_prepare_11 (fun H locs hW => ?_)
  refine lv_aload_n hx hb dX1_prepare_14 rfl (lv_at hl 0 rfl) ?_
  refine q_get (C := RX1) (T := TX1) (v := .ref (g.P 14)) hx hb hts hown (fun _ h9 => iw_X1_prepare_X1 _ h9) hW (i := 1) (by decide) rfl rfl 4 (by decide) (hts (.fieldLink RX1 25 "ModEngine$Ring" "unit" "[I") (by decide +kernel)) rfl dX1_prepare_15 ?_
  refine lv_aload_n hx hb dX1_prepare_18 rfl (lv_at hl 0 rfl) ?_
  refine q_get (C := RX1) (T := TX1) (v := .ref (g.P 13)) hx hb hts hown (fun _ h9 => iw_X1_prepare_X1 _ h9) hW (i := 1) (by decide) rfl rfl 3 (by decide) (hts (.fieldLink RX1 22 "ModEngine$Ring" "one" "[I") (by decide +kernel)) rfl dX1_prepare_19 ?_
  refine lv_aload_n hx hb dX1_prepare_22 rfl (lv_at hl 0 rfl) ?_
  refine q_get (C := RX1) (T := TX1) (v := .int (nI g.k)) hx hb hts hown (fun _ h9 => iw_X1_prepare_X1 _ h9) hW (i := 1) (by decide) rfl rfl 1 (by decide) (hts (.fieldLink RX1 9 "ModEngine$Ring" "k" "I") (by decide +kernel)) rfl dX1_prepare_23 ?_
  refine q_v (q_runS (As := [.ref (g.P 14), .ref (g.P 13), .int (nI g.k)]) (rest := []) S hW (k_copy l g hg ((σ.setMi v)) (rowk (by decide)) (rowk (by decide))) gX1_prepare_X0_copy (nA := 3) ⟨rfl, by decide +kernel, ⟨by decide, by decide⟩⟩ rfl hl.1 rfl (Nat.le_of_ble_eq_true rfl) dX1_prepare_26 ⟨Nat.zero_le _, Nat.zero_le _⟩) hW Ad_hi (fun σ1 H locs hp hW => ?_)
  obtain ⟨F1, e1, hf1, hv1⟩ : ∃ F', σ1 = ((σ.setMi v)).setF F' ∧ Fr σ.F F' [14] ∧ qV g F' 14 = qV g σ.F 13 := hp
  rw [e1] at hW
  refine lv_aload_n hx hb dX1_prepare_29 rfl (lv_at hl 0 rfl) ?_
  refine lv_aload_n hx hb dX1_prepare_30 rfl (lv_at hl 0 rfl) ?_
  refine q_get (C := RX1) (T := TX1) (v := .ref (g.P 14)) hx hb hts hown (fun _ h9 => iw_X1_prepare_X1 _ h9) hW (i := 1) (by decide) rfl rfl 4 (by decide) (hts (.fieldLink RX1 25 "ModEngine$Ring" "unit" "[I") (by decide +kernel)) rfl dX1_prepare_31 ?_
  have m1 : qV g F1 12 = qV g σ.F 12 := hf1.V (by decide)
  refine q_v (q_runV (As := [.ref (g.P 14)]) (rest := []) (i := 1) S hW (by decide) rfl rfl (r_doubleOften l g hg (((σ.setMi v)).setF F1) (rowk (by decide)) (by decide) (by show qV g F1 14 < qV g F1 12; rw [m1, hv1, h13]; omega)) gX1_prepare_X1_doubleOften rfl (nA := 1) ⟨rfl, by decide +kernel, ⟨by decide, by decide⟩⟩ rfl hl.1 rfl (Nat.le_of_ble_eq_true rfl) dX1_prepare_34 ⟨Nat.zero_le _, Nat.zero_le _⟩) hW Ad_hi (fun σ2 H locs hp hW => ?_)
  obtain ⟨F2, e2, hf2, hv2⟩ : ∃ F', σ2 = ((σ.setMi v)).setF F' ∧ Fr F1 F' [14] ∧ qV g F' 14 = qV g F1 14 * 2 ^ (32 * g.k) % qV g F1 12 := hp
  rw [e2] at hW
  have m2 : qV g F2 12 = qV g σ.F 12 := (hf2.V (by decide)).trans m1
  refine lv_aload_n hx hb dX1_prepare_37 rfl (lv_at hl 0 rfl) ?_
  refine q_get (C := RX1) (T := TX1) (v := .ref (g.P 15)) hx hb hts hown (fun _ h9 => iw_X1_prepare_X1 _ h9) hW (i := 1) (by decide) rfl rfl 5 (by decide) (hts (.fieldLink RX1 28 "ModEngine$Ring" "rSquared" "[I") (by decide +kernel)) rfl dX1_prepare_38 ?_
  refine lv_aload_n hx hb dX1_prepare_41 rfl (lv_at hl 0 rfl) ?_
  refine q_get (C := RX1) (T := TX1) (v := .ref (g.P 14)) hx hb hts hown (fun _ h9 => iw_X1_prepare_X1 _ h9) hW (i := 1) (by decide) rfl rfl 4 (by decide) (hts (.fieldLink RX1 25 "ModEngine$Ring" "unit" "[I") (by decide +kernel)) rfl dX1_prepare_42 ?_
  refine lv_aload_n hx hb dX1_prepare_45 rfl (lv_at hl 0 rfl) ?_
  refine q_get (C := RX1) (T := TX1) (v := .int (nI g.k)) hx hb hts hown (fun _ h9 => iw_X1_prepare_X1 _ h9) hW (i := 1) (by decide) rfl rfl 1 (by decide) (hts (.fieldLink RX1 9 "ModEngine$Ring" "k" "I") (by decide +kernel)) rfl dX1_prepare_46 ?_
  refine q_v (q_runS (As := [.ref (g.P 15), .ref (g.P 14), .int (nI g.k)]) (rest := []) S hW (k_copy l g hg (((σ.setMi v)).setF F2) (rowk (by decide)) (rowk (by decide))) gX1_prepare_X0_copy (nA := 3) ⟨rfl, by decide +kernel, ⟨by decide, by decide⟩⟩ rfl hl.1 rfl (Nat.le_of_ble_eq_true rfl) dX1_prepare_49 ⟨Nat.zero_le _, Nat.zero_le _⟩) hW Ad_hi (fun σ3 H locs hp hW => ?_)
  obtain ⟨F3, e3, hf3, hv3⟩ : ∃ F', σ3 = ((σ.setMi v)).setF F' ∧ Fr F2 F' [15] ∧ qV g F' 15 = qV g F2 14 := hp
  rw [e3] at hW
  refine lv_aload_n hx hb dX1_prepare_52 rfl (lv_at hl 0 rfl) ?_
  refine lv_aload_n hx hb dX1_prepare_53 rfl (lv_at hl 0 rfl) ?_
  refine q_get (C := RX1) (T := TX1) (v := .ref (g.P 15)) hx hb hts hown (fun _ h9 => iw_X1_prepare_X1 _ h9) hW (i := 1) (by decide) rfl rfl 5 (by decide) (hts (.fieldLink RX1 28 "ModEngine$Ring" "rSquared" "[I") (by decide +kernel)) rfl dX1_prepare_54 ?_
  have m3 : qV g F3 12 = qV g σ.F 12 := (hf3.V (by decide)).trans m2
  rw [m1, hv1, h13, Nat.one_mul] at hv2
  refine q_v (q_runV (As := [.ref (g.P 15)]) (rest := []) (i := 1) S hW (by decide) rfl rfl (r_doubleOften l g hg (((σ.setMi v)).setF F3) (rowk (by decide)) (by decide) (by show qV g F3 15 < qV g F3 12; rw [m3, hv3, hv2]; exact Nat.mod_lt _ (by omega))) gX1_prepare_X1_doubleOften rfl (nA := 1) ⟨rfl, by decide +kernel, ⟨by decide, by decide⟩⟩ rfl hl.1 rfl (Nat.le_of_ble_eq_true rfl) dX1_prepare_57 ⟨Nat.zero_le _, Nat.zero_le _⟩) hW Ad_hi (fun σ4 H locs hp hW => ?_)
  obtain ⟨F4, e4, hf4, hv4⟩ : ∃ F', σ4 = ((σ.setMi v)).setF F' ∧ Fr F3 F' [15] ∧ qV g F' 15 = qV g F3 15 * 2 ^ (32 * g.k) % qV g F3 12 := hp
  rw [e4] at hW
  have m4 : qV g F4 12 = qV g σ.F 12 := (hf4.V (by decide)).trans m3
  have u4 : qV g F4 14 = 2 ^ (32 * g.k) % qV g σ.F 12 := ((hf4.V (by decide)).trans (hf3.V (by decide))).trans hv2
  have o4 : qV g F4 13 = 1 := (((hf4.V (by decide)).trans (hf3.V (by decide))).trans ((hf2.V (by decide)).trans (hf1.V (by decide)))).trans h13
  refine fin _ _ _ _ _ hW ⟨F4, v, rfl, fun r hr => ?_, ?_⟩ dX1_prepare_60
  · simp only [List.mem_cons, List.not_mem_nil, or_false, not_or] at hr
    rw [hf4 r (by simp; exact hr.2), hf3 r (by simp; exact hr.2), hf2 r (by simp; exact hr.1), hf1 r (by simp; exact hr.1)]
  · refine ⟨by rw [m4]; exact ho, by rw [m4]; exact h3, o4, by rw [u4, m4], ?_, ?_⟩
    · rw [hv4, m3, m4, hv3, hv2, Nat.mod_mul_mod]
    · rw [m4, ev]; exact minus_inv hinv ⟨q0, hq0⟩
set_option maxHeartbeats 4000000 in
set_option maxRecDepth 100000 in
/-- Ring.residue(into, a) -/
theorem r_residue (l : Launch) (g : qCfg) (hg : g.ok) (σ : qSt) {i j : Nat} (hi : 12 ≤ i ∧ i < g.N)(hj : 12 ≤ j ∧ j < g.N)(hi17 : 17 ≤ i) (hj17 : 17 ≤ j) (p0 : Pp g σ.F σ.mi)  : qCV l g yX1_residue wsX1_residue 3 75 [.ref (g.P 1), .ref (g.P i), .ref (g.P j)] σ (fun σ' => ∃ F', σ' = σ.setF F' ∧ Fr σ.F F' [16, i] ∧ qV g F' i = qV g σ.F j % qV g σ.F 12) := by
  refine q_sV (cc := cX1_residue) (maxL := 3) (by decide) rfl (Nat.le_of_ble_eq_true rfl) ?_
  intro p e s m args below meth c ls Q S hW hl fin
  obtain ⟨hx, hb, hml, hown, hts, hr, hlocks⟩ := id S
  obtain ⟨hk1, hk8, hn1, hn8⟩ := id hg
  have hl : lv_has ls 3 [(0, .ref (g.P 1)), (1, .ref (g.P i)), (2, .ref (g.P j))] := hl
  refine lv_aload_n hx hb dX1_residue_0 rfl (lv_at hl 0 rfl) ?_
  refine lv_aload_n hx hb dX1_residue_1 rfl (lv_at hl 1 rfl) ?_
  refine lv_aload_n hx hb dX1_residue_2 rfl (lv_at hl 2 rfl) ?_
  refine lv_aload_n hx hb dX1_residue_3 rfl (lv_at hl 0 rfl) ?_
  refine q_get (C := RX1) (T := TX1) (v := .ref (g.P 15)) hx hb hts hown (fun _ h9 => iw_X1_residue_X1 _ h9) hW (i := 1) (by decide) rfl rfl 5 (by decide) (hts (.fieldLink RX1 28 "ModEngine$Ring" "rSquared" "[I") (by decide +kernel)) rfl dX1_residue_4 ?_
  refine q_v (q_runV (As := [.ref (g.P i), .ref (g.P j), .ref (g.P 15)]) (rest := []) (i := 1) S hW (by decide) rfl rfl (r_montgomery l g hg σ hi hj (rowk (by decide)) (by omega) (by omega) (by omega) (by omega) p0.pos p0.2.2.2.2.2 (mlt_r p0.lt15)) gX1_residue_X1_montgomery rfl (nA := 3) ⟨rfl, by decide +kernel, ⟨by decide, by decide⟩⟩ rfl hl.1 rfl (Nat.le_of_ble_eq_true rfl) dX1_residue_7 ⟨Nat.zero_le _, Nat.zero_le _⟩) hW Ad_hi (fun σ1 H locs hp hW => ?_)
  obtain ⟨F1, e1, hf1, hl1, hv1⟩ : ∃ F', σ1 = σ.setF F' ∧ Fr σ.F F' [16, i] ∧ qV g F' i < qV g σ.F 12 ∧ qV g F' i * 2 ^ (32 * g.k) % qV g σ.F 12 = qV g σ.F j * qV g σ.F 15 % qV g σ.F 12 := hp
  rw [e1] at hW
  obtain ⟨p1, m1⟩ := p0.keep hf1 (ge16 (by omega))
  refine lv_aload_n hx hb dX1_residue_10 rfl (lv_at hl 0 rfl) ?_
  refine lv_aload_n hx hb dX1_residue_11 rfl (lv_at hl 1 rfl) ?_
  refine lv_aload_n hx hb dX1_residue_12 rfl (lv_at hl 1 rfl) ?_
  refine lv_aload_n hx hb dX1_residue_13 rfl (lv_at hl 0 rfl) ?_
  refine q_get (C := RX1) (T := TX1) (v := .ref (g.P 13)) hx hb hts hown (fun _ h9 => iw_X1_residue_X1 _ h9) hW (i := 1) (by decide) rfl rfl 3 (by decide) (hts (.fieldLink RX1 22 "ModEngine$Ring" "one" "[I") (by decide +kernel)) rfl dX1_residue_14 ?_
  refine q_v (q_runV (As := [.ref (g.P i), .ref (g.P i), .ref (g.P 13)]) (rest := []) (i := 1) S hW (by decide) rfl rfl (r_montgomery l g hg (σ.setF F1) hi hi (rowk (by decide)) (by omega) (by omega) (by omega) (by omega) p1.pos p1.2.2.2.2.2 (mlt_r p1.lt13)) gX1_residue_X1_montgomery rfl (nA := 3) ⟨rfl, by decide +kernel, ⟨by decide, by decide⟩⟩ rfl hl.1 rfl (Nat.le_of_ble_eq_true rfl) dX1_residue_17 ⟨Nat.zero_le _, Nat.zero_le _⟩) hW Ad_hi (fun σ2 H locs hp hW => ?_)
  obtain ⟨F2, e2, hf2, hl2, hv2⟩ : ∃ F', σ2 = σ.setF F' ∧ Fr F1 F' [16, i] ∧ qV g F' i < qV g F1 12 ∧ qV g F' i * 2 ^ (32 * g.k) % qV g F1 12 = qV g F1 i * qV g F1 13 % qV g F1 12 := hp
  rw [e2] at hW
  obtain ⟨p2, m2⟩ := p1.keep hf2 (ge16 (by omega))
  rw [m1] at m2
  have h1 := mf_to p0.1 p0.2.2.2.2.1 hv1
  rw [m1, p1.2.2.1] at hv2
  have h2 := mf_from p0.1 hv2 h1
  rw [m1] at hl2
  rw [Nat.mod_eq_of_lt hl2] at h2
  exact fin _ _ _ _ _ hW (⟨F2, rfl, fun r hr => by rw [hf2 r hr, hf1 r hr], h2⟩) dX1_residue_20
set_option maxHeartbeats 4000000 in
set_option maxRecDepth 100000 in
/-- Ring.sum(into, a, b) -/
theorem r_sum (l : Launch) (g : qCfg) (hg : g.ok) (σ : qSt) {i j r : Nat} (hi : 12 ≤ i ∧ i < g.N)(hj : 12 ≤ j ∧ j < g.N)(hrr : 12 ≤ r ∧ r < g.N) (hi21 : 21 ≤ i) (hj21 : 21 ≤ j) (hr21 : 21 ≤ r) (p0 : Pp g σ.F σ.mi)  : qCV l g yX1_sum wsX1_sum 4 97 [.ref (g.P 1), .ref (g.P i), .ref (g.P j), .ref (g.P r)] σ (fun σ' => ∃ F', σ' = σ.setF F' ∧ Fr σ.F F' [16, 17, 18, i] ∧ qV g F' i = (qV g σ.F j % qV g σ.F 12 + qV g σ.F r % qV g σ.F 12) % qV g σ.F 12) := by
  refine q_sV (cc := cX1_sum) (maxL := 4) (by decide) rfl (Nat.le_of_ble_eq_true rfl) ?_
  intro p e s m args below meth c ls Q S hW hl fin
  obtain ⟨hx, hb, hml, hown, hts, hr, hlocks⟩ := id S
  obtain ⟨hk1, hk8, hn1, hn8⟩ := id hg
  have hl : lv_has ls 4 [(0, .ref (g.P 1)), (1, .ref (g.P i)), (2, .ref (g.P j)), (3, .ref (g.P r))] := hl
  refine lv_aload_n hx hb dX1_sum_0 rfl (lv_at hl 0 rfl) ?_
  refine lv_aload_n hx hb dX1_sum_1 rfl (lv_at hl 0 rfl) ?_
  refine q_get (C := RX1) (T := TX1) (v := .ref (g.P 17)) hx hb hts hown (fun _ h9 => iw_X1_sum_X1 _ h9) hW (i := 1) (by decide) rfl rfl 7 (by decide) (hts (.fieldLink RX1 34 "ModEngine$Ring" "left" "[I") (by decide +kernel)) rfl dX1_sum_2 ?_
  refine lv_aload_n hx hb dX1_sum_5 rfl (lv_at hl 2 rfl) ?_
  refine q_v (q_runV (As := [.ref (g.P 17), .ref (g.P j)]) (rest := []) (i := 1) S hW (by decide) rfl rfl (r_residue l g hg σ (rowk (by decide)) hj (by omega) (by omega) p0) gX1_sum_X1_residue rfl (nA := 2) ⟨rfl, by decide +kernel, ⟨by decide, by decide⟩⟩ rfl hl.1 rfl (Nat.le_of_ble_eq_true rfl) dX1_sum_6 ⟨Nat.zero_le _, Nat.zero_le _⟩) hW Ad_hi (fun σ1 H locs hp hW => ?_)
  obtain ⟨F1, e1, hf1, hv1⟩ : ∃ F', σ1 = σ.setF F' ∧ Fr σ.F F' [16, 17] ∧ qV g F' 17 = qV g σ.F j % qV g σ.F 12 := hp
  rw [e1] at hW
  obtain ⟨p1, m1⟩ := p0.keep hf1 (ge16 (by omega))
  refine lv_aload_n hx hb dX1_sum_9 rfl (lv_at hl 0 rfl) ?_
  refine lv_aload_n hx hb dX1_sum_10 rfl (lv_at hl 0 rfl) ?_
  refine q_get (C := RX1) (T := TX1) (v := .ref (g.P 18)) hx hb hts hown (fun _ h9 => iw_X1_sum_X1 _ h9) hW (i := 1) (by decide) rfl rfl 8 (by decide) (hts (.fieldLink RX1 37 "ModEngine$Ring" "right" "[I") (by decide +kernel)) rfl dX1_sum_11 ?_
  refine lv_aload_n hx hb dX1_sum_14 rfl (lv_at hl 3 rfl) ?_
  refine q_v (q_runV (As := [.ref (g.P 18), .ref (g.P r)]) (rest := []) (i := 1) S hW (by decide) rfl rfl (r_residue l g hg (σ.setF F1) (rowk (by decide)) hrr (by omega) (by omega) p1) gX1_sum_X1_residue rfl (nA := 2) ⟨rfl, by decide +kernel, ⟨by decide, by decide⟩⟩ rfl hl.1 rfl (Nat.le_of_ble_eq_true rfl) dX1_sum_15 ⟨Nat.zero_le _, Nat.zero_le _⟩) hW Ad_hi (fun σ2 H locs hp hW => ?_)
  obtain ⟨F2, e2, hf2, hv2⟩ : ∃ F', σ2 = σ.setF F' ∧ Fr F1 F' [16, 18] ∧ qV g F' 18 = qV g F1 r % qV g F1 12 := hp
  rw [e2] at hW
  obtain ⟨p2, m2⟩ := p1.keep hf2 (ge16 (by omega))
  rw [m1] at m2
  rw [hf1.V (by simp; omega), m1] at hv2
  have hv3 : qV g F2 17 = qV g σ.F j % qV g σ.F 12 := (hf2.V (by decide)).trans hv1
  have hb1 : qV g F2 17 < qV g F2 12 := by rw [hv3, m2]; exact Nat.mod_lt _ p0.pos
  have hb2 : qV g F2 18 < qV g F2 12 := by rw [hv2, m2]; exact Nat.mod_lt _ p0.pos
  refine lv_aload_n hx hb dX1_sum_18 rfl (lv_at hl 0 rfl) ?_
  refine lv_aload_n hx hb dX1_sum_19 rfl (lv_at hl 1 rfl) ?_
  refine lv_aload_n hx hb dX1_sum_20 rfl (lv_at hl 0 rfl) ?_
  refine q_get (C := RX1) (T := TX1) (v := .ref (g.P 17)) hx hb hts hown (fun _ h9 => iw_X1_sum_X1 _ h9) hW (i := 1) (by decide) rfl rfl 7 (by decide) (hts (.fieldLink RX1 34 "ModEngine$Ring" "left" "[I") (by decide +kernel)) rfl dX1_sum_21 ?_
  refine lv_aload_n hx hb dX1_sum_24 rfl (lv_at hl 0 rfl) ?_
  refine q_get (C := RX1) (T := TX1) (v := .ref (g.P 18)) hx hb hts hown (fun _ h9 => iw_X1_sum_X1 _ h9) hW (i := 1) (by decide) rfl rfl 8 (by decide) (hts (.fieldLink RX1 37 "ModEngine$Ring" "right" "[I") (by decide +kernel)) rfl dX1_sum_25 ?_
  refine q_v (q_runV (As := [.ref (g.P i), .ref (g.P 17), .ref (g.P 18)]) (rest := []) (i := 1) S hW (by decide) rfl rfl (r_addBelow l g hg (σ.setF F2) hi (rowk (by decide)) (rowk (by decide)) (by omega) hb1 hb2) gX1_sum_X1_addBelow rfl (nA := 3) ⟨rfl, by decide +kernel, ⟨by decide, by decide⟩⟩ rfl hl.1 rfl (Nat.le_of_ble_eq_true rfl) dX1_sum_28 ⟨Nat.zero_le _, Nat.zero_le _⟩) hW Ad_hi (fun σ3 H locs hp hW => ?_)
  obtain ⟨F3, e3, hf3, hv4⟩ : ∃ F', σ3 = σ.setF F' ∧ Fr F2 F' [i] ∧ qV g F' i = (qV g F2 17 + qV g F2 18) % qV g F2 12 := hp
  rw [e3] at hW
  rw [hv3, hv2, m2] at hv4
  exact fin _ _ _ _ _ hW (⟨F3, rfl, fun a ha => by
      simp only [List.mem_cons, List.not_mem_nil, or_false, not_or] at ha
      rw [hf3 a (by simp; omega), hf2 a (by simp; omega), hf1 a (by simp; omega)], hv4⟩) dX1_sum_31
set_option maxHeartbeats 4000000 in
set_option maxRecDepth 100000 in
/-- Ring.difference(into, a, b) -/
theorem r_difference (l : Launch) (g : qCfg) (hg : g.ok) (σ : qSt) {i j r : Nat} (hi : 12 ≤ i ∧ i < g.N)(hj : 12 ≤ j ∧ j < g.N)(hrr : 12 ≤ r ∧ r < g.N) (hi21 : 21 ≤ i) (hj21 : 21 ≤ j) (hr21 : 21 ≤ r) (p0 : Pp g σ.F σ.mi)  : qCV l g yX1_difference wsX1_difference 4 97 [.ref (g.P 1), .ref (g.P i), .ref (g.P j), .ref (g.P r)] σ (fun σ' => ∃ F', σ' = σ.setF F' ∧ Fr σ.F F' [16, 17, 18, i] ∧ qV g F' i = if qV g σ.F r % qV g σ.F 12 ≤ qV g σ.F j % qV g σ.F 12 then qV g σ.F j % qV g σ.F 12 - qV g σ.F r % qV g σ.F 12 else qV g σ.F j % qV g σ.F 12 + qV g σ.F 12 - qV g σ.F r % qV g σ.F 12) := by
  refine q_sV (cc := cX1_difference) (maxL := 4) (by decide) rfl (Nat.le_of_ble_eq_true rfl) ?_
  intro p e s m args below meth c ls Q S hW hl fin
  obtain ⟨hx, hb, hml, hown, hts, hr, hlocks⟩ := id S
  obtain ⟨hk1, hk8, hn1, hn8⟩ := id hg
  have hl : lv_has ls 4 [(0, .ref (g.P 1)), (1, .ref (g.P i)), (2, .ref (g.P j)), (3, .ref (g.P r))] := hl
  refine lv_aload_n hx hb dX1_difference_0 rfl (lv_at hl 0 rfl) ?_
  refine lv_aload_n hx hb dX1_difference_1 rfl (lv_at hl 0 rfl) ?_
  refine q_get (C := RX1) (T := TX1) (v := .ref (g.P 17)) hx hb hts hown (fun _ h9 => iw_X1_difference_X1 _ h9) hW (i := 1) (by decide) rfl rfl 7 (by decide) (hts (.fieldLink RX1 34 "ModEngine$Ring" "left" "[I") (by decide +kernel)) rfl dX1_difference_2 ?_
  refine lv_aload_n hx hb dX1_difference_5 rfl (lv_at hl 2 rfl) ?_
  refine q_v (q_runV (As := [.ref (g.P 17), .ref (g.P j)]) (rest := []) (i := 1) S hW (by decide) rfl rfl (r_residue l g hg σ (rowk (by decide)) hj (by omega) (by omega) p0) gX1_difference_X1_residue rfl (nA := 2) ⟨rfl, by decide +kernel, ⟨by decide, by decide⟩⟩ rfl hl.1 rfl (Nat.le_of_ble_eq_true rfl) dX1_difference_6 ⟨Nat.zero_le _, Nat.zero_le _⟩) hW Ad_hi (fun σ1 H locs hp hW => ?_)
  obtain ⟨F1, e1, hf1, hv1⟩ : ∃ F', σ1 = σ.setF F' ∧ Fr σ.F F' [16, 17] ∧ qV g F' 17 = qV g σ.F j % qV g σ.F 12 := hp
  rw [e1] at hW
  obtain ⟨p1, m1⟩ := p0.keep hf1 (ge16 (by omega))
  refine lv_aload_n hx hb dX1_difference_9 rfl (lv_at hl 0 rfl) ?_
  refine lv_aload_n hx hb dX1_difference_10 rfl (lv_at hl 0 rfl) ?_
  refine q_get (C := RX1) (T := TX1) (v := .ref (g.P 18)) hx hb hts hown (fun _ h9 => iw_X1_difference_X1 _ h9) hW (i := 1) (by decide) rfl rfl 8 (by decide) (hts (.fieldLink RX1 37 "ModEngine$Ring" "right" "[I") (by decide +kernel)) rfl dX1_difference_11 ?_
  refine lv_aload_n hx hb dX1_difference_14 rfl (lv_at hl 3 rfl) ?_
  refine q_v (q_runV (As := [.ref (g.P 18), .ref (g.P r)]) (rest := []) (i := 1) S hW (by decide) rfl rfl (r_residue l g hg (σ.setF F1) (rowk (by decide)) hrr (by omega) (by omega) p1) gX1_difference_X1_residue rfl (nA := 2) ⟨rfl, by decide +kernel, ⟨by decide, by decide⟩⟩ rfl hl.1 rfl (Nat.le_of_ble_eq_true rfl) dX1_difference_15 ⟨Nat.zero_le _, Nat.zero_le _⟩) hW Ad_hi (fun σ2 H locs hp hW => ?_)
  obtain ⟨F2, e2, hf2, hv2⟩ : ∃ F', σ2 = σ.setF F' ∧ Fr F1 F' [16, 18] ∧ qV g F' 18 = qV g F1 r % qV g F1 12 := hp
  rw [e2] at hW
  obtain ⟨p2, m2⟩ := p1.keep hf2 (ge16 (by omega))
  rw [m1] at m2
  rw [hf1.V (by simp; omega), m1] at hv2
  have hv3 : qV g F2 17 = qV g σ.F j % qV g σ.F 12 := (hf2.V (by decide)).trans hv1
  have hb1 : qV g F2 17 < qV g F2 12 := by rw [hv3, m2]; exact Nat.mod_lt _ p0.pos
  have hb2 : qV g F2 18 < qV g F2 12 := by rw [hv2, m2]; exact Nat.mod_lt _ p0.pos
  refine lv_aload_n hx hb dX1_difference_18 rfl (lv_at hl 0 rfl) ?_
  refine lv_aload_n hx hb dX1_difference_19 rfl (lv_at hl 1 rfl) ?_
  refine lv_aload_n hx hb dX1_difference_20 rfl (lv_at hl 0 rfl) ?_
  refine q_get (C := RX1) (T := TX1) (v := .ref (g.P 17)) hx hb hts hown (fun _ h9 => iw_X1_difference_X1 _ h9) hW (i := 1) (by decide) rfl rfl 7 (by decide) (hts (.fieldLink RX1 34 "ModEngine$Ring" "left" "[I") (by decide +kernel)) rfl dX1_difference_21 ?_
  refine lv_aload_n hx hb dX1_difference_24 rfl (lv_at hl 0 rfl) ?_
  refine q_get (C := RX1) (T := TX1) (v := .ref (g.P 18)) hx hb hts hown (fun _ h9 => iw_X1_difference_X1 _ h9) hW (i := 1) (by decide) rfl rfl 8 (by decide) (hts (.fieldLink RX1 37 "ModEngine$Ring" "right" "[I") (by decide +kernel)) rfl dX1_difference_25 ?_
  refine q_v (q_runV (As := [.ref (g.P i), .ref (g.P 17), .ref (g.P 18)]) (rest := []) (i := 1) S hW (by decide) rfl rfl (r_subtractBelow l g hg (σ.setF F2) hi (rowk (by decide)) (rowk (by decide)) (by omega) (Nat.le_trans (Nat.le_of_lt hb2) (Nat.le_add_left _ _))) gX1_difference_X1_subtractBelow rfl (nA := 3) ⟨rfl, by decide +kernel, ⟨by decide, by decide⟩⟩ rfl hl.1 rfl (Nat.le_of_ble_eq_true rfl) dX1_difference_28 ⟨Nat.zero_le _, Nat.zero_le _⟩) hW Ad_hi (fun σ3 H locs hp hW => ?_)
  obtain ⟨F3, e3, hf3, hv4⟩ : ∃ F', σ3 = σ.setF F' ∧ Fr F2 F' [i] ∧ qV g F' i = if qV g F2 18 ≤ qV g F2 17 then qV g F2 17 - qV g F2 18 else qV g F2 17 + qV g F2 12 - qV g F2 18 := hp
  rw [e3] at hW
  rw [hv3, hv2, m2] at hv4
  exact fin _ _ _ _ _ hW (⟨F3, rfl, fun a ha => by
      simp only [List.mem_cons, List.not_mem_nil, or_false, not_or] at ha
      rw [hf3 a (by simp; omega), hf2 a (by simp; omega), hf1 a (by simp; omega)], hv4⟩) dX1_difference_31
set_option maxHeartbeats 4000000 in
set_option maxRecDepth 100000 in
/-- Ring.product(into, a, b) -/
theorem r_product (l : Launch) (g : qCfg) (hg : g.ok) (σ : qSt) {i j r : Nat} (hi : 12 ≤ i ∧ i < g.N)(hj : 12 ≤ j ∧ j < g.N)(hrr : 12 ≤ r ∧ r < g.N) (hi17 : 17 ≤ i) (hj17 : 17 ≤ j) (hr18 : 18 ≤ r) (p0 : Pp g σ.F σ.mi)  : qCV l g yX1_product wsX1_product 3 75 [.ref (g.P 1), .ref (g.P i), .ref (g.P j), .ref (g.P r)] σ (fun σ' => ∃ F', σ' = σ.setF F' ∧ Fr σ.F F' [16, 17, i] ∧ qV g F' i = qV g σ.F j * qV g σ.F r % qV g σ.F 12) := by
  refine q_sV (cc := cX1_product) (maxL := 4) (by decide) rfl (Nat.le_of_ble_eq_true rfl) ?_
  intro p e s m args below meth c ls Q S hW hl fin
  obtain ⟨hx, hb, hml, hown, hts, hr, hlocks⟩ := id S
  obtain ⟨hk1, hk8, hn1, hn8⟩ := id hg
  have hl : lv_has ls 4 [(0, .ref (g.P 1)), (1, .ref (g.P i)), (2, .ref (g.P j)), (3, .ref (g.P r))] := hl
  refine lv_aload_n hx hb dX1_product_0 rfl (lv_at hl 0 rfl) ?_
  refine lv_aload_n hx hb dX1_product_1 rfl (lv_at hl 0 rfl) ?_
  refine q_get (C := RX1) (T := TX1) (v := .ref (g.P 17)) hx hb hts hown (fun _ h9 => iw_X1_product_X1 _ h9) hW (i := 1) (by decide) rfl rfl 7 (by decide) (hts (.fieldLink RX1 34 "ModEngine$Ring" "left" "[I") (by decide +kernel)) rfl dX1_product_2 ?_
  refine lv_aload_n hx hb dX1_product_5 rfl (lv_at hl 2 rfl) ?_
  refine lv_aload_n hx hb dX1_product_6 rfl (lv_at hl 0 rfl) ?_
  refine q_get (C := RX1) (T := TX1) (v := .ref (g.P 15)) hx hb hts hown (fun _ h9 => iw_X1_product_X1 _ h9) hW (i := 1) (by decide) rfl rfl 5 (by decide) (hts (.fieldLink RX1 28 "ModEngine$Ring" "rSquared" "[I") (by decide +kernel)) rfl dX1_product_7 ?_
  refine q_v (q_runV (As := [.ref (g.P 17), .ref (g.P j), .ref (g.P 15)]) (rest := []) (i := 1) S hW (by decide) rfl rfl (r_montgomery l g hg σ (rowk (by decide)) hj (rowk (by decide)) (by omega) (by omega) (by omega) (by omega) p0.pos p0.2.2.2.2.2 (mlt_r p0.lt15)) gX1_product_X1_montgomery rfl (nA := 3) ⟨rfl, by decide +kernel, ⟨by decide, by decide⟩⟩ rfl hl.1 rfl (Nat.le_of_ble_eq_true rfl) dX1_product_10 ⟨Nat.zero_le _, Nat.zero_le _⟩) hW Ad_hi (fun σ1 H locs hp hW => ?_)
  obtain ⟨F1, e1, hf1, hl1, hv1⟩ : ∃ F', σ1 = σ.setF F' ∧ Fr σ.F F' [16, 17] ∧ qV g F' 17 < qV g σ.F 12 ∧ qV g F' 17 * 2 ^ (32 * g.k) % qV g σ.F 12 = qV g σ.F j * qV g σ.F 15 % qV g σ.F 12 := hp
  rw [e1] at hW
  obtain ⟨p1, m1⟩ := p0.keep hf1 (ge16 (by omega))
  refine lv_aload_n hx hb dX1_product_13 rfl (lv_at hl 0 rfl) ?_
  refine lv_aload_n hx hb dX1_product_14 rfl (lv_at hl 1 rfl) ?_
  refine lv_aload_n hx hb dX1_product_15 rfl (lv_at hl 0 rfl) ?_
  refine q_get (C := RX1) (T := TX1) (v := .ref (g.P 17)) hx hb hts hown (fun _ h9 => iw_X1_product_X1 _ h9) hW (i := 1) (by decide) rfl rfl 7 (by decide) (hts (.fieldLink RX1 34 "ModEngine$Ring" "left" "[I") (by decide +kernel)) rfl dX1_product_16 ?_
  refine lv_aload_n hx hb dX1_product_19 rfl (lv_at hl 3 rfl) ?_
  refine q_v (q_runV (As := [.ref (g.P i), .ref (g.P 17), .ref (g.P r)]) (rest := []) (i := 1) S hW (by decide) rfl rfl (r_montgomery l g hg (σ.setF F1) hi (rowk (by decide)) hrr (by omega) (by omega) (by omega) (by omega) p1.pos p1.2.2.2.2.2 (mlt_l (by show qV g F1 17 < qV g F1 12; rw [m1]; exact hl1))) gX1_product_X1_montgomery rfl (nA := 3) ⟨rfl, by decide +kernel, ⟨by decide, by decide⟩⟩ rfl hl.1 rfl (Nat.le_of_ble_eq_true rfl) dX1_product_20 ⟨Nat.zero_le _, Nat.zero_le _⟩) hW Ad_hi (fun σ2 H locs hp hW => ?_)
  obtain ⟨F2, e2, hf2, hl2, hv2⟩ : ∃ F', σ2 = σ.setF F' ∧ Fr F1 F' [16, i] ∧ qV g F' i < qV g F1 12 ∧ qV g F' i * 2 ^ (32 * g.k) % qV g F1 12 = qV g F1 17 * qV g F1 r % qV g F1 12 := hp
  rw [e2] at hW
  obtain ⟨p2, m2⟩ := p1.keep hf2 (ge16 (by omega))
  rw [m1] at m2
  have h1 := mf_to p0.1 p0.2.2.2.2.1 hv1
  rw [m1, hf1.V (show r ∉ [16, 17] by simp; omega)] at hv2
  have h2 := mf_mul1 p0.1 hv2 h1
  rw [m1] at hl2
  rw [Nat.mod_eq_of_lt hl2] at h2
  exact fin _ _ _ _ _ hW (⟨F2, rfl, fun a ha => by
      simp only [List.mem_cons, List.not_mem_nil, or_false, not_or] at ha
      rw [hf2 a (by simp; omega), hf1 a (by simp; omega)], h2⟩) dX1_product_23
set_option maxHeartbeats 4000000 in
set_option maxRecDepth 100000 in
/-- Ring.productByR(into, a, b) -/
theorem r_productByR (l : Launch) (g : qCfg) (hg : g.ok) (σ : qSt) {i j r : Nat} (hi : 12 ≤ i ∧ i < g.N)(hj : 12 ≤ j ∧ j < g.N)(hrr : 12 ≤ r ∧ r < g.N) (hi17 : 17 ≤ i) (hj17 : 17 ≤ j) (hr18 : 18 ≤ r) (p0 : Pp g σ.F σ.mi)  : qCV l g yX1_productByR wsX1_productByR 4 98 [.ref (g.P 1), .ref (g.P i), .ref (g.P j), .ref (g.P r)] σ (fun σ' => ∃ F', σ' = σ.setF F' ∧ Fr σ.F F' [16, 17, i] ∧ qV g F' i < qV g σ.F 12 ∧ qV g F' i * 2 ^ (32 * g.k) % qV g σ.F 12 = qV g σ.F j * qV g σ.F r % qV g σ.F 12) := by
  refine q_sV (cc := cX1_productByR) (maxL := 4) (by decide) rfl (Nat.le_of_ble_eq_true rfl) ?_
  intro p e s m args below meth c ls Q S hW hl fin
  obtain ⟨hx, hb, hml, hown, hts, hr, hlocks⟩ := id S
  obtain ⟨hk1, hk8, hn1, hn8⟩ := id hg
  have hl : lv_has ls 4 [(0, .ref (g.P 1)), (1, .ref (g.P i)), (2, .ref (g.P j)), (3, .ref (g.P r))] := hl
  refine lv_aload_n hx hb dX1_productByR_0 rfl (lv_at hl 0 rfl) ?_
  refine lv_aload_n hx hb dX1_productByR_1 rfl (lv_at hl 0 rfl) ?_
  refine q_get (C := RX1) (T := TX1) (v := .ref (g.P 17)) hx hb hts hown (fun _ h9 => iw_X1_productByR_X1 _ h9) hW (i := 1) (by decide) rfl rfl 7 (by decide) (hts (.fieldLink RX1 34 "ModEngine$Ring" "left" "[I") (by decide +kernel)) rfl dX1_productByR_2 ?_
  refine lv_aload_n hx hb dX1_productByR_5 rfl (lv_at hl 2 rfl) ?_
  refine lv_aload_n hx hb dX1_productByR_6 rfl (lv_at hl 3 rfl) ?_
  refine q_v (q_runV (As := [.ref (g.P 17), .ref (g.P j), .ref (g.P r)]) (rest := []) (i := 1) S hW (by decide) rfl rfl (r_product l g hg σ (rowk (by decide)) hj hrr (by omega) hj17 hr18 p0) gX1_productByR_X1_product rfl (nA := 3) ⟨rfl, by decide +kernel, ⟨by decide, by decide⟩⟩ rfl hl.1 rfl (Nat.le_of_ble_eq_true rfl) dX1_productByR_7 ⟨Nat.zero_le _, Nat.zero_le _⟩) hW Ad_hi (fun σ1 H locs hp hW => ?_)
  obtain ⟨F1, e1, hf1, hv1⟩ : ∃ F', σ1 = σ.setF F' ∧ Fr σ.F F' [16, 17, 17] ∧ qV g F' 17 = qV g σ.F j * qV g σ.F r % qV g σ.F 12 := hp
  rw [e1] at hW
  obtain ⟨p1, m1⟩ := p0.keep hf1 (by decide)
  refine lv_aload_n hx hb dX1_productByR_10 rfl (lv_at hl 0 rfl) ?_
  refine lv_aload_n hx hb dX1_productByR_11 rfl (lv_at hl 1 rfl) ?_
  refine lv_aload_n hx hb dX1_productByR_12 rfl (lv_at hl 0 rfl) ?_
  refine q_get (C := RX1) (T := TX1) (v := .ref (g.P 17)) hx hb hts hown (fun _ h9 => iw_X1_productByR_X1 _ h9) hW (i := 1) (by decide) rfl rfl 7 (by decide) (hts (.fieldLink RX1 34 "ModEngine$Ring" "left" "[I") (by decide +kernel)) rfl dX1_productByR_13 ?_
  refine lv_aload_n hx hb dX1_productByR_16 rfl (lv_at hl 0 rfl) ?_
  refine q_get (C := RX1) (T := TX1) (v := .ref (g.P 13)) hx hb hts hown (fun _ h9 => iw_X1_productByR_X1 _ h9) hW (i := 1) (by decide) rfl rfl 3 (by decide) (hts (.fieldLink RX1 22 "ModEngine$Ring" "one" "[I") (by decide +kernel)) rfl dX1_productByR_17 ?_
  refine q_v (q_runV (As := [.ref (g.P i), .ref (g.P 17), .ref (g.P 13)]) (rest := []) (i := 1) S hW (by decide) rfl rfl (r_montgomery l g hg (σ.setF F1) hi (rowk (by decide)) (rowk (by decide)) (by omega) (by omega) (by omega) (by omega) p1.pos p1.2.2.2.2.2 (mlt_r p1.lt13)) gX1_productByR_X1_montgomery rfl (nA := 3) ⟨rfl, by decide +kernel, ⟨by decide, by decide⟩⟩ rfl hl.1 rfl (Nat.le_of_ble_eq_true rfl) dX1_productByR_20 ⟨Nat.zero_le _, Nat.zero_le _⟩) hW Ad_hi (fun σ2 H locs hp hW => ?_)
  obtain ⟨F2, e2, hf2, hl2, hv2⟩ : ∃ F', σ2 = σ.setF F' ∧ Fr F1 F' [16, i] ∧ qV g F' i < qV g F1 12 ∧ qV g F' i * 2 ^ (32 * g.k) % qV g F1 12 = qV g F1 17 * qV g F1 13 % qV g F1 12 := hp
  rw [e2] at hW
  obtain ⟨p2, m2⟩ := p1.keep hf2 (ge16 (by omega))
  rw [m1] at m2
  rw [m1, p1.2.2.1, Nat.mul_one, hv1, Nat.mod_mod] at hv2
  rw [m1] at hl2
  exact fin _ _ _ _ _ hW (⟨F2, rfl, fun a ha => by
      simp only [List.mem_cons, List.not_mem_nil, or_false, not_or] at ha
      rw [hf2 a (by simp; omega), hf1 a (by simp; omega)], hl2, hv2⟩) dX1_productByR_23
set_option maxHeartbeats 4000000 in
set_option maxRecDepth 100000 in
/-- Ring.raise(into, base, exponent, lowest), in Montgomery's form -/
theorem r_raise (l : Launch) (g : qCfg) (hg : g.ok) (σ : qSt) {i b x : Nat} (hi : 12 ≤ i ∧ i < g.N)(hb : 12 ≤ b ∧ b < g.N)(hxx : 12 ≤ x ∧ x < g.N) (hi17 : 17 ≤ i) (hb17 : 17 ≤ b) (hib : i ≠ b) (hix : i ≠ x) (hx16 : x ≠ 16) (p0 : Pp g σ.F σ.mi) (u c0 : Nat) (hu : u < 2 ^ 30) (hbm : qV g σ.F b < qV g σ.F 12) (hb0 : qV g σ.F b % qV g σ.F 12 = c0 * 2 ^ (32 * g.k) % qV g σ.F 12) : qCV l g yX1_raise wsX1_raise 3 75 [.ref (g.P 1), .ref (g.P i), .ref (g.P b), .ref (g.P x), .int (nI u)] σ (fun σ' => ∃ F', σ' = σ.setF F' ∧ Fr σ.F F' [16, i] ∧ qV g F' i < qV g σ.F 12 ∧ qV g F' i % qV g σ.F 12 = c0 ^ (qV g σ.F x / 2 ^ u) * 2 ^ (32 * g.k) % qV g σ.F 12) := by
  refine q_sV (cc := cX1_raise) (maxL := 6) (by decide) rfl (Nat.le_of_ble_eq_true rfl) ?_
  intro p e s m args below meth c ls Q S hW hl fin
  obtain ⟨hx, hbc, hml, hown, hts, hr, hlocks⟩ := id S
  obtain ⟨hk1, hk8, hn1, hn8⟩ := id hg
  have hl : lv_has ls 6 [(0, .ref (g.P 1)), (1, .ref (g.P i)), (2, .ref (g.P b)), (3, .ref (g.P x)), (4, .int (nI u))] := hl
  have loop : ∀ (y : Nat) (F : Nat → Nat → Int32), y ≤ 32 * g.k → Fr σ.F F [16, i] → qV g F i < qV g σ.F 12 → (u ≤ y ∨ qV g σ.F x < 2 ^ y) → qV g F i % qV g σ.F 12 = c0 ^ (qV g σ.F x / 2 ^ y) * 2 ^ (32 * g.k) % qV g σ.F 12 → ∀ (H : Heap) (locs : List Loc) (ls : Array Slot), Wo g (Ad g s.heap.size) s H locs (σ.setF F) → lv_has ls 6 [(5, .int (nI y - 1)), (0, .ref (g.P 1)), (1, .ref (g.P i)), (2, .ref (g.P b)), (3, .ref (g.P x)), (4, .int (nI u))] → W p l e (rmm 3 75) s m args below meth c H locs 0 0 Q (F0 m 22 ls []) := by
    intro y
    induction y with
    | zero =>
      intro F hy hf hl0 hyx hv H locs ls hW hl
      refine lv_iload hx hbc dX1_raise_22 (lv_at hl 0 rfl) ?_
      refine lv_iload hx hbc dX1_raise_24 (lv_at hl 5 rfl) ?_
      refine lv_icmp_lt (tgt := 58) hx hbc dX1_raise_26 (by decide) (fun _ => ?_) (fun c9 => absurd (neg_lt_nI (by omega)) c9)
      have he : qV g σ.F x / 2 ^ u = qV g σ.F x / 2 ^ 0 := by
        rcases hyx with q | q
        · rw [show u = 0 by omega]
        · have : qV g σ.F x = 0 := by omega
          rw [this, Nat.zero_div, Nat.zero_div]
      exact fin _ _ _ _ _ hW (⟨F, rfl, hf, hl0, by rw [he]; exact hv⟩) dX1_raise_58
    | succ y ih =>
      intro F hy hf hl0 hyx hv H locs ls hW hl
      rw [nI_pred] at hl
      obtain ⟨pF, mF⟩ := p0.keep hf (ge16 hi17)
      refine lv_iload hx hbc dX1_raise_22 (lv_at hl 0 rfl) ?_
      refine lv_iload hx hbc dX1_raise_24 (lv_at hl 5 rfl) ?_
      refine lv_icmp_lt (tgt := 58) hx hbc dX1_raise_26 (by decide) (fun c9 => ?_) (fun c9 => ?_)
      · have hyu : y < u := (nI_ltI (by omega) (by omega)).mp c9
        have he : qV g σ.F x / 2 ^ u = qV g σ.F x / 2 ^ (y + 1) := by
          rcases hyx with q | q
          · rw [show u = y + 1 by omega]
          · rw [Nat.div_eq_of_lt q, Nat.div_eq_of_lt (Nat.lt_of_lt_of_le q (Nat.pow_le_pow_right (by decide) hyu))]
        exact fin _ _ _ _ _ hW (⟨F, rfl, hf, hl0, by rw [he]; exact hv⟩) dX1_raise_58
      · have hyu : u ≤ y := Nat.not_lt.mp (fun q => c9 (nI_lt q (by omega)))
        refine lv_aload_n hx hbc dX1_raise_29 rfl (lv_at hl 1 rfl) ?_
        refine lv_aload_n hx hbc dX1_raise_30 rfl (lv_at hl 2 rfl) ?_
        refine lv_aload_n hx hbc dX1_raise_31 rfl (lv_at hl 2 rfl) ?_
        refine lv_aload_n hx hbc dX1_raise_32 rfl (lv_at hl 2 rfl) ?_
        refine q_v (q_runV (As := [.ref (g.P i), .ref (g.P i), .ref (g.P i)]) (rest := []) (i := 1) S hW (by decide) rfl rfl (r_montgomery l g hg (σ.setF F) hi hi hi (by omega) (by omega) (by omega) (by omega) pF.pos pF.2.2.2.2.2 (mlt_l (by show qV g F i < qV g F 12; rw [mF]; exact hl0))) gX1_raise_X1_montgomery rfl (nA := 3) ⟨rfl, by decide +kernel, ⟨by decide, by decide⟩⟩ rfl hl.1 rfl (Nat.le_of_ble_eq_true rfl) dX1_raise_33 ⟨Nat.zero_le _, Nat.zero_le _⟩) hW Ad_hi (fun σ1 H locs hp hW => ?_)
        obtain ⟨F1, e1, hf1, hl1, hv1⟩ : ∃ F', σ1 = σ.setF F' ∧ Fr F F' [16, i] ∧ qV g F' i < qV g F 12 ∧ qV g F' i * 2 ^ (32 * g.k) % qV g F 12 = qV g F i * qV g F i % qV g F 12 := hp
        rw [e1] at hW
        obtain ⟨p1, m1⟩ := pF.keep hf1 (ge16 (by omega))
        rw [mF] at m1
        rw [mF] at hv1 hl1
        have h1 := mf_mul p0.1 hv1 hv hv
        have hf1a : Fr σ.F F1 [16, i] := fun a ha => by rw [hf1 a ha, hf a ha]
        refine lv_aload_n hx hbc dX1_raise_36 rfl (lv_at hl 4 rfl) ?_
        refine lv_iload hx hbc dX1_raise_37 (lv_at hl 0 rfl) ?_
        refine q_i (q_runS (As := [.ref (g.P x), .int (nI y)]) (rest := []) S hW (k_isBitSet l g hg (σ.setF F1) hxx (b := y) (by omega)) gX1_raise_X0_isBitSet (nA := 2) ⟨rfl, by decide +kernel, ⟨by decide, by decide⟩⟩ rfl hl.1 rfl (Nat.le_of_ble_eq_true rfl) dX1_raise_39 ⟨Nat.zero_le _, Nat.zero_le _⟩) hW Ad_hi (fun r_39 σ2 H locs hp hW => ?_)
        obtain ⟨e2, er2⟩ : σ2 = σ.setF F1 ∧ r_39 = if (qV g F1 x).testBit y = true then 1 else 0 := hp
        rw [e2] at hW
        rw [hf1a.V (show x ∉ [16, i] by simp; omega)] at er2
        refine lv_if_eq (tgt := 52) hx hbc dX1_raise_42 (by decide) (fun c8 => ?_) (fun c8 => ?_)
        · have hbit := (fa_boolp er2).1.mp c8
          refine lv_iinc (v := nI y - 1) (lv' := [(5, .int (nI y - 1)), (0, .ref (g.P 1)), (1, .ref (g.P i)), (2, .ref (g.P b)), (3, .ref (g.P x)), (4, .int (nI u))]) hx hbc dX1_raise_52 hl (k := 0) rfl (by rw [Int32.sub_eq_add_neg]; rfl) (by decide) rfl (fun ls hl => ?_)
          refine lv_goto (tgt := 22) hx hbc dX1_raise_55 (by decide) ?_
          exact ih F1 (by omega) hf1a hl1 (Or.inl hyu) (pw_step h1 hbit) H locs ls hW (lv_sub hl [0, 1, 2, 3, 4, 5] rfl)
        · have hbit := (fa_boolp er2).2.mp c8
          refine lv_aload_n hx hbc dX1_raise_45 rfl (lv_at hl 1 rfl) ?_
          refine lv_aload_n hx hbc dX1_raise_46 rfl (lv_at hl 2 rfl) ?_
          refine lv_aload_n hx hbc dX1_raise_47 rfl (lv_at hl 2 rfl) ?_
          refine lv_aload_n hx hbc dX1_raise_48 rfl (lv_at hl 3 rfl) ?_
          refine q_v (q_runV (As := [.ref (g.P i), .ref (g.P i), .ref (g.P b)]) (rest := []) (i := 1) S hW (by decide) rfl rfl (r_montgomery l g hg (σ.setF F1) hi hi hb (by omega) (by omega) (by omega) (by omega) p1.pos p1.2.2.2.2.2 (mlt_l (by show qV g F1 i < qV g F1 12; rw [m1]; exact hl1))) gX1_raise_X1_montgomery rfl (nA := 3) ⟨rfl, by decide +kernel, ⟨by decide, by decide⟩⟩ rfl hl.1 rfl (Nat.le_of_ble_eq_true rfl) dX1_raise_49 ⟨Nat.zero_le _, Nat.zero_le _⟩) hW Ad_hi (fun σ3 H locs hp hW => ?_)
          obtain ⟨F3, e3, hf3, hl3, hv3⟩ : ∃ F', σ3 = σ.setF F' ∧ Fr F1 F' [16, i] ∧ qV g F' i < qV g F1 12 ∧ qV g F' i * 2 ^ (32 * g.k) % qV g F1 12 = qV g F1 i * qV g F1 b % qV g F1 12 := hp
          rw [e3] at hW
          obtain ⟨p3, m3⟩ := p1.keep hf3 (ge16 (by omega))
          rw [m1] at m3
          rw [m1, hf1a.V (show b ∉ [16, i] by simp; omega)] at hv3
          rw [m1] at hl3
          have h2 := mf_mul p0.1 hv3 h1 hb0
          refine lv_iinc (v := nI y - 1) (lv' := [(5, .int (nI y - 1)), (0, .ref (g.P 1)), (1, .ref (g.P i)), (2, .ref (g.P b)), (3, .ref (g.P x)), (4, .int (nI u))]) hx hbc dX1_raise_52 hl (k := 0) rfl (by rw [Int32.sub_eq_add_neg]; rfl) (by decide) rfl (fun ls hl => ?_)
          refine lv_goto (tgt := 22) hx hbc dX1_raise_55 (by decide) ?_
          exact ih F3 (by omega) (fun a ha => by rw [hf3 a ha, hf1a a ha]) hl3 (Or.inl hyu) (pw_step1 h2 hbit) H locs ls hW (lv_sub hl [0, 1, 2, 3, 4, 5] rfl)
  refine lv_aload_n hx hbc dX1_raise_0 rfl (lv_at hl 1 rfl) ?_
  refine lv_aload_n hx hbc dX1_raise_1 rfl (lv_at hl 0 rfl) ?_
  refine q_get (C := RX1) (T := TX1) (v := .ref (g.P 14)) hx hbc hts hown (fun _ h9 => iw_X1_raise_X1 _ h9) hW (i := 1) (by decide) rfl rfl 4 (by decide) (hts (.fieldLink RX1 25 "ModEngine$Ring" "unit" "[I") (by decide +kernel)) rfl dX1_raise_2 ?_
  refine lv_aload_n hx hbc dX1_raise_5 rfl (lv_at hl 0 rfl) ?_
  refine q_get (C := RX1) (T := TX1) (v := .int (nI g.k)) hx hbc hts hown (fun _ h9 => iw_X1_raise_X1 _ h9) hW (i := 1) (by decide) rfl rfl 1 (by decide) (hts (.fieldLink RX1 9 "ModEngine$Ring" "k" "I") (by decide +kernel)) rfl dX1_raise_6 ?_
  refine q_v (q_runS (As := [.ref (g.P i), .ref (g.P 14), .int (nI g.k)]) (rest := []) S hW (k_copy l g hg σ hi (rowk (by decide))) gX1_raise_X0_copy (nA := 3) ⟨rfl, by decide +kernel, ⟨by decide, by decide⟩⟩ rfl hl.1 rfl (Nat.le_of_ble_eq_true rfl) dX1_raise_9 ⟨Nat.zero_le _, Nat.zero_le _⟩) hW Ad_hi (fun σ1 H locs hp hW => ?_)
  obtain ⟨F1, e1, hf1, hv1⟩ : ∃ F', σ1 = σ.setF F' ∧ Fr σ.F F' [i] ∧ qV g F' i = qV g σ.F 14 := hp
  rw [e1] at hW
  refine lv_aload_n hx hbc dX1_raise_12 rfl (lv_at hl 3 rfl) ?_
  refine lv_aload_n hx hbc dX1_raise_13 rfl (lv_at hl 0 rfl) ?_
  refine q_get (C := RX1) (T := TX1) (v := .int (nI g.k)) hx hbc hts hown (fun _ h9 => iw_X1_raise_X1 _ h9) hW (i := 1) (by decide) rfl rfl 1 (by decide) (hts (.fieldLink RX1 9 "ModEngine$Ring" "k" "I") (by decide +kernel)) rfl dX1_raise_14 ?_
  refine q_i (q_runS (As := [.ref (g.P x), .int (nI g.k)]) (rest := []) S hW (k_highestBit l g hg (σ.setF F1) hxx) gX1_raise_X0_highestBit (nA := 2) ⟨rfl, by decide +kernel, ⟨by decide, by decide⟩⟩ rfl hl.1 rfl (Nat.le_of_ble_eq_true rfl) dX1_raise_17 ⟨Nat.zero_le _, Nat.zero_le _⟩) hW Ad_hi (fun r_17 σ2 H locs hp hW => ?_)
  obtain ⟨e2, er2⟩ : σ2 = σ.setF F1 ∧ ∃ xh, xh ≤ 32 * g.k ∧ r_17 = nI xh - 1 ∧ qV g F1 x < 2 ^ xh := hp
  rw [e2] at hW
  obtain ⟨y, hy, ery, hlt⟩ := er2
  rw [hf1.V (show x ∉ [i] by simp; omega)] at hlt
  refine q_ti (y := nI y - 1) ery ?_
  refine lv_istore (lv' := [(5, .int (nI y - 1)), (0, .ref (g.P 1)), (1, .ref (g.P i)), (2, .ref (g.P b)), (3, .ref (g.P x)), (4, .int (nI u))]) hx hbc dX1_raise_20 hl (by decide) rfl (fun ls hl => ?_)
  have hf1a : Fr σ.F F1 [16, i] := fun a ha => hf1 a (by simp at ha; simp; exact ha.2)
  refine loop y F1 hy hf1a (by rw [hv1]; exact p0.lt14) (Or.inr hlt) ?_ _ _ ls hW (lv_sub hl [0, 1, 2, 3, 4, 5] rfl)
  rw [hv1, p0.2.2.2.1, Nat.mod_mod, Nat.div_eq_of_lt hlt, Nat.pow_zero, Nat.one_mul]
set_option maxHeartbeats 4000000 in
set_option maxRecDepth 100000 in
/-- Ring.power(into, a, exponent) -/
theorem r_power (l : Launch) (g : qCfg) (hg : g.ok) (σ : qSt) {i j r : Nat} (hi : 12 ≤ i ∧ i < g.N)(hj : 12 ≤ j ∧ j < g.N)(hrr : 12 ≤ r ∧ r < g.N) (hi21 : 21 ≤ i) (hj21 : 21 ≤ j) (hr21 : 21 ≤ r) (p0 : Pp g σ.F σ.mi)  : qCV l g yX1_power wsX1_power 4 100 [.ref (g.P 1), .ref (g.P i), .ref (g.P j), .ref (g.P r)] σ (fun σ' => ∃ F', σ' = σ.setF F' ∧ Fr σ.F F' [16, 17, 18, i] ∧ qV g F' i = qV g σ.F j ^ qV g σ.F r % qV g σ.F 12) := by
  refine q_sV (cc := cX1_power) (maxL := 4) (by decide) rfl (Nat.le_of_ble_eq_true rfl) ?_
  intro p e s m args below meth c ls Q S hW hl fin
  obtain ⟨hx, hb, hml, hown, hts, hr, hlocks⟩ := id S
  obtain ⟨hk1, hk8, hn1, hn8⟩ := id hg
  have hl : lv_has ls 4 [(0, .ref (g.P 1)), (1, .ref (g.P i)), (2, .ref (g.P j)), (3, .ref (g.P r))] := hl
  refine lv_aload_n hx hb dX1_power_0 rfl (lv_at hl 0 rfl) ?_
  refine lv_aload_n hx hb dX1_power_1 rfl (lv_at hl 0 rfl) ?_
  refine q_get (C := RX1) (T := TX1) (v := .ref (g.P 17)) hx hb hts hown (fun _ h9 => iw_X1_power_X1 _ h9) hW (i := 1) (by decide) rfl rfl 7 (by decide) (hts (.fieldLink RX1 34 "ModEngine$Ring" "left" "[I") (by decide +kernel)) rfl dX1_power_2 ?_
  refine lv_aload_n hx hb dX1_power_5 rfl (lv_at hl 2 rfl) ?_
  refine lv_aload_n hx hb dX1_power_6 rfl (lv_at hl 0 rfl) ?_
  refine q_get (C := RX1) (T := TX1) (v := .ref (g.P 15)) hx hb hts hown (fun _ h9 => iw_X1_power_X1 _ h9) hW (i := 1) (by decide) rfl rfl 5 (by decide) (hts (.fieldLink RX1 28 "ModEngine$Ring" "rSquared" "[I") (by decide +kernel)) rfl dX1_power_7 ?_
  refine q_v (q_runV (As := [.ref (g.P 17), .ref (g.P j), .ref (g.P 15)]) (rest := []) (i := 1) S hW (by decide) rfl rfl (r_montgomery l g hg σ (rowk (by decide)) hj (rowk (by decide)) (by omega) (by omega) (by omega) (by omega) p0.pos p0.2.2.2.2.2 (mlt_r p0.lt15)) gX1_power_X1_montgomery rfl (nA := 3) ⟨rfl, by decide +kernel, ⟨by decide, by decide⟩⟩ rfl hl.1 rfl (Nat.le_of_ble_eq_true rfl) dX1_power_10 ⟨Nat.zero_le _, Nat.zero_le _⟩) hW Ad_hi (fun σ1 H locs hp hW => ?_)
  obtain ⟨F1, e1, hf1, hl1, hv1⟩ : ∃ F', σ1 = σ.setF F' ∧ Fr σ.F F' [16, 17] ∧ qV g F' 17 < qV g σ.F 12 ∧ qV g F' 17 * 2 ^ (32 * g.k) % qV g σ.F 12 = qV g σ.F j * qV g σ.F 15 % qV g σ.F 12 := hp
  rw [e1] at hW
  obtain ⟨p1, m1⟩ := p0.keep hf1 (ge16 (by omega))
  have h1 := mf_to p0.1 p0.2.2.2.2.1 hv1
  refine lv_aload_n hx hb dX1_power_13 rfl (lv_at hl 0 rfl) ?_
  refine lv_aload_n hx hb dX1_power_14 rfl (lv_at hl 0 rfl) ?_
  refine q_get (C := RX1) (T := TX1) (v := .ref (g.P 18)) hx hb hts hown (fun _ h9 => iw_X1_power_X1 _ h9) hW (i := 1) (by decide) rfl rfl 8 (by decide) (hts (.fieldLink RX1 37 "ModEngine$Ring" "right" "[I") (by decide +kernel)) rfl dX1_power_15 ?_
  refine lv_aload_n hx hb dX1_power_18 rfl (lv_at hl 0 rfl) ?_
  refine q_get (C := RX1) (T := TX1) (v := .ref (g.P 17)) hx hb hts hown (fun _ h9 => iw_X1_power_X1 _ h9) hW (i := 1) (by decide) rfl rfl 7 (by decide) (hts (.fieldLink RX1 34 "ModEngine$Ring" "left" "[I") (by decide +kernel)) rfl dX1_power_19 ?_
  refine lv_aload_n hx hb dX1_power_22 rfl (lv_at hl 3 rfl) ?_
  refine lv_iconst (v := 0) hx hb dX1_power_23 (by decide) ?_
  refine q_ti (y := nI 0) rfl ?_
  refine q_v (q_runV (As := [.ref (g.P 18), .ref (g.P 17), .ref (g.P r), .int (nI 0)]) (rest := []) (i := 1) S hW (by decide) rfl rfl (r_raise l g hg (σ.setF F1) (rowk (by decide)) (rowk (by decide)) hrr (by omega) (by omega) (by omega) (by omega) (by omega) p1 0 (qV g σ.F j) (by decide) (by show qV g F1 17 < qV g F1 12; rw [m1]; exact hl1) (by show qV g F1 17 % qV g F1 12 = qV g σ.F j * 2 ^ (32 * g.k) % qV g F1 12; rw [m1]; exact h1)) gX1_power_X1_raise rfl (nA := 4) ⟨rfl, by decide +kernel, ⟨by decide, by decide⟩⟩ rfl hl.1 rfl (Nat.le_of_ble_eq_true rfl) dX1_power_24 ⟨Nat.zero_le _, Nat.zero_le _⟩) hW Ad_hi (fun σ2 H locs hp hW => ?_)
  obtain ⟨F2, e2, hf2, hl2, hv2⟩ : ∃ F', σ2 = σ.setF F' ∧ Fr F1 F' [16, 18] ∧ qV g F' 18 < qV g F1 12 ∧ qV g F' 18 % qV g F1 12 = qV g σ.F j ^ (qV g F1 r / 2 ^ 0) * 2 ^ (32 * g.k) % qV g F1 12 := hp
  rw [e2] at hW
  obtain ⟨p2, m2⟩ := p1.keep hf2 (ge16 (by omega))
  rw [m1] at m2
  rw [m1, Nat.pow_zero, Nat.div_one, hf1.V (show r ∉ [16, 17] by simp; omega)] at hv2
  refine lv_aload_n hx hb dX1_power_27 rfl (lv_at hl 0 rfl) ?_
  refine lv_aload_n hx hb dX1_power_28 rfl (lv_at hl 1 rfl) ?_
  refine lv_aload_n hx hb dX1_power_29 rfl (lv_at hl 0 rfl) ?_
  refine q_get (C := RX1) (T := TX1) (v := .ref (g.P 18)) hx hb hts hown (fun _ h9 => iw_X1_power_X1 _ h9) hW (i := 1) (by decide) rfl rfl 8 (by decide) (hts (.fieldLink RX1 37 "ModEngine$Ring" "right" "[I") (by decide +kernel)) rfl dX1_power_30 ?_
  refine lv_aload_n hx hb dX1_power_33 rfl (lv_at hl 0 rfl) ?_
  refine q_get (C := RX1) (T := TX1) (v := .ref (g.P 13)) hx hb hts hown (fun _ h9 => iw_X1_power_X1 _ h9) hW (i := 1) (by decide) rfl rfl 3 (by decide) (hts (.fieldLink RX1 22 "ModEngine$Ring" "one" "[I") (by decide +kernel)) rfl dX1_power_34 ?_
  refine q_v (q_runV (As := [.ref (g.P i), .ref (g.P 18), .ref (g.P 13)]) (rest := []) (i := 1) S hW (by decide) rfl rfl (r_montgomery l g hg (σ.setF F2) hi (rowk (by decide)) (rowk (by decide)) (by omega) (by omega) (by omega) (by omega) p2.pos p2.2.2.2.2.2 (mlt_r p2.lt13)) gX1_power_X1_montgomery rfl (nA := 3) ⟨rfl, by decide +kernel, ⟨by decide, by decide⟩⟩ rfl hl.1 rfl (Nat.le_of_ble_eq_true rfl) dX1_power_37 ⟨Nat.zero_le _, Nat.zero_le _⟩) hW Ad_hi (fun σ3 H locs hp hW => ?_)
  obtain ⟨F3, e3, hf3, hl3, hv3⟩ : ∃ F', σ3 = σ.setF F' ∧ Fr F2 F' [16, i] ∧ qV g F' i < qV g F2 12 ∧ qV g F' i * 2 ^ (32 * g.k) % qV g F2 12 = qV g F2 18 * qV g F2 13 % qV g F2 12 := hp
  rw [e3] at hW
  obtain ⟨p3, m3⟩ := p2.keep hf3 (ge16 (by omega))
  rw [m2] at m3
  rw [m2, p2.2.2.1] at hv3
  have h3 := mf_from p0.1 hv3 hv2
  rw [m2] at hl3
  rw [Nat.mod_eq_of_lt hl3] at h3
  exact fin _ _ _ _ _ hW (⟨F3, rfl, fun a ha => by
      simp only [List.mem_cons, List.not_mem_nil, or_false, not_or] at ha
      rw [hf3 a (by simp; omega), hf2 a (by simp; omega), hf1 a (by simp; omega)], h3⟩) dX1_power_40
