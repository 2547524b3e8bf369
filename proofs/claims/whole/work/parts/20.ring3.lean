theorem iw_X1_twosInModulusLessOne_X1 : ∀ w ∈ wsX10, w ∈ wsX1_twosInModulusLessOne := by decide +kernel
theorem iw_X1_stepTowardsDivisor_X1 : ∀ w ∈ wsX10, w ∈ wsX1_stepTowardsDivisor := by decide +kernel
theorem iw_X1_invert_X1 : ∀ w ∈ wsX10, w ∈ wsX1_invert := by decide +kernel
theorem iw_X1_isProvedCompositeBy_X1 : ∀ w ∈ wsX10, w ∈ wsX1_isProvedCompositeBy := by decide +kernel
set_option maxHeartbeats 4000000 in
set_option maxRecDepth 100000 in
/-- Ring.twosInModulusLessOne() -/
theorem r_twos (l : Launch) (g : qCfg) (hg : g.ok) (σ : qSt) (p0 : Pp g σ.F σ.mi)  : qCI l g yX1_twosInModulusLessOne wsX1_twosInModulusLessOne 1 21 [.ref (g.P 1)] σ (fun r σ' => σ' = σ ∧ ∃ u, r = nI u ∧ u < 32 * g.k ∧ twos (qV g σ.F 12) u) := by
  refine q_sI (cc := cX1_twosInModulusLessOne) (maxL := 2) (by decide) rfl (Nat.le_of_ble_eq_true rfl) ?_
  intro p e s m args below meth c ls Q S hW hl fin
  obtain ⟨hx, hb, hml, hown, hts, hr, hlocks⟩ := id S
  obtain ⟨hk1, hk8, hn1, hn8⟩ := id hg
  have hl : lv_has ls 2 [(0, .ref (g.P 1))] := hl
  have loop : ∀ (n x : Nat), x + 1 ≤ 32 * g.k → 32 * g.k ≤ x + n → 1 ≤ x → qV g σ.F 12 % 2 ^ x = 1 → ∀ (H : Heap) (locs : List Loc) (ls : Array Slot), Wo g (Ad g s.heap.size) s H locs σ → lv_has ls 2 [(1, .int (nI x)), (0, .ref (g.P 1))] → W p l e (rmm 1 21) s m args below meth c H locs 0 0 Q (F0 m 2 ls []) := by
    intro n
    induction n with
    | zero => intro x h1 h2; exact absurd h2 (by omega)
    | succ n ih =>
      intro x hx1 hx2 hx0 hv H locs ls hW hl
      refine lv_iload_n hx hb dX1_twosInModulusLessOne_2 rfl (lv_at hl 0 rfl) ?_
      refine lv_aload_n hx hb dX1_twosInModulusLessOne_3 rfl (lv_at hl 1 rfl) ?_
      refine q_get (C := RX1) (T := TX1) (v := .int (nI (32 * g.k))) hx hb hts hown (fun _ h9 => iw_X1_twosInModulusLessOne_X1 _ h9) hW (i := 1) (by decide) rfl rfl 2 (by decide) (hts (.fieldLink RX1 15 "ModEngine$Ring" "bits" "I") (by decide +kernel)) rfl dX1_twosInModulusLessOne_4 ?_
      refine lv_iconst (v := 1) hx hb dX1_twosInModulusLessOne_7 (by decide) ?_
      refine lv_isub hx hb dX1_twosInModulusLessOne_8 ?_
      refine q_ti (y := nI (32 * g.k - 1)) (pk_sub (b := 1) (by omega)) ?_
      refine lv_icmp_ge (tgt := 29) hx hb dX1_twosInModulusLessOne_9 (by decide) (fun c9 => ?_) (fun c9 => ?_)
      · have hx3 := nle c9 (by omega) (by omega)
        refine lv_iload_n hx hb dX1_twosInModulusLessOne_29 rfl (lv_at hl 0 rfl) ?_
        have hlt : qV g σ.F 12 < 2 ^ (x + 1) := by
          rw [show x + 1 = 32 * g.k by omega]
          exact qV_lt
        exact fin _ _ _ _ _ _ hW (⟨rfl, x, rfl, by omega, hx0, hv, twos_end hv p0.2.1 hlt⟩) dX1_twosInModulusLessOne_30
      · have hx3 := nge c9 (by omega)
        refine lv_aload_n hx hb dX1_twosInModulusLessOne_12 rfl (lv_at hl 1 rfl) ?_
        refine q_get (C := RX1) (T := TX1) (v := .ref (g.P 12)) hx hb hts hown (fun _ h9 => iw_X1_twosInModulusLessOne_X1 _ h9) hW (i := 1) (by decide) rfl rfl 0 (by decide) (hts (.fieldLink RX1 18 "ModEngine$Ring" "modulus" "[I") (by decide +kernel)) rfl dX1_twosInModulusLessOne_13 ?_
        refine lv_iload_n hx hb dX1_twosInModulusLessOne_16 rfl (lv_at hl 0 rfl) ?_
        refine q_i (q_runS (As := [.ref (g.P 12), .int (nI x)]) (rest := []) S hW (k_isBitSet l g hg σ (rowk (by decide)) (b := x) (by omega)) gX1_twosInModulusLessOne_X0_isBitSet (nA := 2) ⟨rfl, by decide +kernel, ⟨by decide, by decide⟩⟩ rfl hl.1 rfl (Nat.le_of_ble_eq_true rfl) dX1_twosInModulusLessOne_17 ⟨Nat.zero_le _, Nat.zero_le _⟩) hW Ad_hi (fun r_17 σ1 H locs hp hW => ?_)
        obtain ⟨e1, er1⟩ : σ1 = σ ∧ r_17 = if (qV g σ.F 12).testBit x = true then 1 else 0 := hp
        rw [e1] at hW
        refine lv_if_ne (tgt := 29) hx hb dX1_twosInModulusLessOne_20 (by decide) (fun c8 => ?_) (fun c8 => ?_)
        · have h0 := (fa_boolp er1).2.mp c8
          refine lv_iload_n hx hb dX1_twosInModulusLessOne_29 rfl (lv_at hl 0 rfl) ?_
          rw [Nat.testBit_eq_decide_div_mod_eq] at h0
          exact fin _ _ _ _ _ _ hW (⟨rfl, x, rfl, by omega, hx0, hv, by simpa using h0⟩) dX1_twosInModulusLessOne_30
        · have h0 := (fa_boolp er1).1.mp c8
          refine lv_iinc (v := nI (x + 1)) (lv' := [(1, .int (nI (x + 1))), (0, .ref (g.P 1))]) hx hb dX1_twosInModulusLessOne_23 hl (k := 0) rfl (nI_1 _) (by decide) rfl (fun ls hl => ?_)
          refine lv_goto (tgt := 2) hx hb dX1_twosInModulusLessOne_26 (by decide) ?_
          exact ih (x + 1) (by omega) (by omega) (by omega) (twos_next hv h0) H locs ls hW (lv_sub hl [0, 1] rfl)
  refine lv_iconst (v := 1) hx hb dX1_twosInModulusLessOne_0 (by decide) ?_
  refine lv_istore_n (lv' := [(1, .int 1), (0, .ref (g.P 1))]) hx hb dX1_twosInModulusLessOne_1 rfl hl (by decide) rfl (fun ls hl => ?_)
  exact loop (32 * g.k) 1 (by omega) (by omega) (by omega) p0.1 _ _ ls hW (lv_sub hl [0, 1] rfl)
set_option maxHeartbeats 4000000 in
set_option maxRecDepth 100000 in
/-- Ring.stepTowardsDivisor() -/
theorem r_step (l : Launch) (g : qCfg) (hg : g.ok) (σ : qSt) (h19 : qV g σ.F 19 < qV g σ.F 12) (h20 : qV g σ.F 20 < qV g σ.F 12) : qCV l g yX1_stepTowardsDivisor wsX1_stepTowardsDivisor 2 51 [.ref (g.P 1)] σ (fun σ' => ∃ F', σ' = σ.setF F' ∧ Fr σ.F F' [17, 18, 19, 20] ∧ (qV g F' 17, qV g F' 18, qV g F' 19, qV g F' 20) = gstep (qV g σ.F 12) (qV g σ.F 17) (qV g σ.F 18) (qV g σ.F 19) (qV g σ.F 20)) := by
  refine q_sV (cc := cX1_stepTowardsDivisor) (maxL := 1) (by decide) rfl (Nat.le_of_ble_eq_true rfl) ?_
  intro p e s m args below meth c ls Q S hW hl fin
  obtain ⟨hx, hb, hml, hown, hts, hr, hlocks⟩ := id S
  obtain ⟨hk1, hk8, hn1, hn8⟩ := id hg
  have hl : lv_has ls 1 [(0, .ref (g.P 1))] := hl
  refine lv_aload_n hx hb dX1_stepTowardsDivisor_0 rfl (lv_at hl 0 rfl) ?_
  refine q_get (C := RX1) (T := TX1) (v := .ref (g.P 17)) hx hb hts hown (fun _ h9 => iw_X1_stepTowardsDivisor_X1 _ h9) hW (i := 1) (by decide) rfl rfl 7 (by decide) (hts (.fieldLink RX1 34 "ModEngine$Ring" "left" "[I") (by decide +kernel)) rfl dX1_stepTowardsDivisor_1 ?_
  refine q_i (q_runS (As := [.ref (g.P 17)]) (rest := []) S hW (k_isOdd l g hg σ (rowk (by decide))) gX1_stepTowardsDivisor_X0_isOdd (nA := 1) ⟨rfl, by decide +kernel, ⟨by decide, by decide⟩⟩ rfl hl.1 rfl (Nat.le_of_ble_eq_true rfl) dX1_stepTowardsDivisor_4 ⟨Nat.zero_le _, Nat.zero_le _⟩) hW Ad_hi (fun r_4 σ1 H locs hp hW => ?_)
  obtain ⟨e1, er1⟩ : σ1 = σ ∧ r_4 = if qV g σ.F 17 % 2 = 1 then 1 else 0 := hp
  rw [e1] at hW
  refine lv_if_ne (tgt := 31) hx hb dX1_stepTowardsDivisor_7 (by decide) (fun c9 => ?_) (fun c9 => ?_)
  · have h0 := (fa_boolp er1).2.mp c9
    refine lv_aload_n hx hb dX1_stepTowardsDivisor_31 rfl (lv_at hl 0 rfl) ?_
    refine q_get (C := RX1) (T := TX1) (v := .ref (g.P 17)) hx hb hts hown (fun _ h9 => iw_X1_stepTowardsDivisor_X1 _ h9) hW (i := 1) (by decide) rfl rfl 7 (by decide) (hts (.fieldLink RX1 34 "ModEngine$Ring" "left" "[I") (by decide +kernel)) rfl dX1_stepTowardsDivisor_32 ?_
    refine lv_aload_n hx hb dX1_stepTowardsDivisor_35 rfl (lv_at hl 0 rfl) ?_
    refine q_get (C := RX1) (T := TX1) (v := .ref (g.P 18)) hx hb hts hown (fun _ h9 => iw_X1_stepTowardsDivisor_X1 _ h9) hW (i := 1) (by decide) rfl rfl 8 (by decide) (hts (.fieldLink RX1 37 "ModEngine$Ring" "right" "[I") (by decide +kernel)) rfl dX1_stepTowardsDivisor_36 ?_
    refine lv_aload_n hx hb dX1_stepTowardsDivisor_39 rfl (lv_at hl 0 rfl) ?_
    refine q_get (C := RX1) (T := TX1) (v := .int (nI g.k)) hx hb hts hown (fun _ h9 => iw_X1_stepTowardsDivisor_X1 _ h9) hW (i := 1) (by decide) rfl rfl 1 (by decide) (hts (.fieldLink RX1 9 "ModEngine$Ring" "k" "I") (by decide +kernel)) rfl dX1_stepTowardsDivisor_40 ?_
    refine q_i (q_runS (As := [.ref (g.P 17), .ref (g.P 18), .int (nI g.k)]) (rest := []) S hW (k_order l g hg σ (rowk (by decide)) (rowk (by decide))) gX1_stepTowardsDivisor_X0_order (nA := 3) ⟨rfl, by decide +kernel, ⟨by decide, by decide⟩⟩ rfl hl.1 rfl (Nat.le_of_ble_eq_true rfl) dX1_stepTowardsDivisor_43 ⟨Nat.zero_le _, Nat.zero_le _⟩) hW Ad_hi (fun r_43 σ2 H locs hp hW => ?_)
    obtain ⟨e2, er2⟩ : σ2 = σ ∧ r_43 = if qV g σ.F 17 < qV g σ.F 18 then -1 else if qV g σ.F 17 = qV g σ.F 18 then 0 else 1 := hp
    rw [e2] at hW
    refine lv_if_ge (tgt := 79) hx hb dX1_stepTowardsDivisor_46 (by decide) (fun c8 => ?_) (fun c8 => ?_)
    · have h1 : ¬ qV g σ.F 17 < qV g σ.F 18 := fun q => absurd ((ord_lt er2).mpr q) (Int32.not_lt.mpr c8)
      refine lv_aload_n hx hb dX1_stepTowardsDivisor_79 rfl (lv_at hl 0 rfl) ?_
      refine q_get (C := RX1) (T := TX1) (v := .ref (g.P 17)) hx hb hts hown (fun _ h9 => iw_X1_stepTowardsDivisor_X1 _ h9) hW (i := 1) (by decide) rfl rfl 7 (by decide) (hts (.fieldLink RX1 34 "ModEngine$Ring" "left" "[I") (by decide +kernel)) rfl dX1_stepTowardsDivisor_80 ?_
      refine lv_aload_n hx hb dX1_stepTowardsDivisor_83 rfl (lv_at hl 0 rfl) ?_
      refine q_get (C := RX1) (T := TX1) (v := .ref (g.P 17)) hx hb hts hown (fun _ h9 => iw_X1_stepTowardsDivisor_X1 _ h9) hW (i := 1) (by decide) rfl rfl 7 (by decide) (hts (.fieldLink RX1 34 "ModEngine$Ring" "left" "[I") (by decide +kernel)) rfl dX1_stepTowardsDivisor_84 ?_
      refine lv_aload_n hx hb dX1_stepTowardsDivisor_87 rfl (lv_at hl 0 rfl) ?_
      refine q_get (C := RX1) (T := TX1) (v := .ref (g.P 18)) hx hb hts hown (fun _ h9 => iw_X1_stepTowardsDivisor_X1 _ h9) hW (i := 1) (by decide) rfl rfl 8 (by decide) (hts (.fieldLink RX1 37 "ModEngine$Ring" "right" "[I") (by decide +kernel)) rfl dX1_stepTowardsDivisor_88 ?_
      refine lv_aload_n hx hb dX1_stepTowardsDivisor_91 rfl (lv_at hl 0 rfl) ?_
      refine q_get (C := RX1) (T := TX1) (v := .int (nI g.k)) hx hb hts hown (fun _ h9 => iw_X1_stepTowardsDivisor_X1 _ h9) hW (i := 1) (by decide) rfl rfl 1 (by decide) (hts (.fieldLink RX1 9 "ModEngine$Ring" "k" "I") (by decide +kernel)) rfl dX1_stepTowardsDivisor_92 ?_
      refine q_i (q_runS (As := [.ref (g.P 17), .ref (g.P 17), .ref (g.P 18), .int (nI g.k)]) (rest := []) S hW (k_subtract l g hg σ (rowk (by decide)) (rowk (by decide)) (rowk (by decide))) gX1_stepTowardsDivisor_X0_subtract (nA := 4) ⟨rfl, by decide +kernel, ⟨by decide, by decide⟩⟩ rfl hl.1 rfl (Nat.le_of_ble_eq_true rfl) dX1_stepTowardsDivisor_95 ⟨Nat.zero_le _, Nat.zero_le _⟩) hW Ad_hi (fun r_95 σ3 H locs hp hW => ?_)
      obtain ⟨F3, c3, e3, hf3, hc3, er3, hv3⟩ : ∃ F', ∃ c, σ3 = σ.setF F' ∧ Fr σ.F F' [17] ∧ c ≤ 1 ∧ r_95 = nI c ∧ qV g F' 17 + qV g σ.F 18 = qV g σ.F 17 + c * 2 ^ (32 * g.k) := hp
      rw [e3] at hW
      refine q_ti (y := nI c3) er3 ?_
      refine lv_pop hx hb dX1_stepTowardsDivisor_98 rfl ?_
      refine lv_aload_n hx hb dX1_stepTowardsDivisor_99 rfl (lv_at hl 0 rfl) ?_
      refine lv_aload_n hx hb dX1_stepTowardsDivisor_100 rfl (lv_at hl 0 rfl) ?_
      refine q_get (C := RX1) (T := TX1) (v := .ref (g.P 19)) hx hb hts hown (fun _ h9 => iw_X1_stepTowardsDivisor_X1 _ h9) hW (i := 1) (by decide) rfl rfl 9 (by decide) (hts (.fieldLink RX1 40 "ModEngine$Ring" "leftShare" "[I") (by decide +kernel)) rfl dX1_stepTowardsDivisor_101 ?_
      refine lv_aload_n hx hb dX1_stepTowardsDivisor_104 rfl (lv_at hl 0 rfl) ?_
      refine q_get (C := RX1) (T := TX1) (v := .ref (g.P 19)) hx hb hts hown (fun _ h9 => iw_X1_stepTowardsDivisor_X1 _ h9) hW (i := 1) (by decide) rfl rfl 9 (by decide) (hts (.fieldLink RX1 40 "ModEngine$Ring" "leftShare" "[I") (by decide +kernel)) rfl dX1_stepTowardsDivisor_105 ?_
      refine lv_aload_n hx hb dX1_stepTowardsDivisor_108 rfl (lv_at hl 0 rfl) ?_
      refine q_get (C := RX1) (T := TX1) (v := .ref (g.P 20)) hx hb hts hown (fun _ h9 => iw_X1_stepTowardsDivisor_X1 _ h9) hW (i := 1) (by decide) rfl rfl 10 (by decide) (hts (.fieldLink RX1 43 "ModEngine$Ring" "rightShare" "[I") (by decide +kernel)) rfl dX1_stepTowardsDivisor_109 ?_
      refine q_v (q_runV (As := [.ref (g.P 19), .ref (g.P 19), .ref (g.P 20)]) (rest := []) (i := 1) S hW (by decide) rfl rfl (r_subtractBelow l g hg (σ.setF F3) (rowk (by decide)) (rowk (by decide)) (rowk (by decide)) (by decide) (by show qV g F3 20 ≤ qV g F3 19 + qV g F3 12; rw [hf3.V (by decide), hf3.V (by decide)]; rw [hf3.V (by decide)]; omega)) gX1_stepTowardsDivisor_X1_subtractBelow rfl (nA := 3) ⟨rfl, by decide +kernel, ⟨by decide, by decide⟩⟩ rfl hl.1 rfl (Nat.le_of_ble_eq_true rfl) dX1_stepTowardsDivisor_112 ⟨Nat.zero_le _, Nat.zero_le _⟩) hW Ad_hi (fun σ4 H locs hp hW => ?_)
      obtain ⟨F4, e4, hf4, hv4⟩ : ∃ F', σ4 = σ.setF F' ∧ Fr F3 F' [19] ∧ qV g F' 19 = dfm (qV g F3 12) (qV g F3 19) (qV g F3 20) := hp
      rw [e4] at hW
      have s17 : qV g F3 17 = qV g σ.F 17 - qV g σ.F 18 := by
        have b1 := qV_lt (g := g) (F := F3) (i := 17)
        rcases (show c3 = 0 ∨ c3 = 1 by omega) with q | q
        · rw [q] at hv3; omega
        · rw [q] at hv3; omega
      refine fin _ _ _ _ _ hW ⟨F4, rfl, fun a ha => ?_, ?_⟩ dX1_stepTowardsDivisor_115
      · simp only [List.mem_cons, List.not_mem_nil, or_false, not_or] at ha
        rw [hf4 a (by simp; omega), hf3 a (by simp; omega)]
      · rw [hf4.V (show 17 ∉ [19] by decide), hf4.V (show 18 ∉ [19] by decide), hf4.V (show 20 ∉ [19] by decide), hv4, s17, hf3.V (show 18 ∉ [17] by decide), hf3.V (show 12 ∉ [17] by decide), hf3.V (show 19 ∉ [17] by decide), hf3.V (show 20 ∉ [17] by decide)]
        unfold gstep
        rw [if_pos h0, if_neg h1]
    · have h1 : qV g σ.F 17 < qV g σ.F 18 := (ord_lt er2).mp (Int32.not_le.mp c8)
      refine lv_aload_n hx hb dX1_stepTowardsDivisor_49 rfl (lv_at hl 0 rfl) ?_
      refine q_get (C := RX1) (T := TX1) (v := .ref (g.P 17)) hx hb hts hown (fun _ h9 => iw_X1_stepTowardsDivisor_X1 _ h9) hW (i := 1) (by decide) rfl rfl 7 (by decide) (hts (.fieldLink RX1 34 "ModEngine$Ring" "left" "[I") (by decide +kernel)) rfl dX1_stepTowardsDivisor_50 ?_
      refine lv_aload_n hx hb dX1_stepTowardsDivisor_53 rfl (lv_at hl 0 rfl) ?_
      refine q_get (C := RX1) (T := TX1) (v := .ref (g.P 18)) hx hb hts hown (fun _ h9 => iw_X1_stepTowardsDivisor_X1 _ h9) hW (i := 1) (by decide) rfl rfl 8 (by decide) (hts (.fieldLink RX1 37 "ModEngine$Ring" "right" "[I") (by decide +kernel)) rfl dX1_stepTowardsDivisor_54 ?_
      refine lv_aload_n hx hb dX1_stepTowardsDivisor_57 rfl (lv_at hl 0 rfl) ?_
      refine q_get (C := RX1) (T := TX1) (v := .int (nI g.k)) hx hb hts hown (fun _ h9 => iw_X1_stepTowardsDivisor_X1 _ h9) hW (i := 1) (by decide) rfl rfl 1 (by decide) (hts (.fieldLink RX1 9 "ModEngine$Ring" "k" "I") (by decide +kernel)) rfl dX1_stepTowardsDivisor_58 ?_
      refine q_v (q_runS (As := [.ref (g.P 17), .ref (g.P 18), .int (nI g.k)]) (rest := []) S hW (k_swap l g hg σ (rowk (by decide)) (rowk (by decide)) (by decide)) gX1_stepTowardsDivisor_X0_swap (nA := 3) ⟨rfl, by decide +kernel, ⟨by decide, by decide⟩⟩ rfl hl.1 rfl (Nat.le_of_ble_eq_true rfl) dX1_stepTowardsDivisor_61 ⟨Nat.zero_le _, Nat.zero_le _⟩) hW Ad_hi (fun σ3 H locs hp hW => ?_)
      obtain ⟨F3, e3, hf3, hv3, hw3⟩ : ∃ F', σ3 = σ.setF F' ∧ Fr σ.F F' [17, 18] ∧ qV g F' 17 = qV g σ.F 18 ∧ qV g F' 18 = qV g σ.F 17 := hp
      rw [e3] at hW
      refine lv_aload_n hx hb dX1_stepTowardsDivisor_64 rfl (lv_at hl 0 rfl) ?_
      refine q_get (C := RX1) (T := TX1) (v := .ref (g.P 19)) hx hb hts hown (fun _ h9 => iw_X1_stepTowardsDivisor_X1 _ h9) hW (i := 1) (by decide) rfl rfl 9 (by decide) (hts (.fieldLink RX1 40 "ModEngine$Ring" "leftShare" "[I") (by decide +kernel)) rfl dX1_stepTowardsDivisor_65 ?_
      refine lv_aload_n hx hb dX1_stepTowardsDivisor_68 rfl (lv_at hl 0 rfl) ?_
      refine q_get (C := RX1) (T := TX1) (v := .ref (g.P 20)) hx hb hts hown (fun _ h9 => iw_X1_stepTowardsDivisor_X1 _ h9) hW (i := 1) (by decide) rfl rfl 10 (by decide) (hts (.fieldLink RX1 43 "ModEngine$Ring" "rightShare" "[I") (by decide +kernel)) rfl dX1_stepTowardsDivisor_69 ?_
      refine lv_aload_n hx hb dX1_stepTowardsDivisor_72 rfl (lv_at hl 0 rfl) ?_
      refine q_get (C := RX1) (T := TX1) (v := .int (nI g.k)) hx hb hts hown (fun _ h9 => iw_X1_stepTowardsDivisor_X1 _ h9) hW (i := 1) (by decide) rfl rfl 1 (by decide) (hts (.fieldLink RX1 9 "ModEngine$Ring" "k" "I") (by decide +kernel)) rfl dX1_stepTowardsDivisor_73 ?_
      refine q_v (q_runS (As := [.ref (g.P 19), .ref (g.P 20), .int (nI g.k)]) (rest := []) S hW (k_swap l g hg (σ.setF F3) (rowk (by decide)) (rowk (by decide)) (by decide)) gX1_stepTowardsDivisor_X0_swap (nA := 3) ⟨rfl, by decide +kernel, ⟨by decide, by decide⟩⟩ rfl hl.1 rfl (Nat.le_of_ble_eq_true rfl) dX1_stepTowardsDivisor_76 ⟨Nat.zero_le _, Nat.zero_le _⟩) hW Ad_hi (fun σ4 H locs hp hW => ?_)
      obtain ⟨F4, e4, hf4, hv4, hw4⟩ : ∃ F', σ4 = σ.setF F' ∧ Fr F3 F' [19, 20] ∧ qV g F' 19 = qV g F3 20 ∧ qV g F' 20 = qV g F3 19 := hp
      rw [e4] at hW
      refine lv_aload_n hx hb dX1_stepTowardsDivisor_79 rfl (lv_at hl 0 rfl) ?_
      refine q_get (C := RX1) (T := TX1) (v := .ref (g.P 17)) hx hb hts hown (fun _ h9 => iw_X1_stepTowardsDivisor_X1 _ h9) hW (i := 1) (by decide) rfl rfl 7 (by decide) (hts (.fieldLink RX1 34 "ModEngine$Ring" "left" "[I") (by decide +kernel)) rfl dX1_stepTowardsDivisor_80 ?_
      refine lv_aload_n hx hb dX1_stepTowardsDivisor_83 rfl (lv_at hl 0 rfl) ?_
      refine q_get (C := RX1) (T := TX1) (v := .ref (g.P 17)) hx hb hts hown (fun _ h9 => iw_X1_stepTowardsDivisor_X1 _ h9) hW (i := 1) (by decide) rfl rfl 7 (by decide) (hts (.fieldLink RX1 34 "ModEngine$Ring" "left" "[I") (by decide +kernel)) rfl dX1_stepTowardsDivisor_84 ?_
      refine lv_aload_n hx hb dX1_stepTowardsDivisor_87 rfl (lv_at hl 0 rfl) ?_
      refine q_get (C := RX1) (T := TX1) (v := .ref (g.P 18)) hx hb hts hown (fun _ h9 => iw_X1_stepTowardsDivisor_X1 _ h9) hW (i := 1) (by decide) rfl rfl 8 (by decide) (hts (.fieldLink RX1 37 "ModEngine$Ring" "right" "[I") (by decide +kernel)) rfl dX1_stepTowardsDivisor_88 ?_
      refine lv_aload_n hx hb dX1_stepTowardsDivisor_91 rfl (lv_at hl 0 rfl) ?_
      refine q_get (C := RX1) (T := TX1) (v := .int (nI g.k)) hx hb hts hown (fun _ h9 => iw_X1_stepTowardsDivisor_X1 _ h9) hW (i := 1) (by decide) rfl rfl 1 (by decide) (hts (.fieldLink RX1 9 "ModEngine$Ring" "k" "I") (by decide +kernel)) rfl dX1_stepTowardsDivisor_92 ?_
      refine q_i (q_runS (As := [.ref (g.P 17), .ref (g.P 17), .ref (g.P 18), .int (nI g.k)]) (rest := []) S hW (k_subtract l g hg (σ.setF F4) (rowk (by decide)) (rowk (by decide)) (rowk (by decide))) gX1_stepTowardsDivisor_X0_subtract (nA := 4) ⟨rfl, by decide +kernel, ⟨by decide, by decide⟩⟩ rfl hl.1 rfl (Nat.le_of_ble_eq_true rfl) dX1_stepTowardsDivisor_95 ⟨Nat.zero_le _, Nat.zero_le _⟩) hW Ad_hi (fun r_95 σ5 H locs hp hW => ?_)
      obtain ⟨F5, c5, e5, hf5, hc5, er5, hv5⟩ : ∃ F', ∃ c, σ5 = σ.setF F' ∧ Fr F4 F' [17] ∧ c ≤ 1 ∧ r_95 = nI c ∧ qV g F' 17 + qV g F4 18 = qV g F4 17 + c * 2 ^ (32 * g.k) := hp
      rw [e5] at hW
      refine q_ti (y := nI c5) er5 ?_
      refine lv_pop hx hb dX1_stepTowardsDivisor_98 rfl ?_
      refine lv_aload_n hx hb dX1_stepTowardsDivisor_99 rfl (lv_at hl 0 rfl) ?_
      refine lv_aload_n hx hb dX1_stepTowardsDivisor_100 rfl (lv_at hl 0 rfl) ?_
      refine q_get (C := RX1) (T := TX1) (v := .ref (g.P 19)) hx hb hts hown (fun _ h9 => iw_X1_stepTowardsDivisor_X1 _ h9) hW (i := 1) (by decide) rfl rfl 9 (by decide) (hts (.fieldLink RX1 40 "ModEngine$Ring" "leftShare" "[I") (by decide +kernel)) rfl dX1_stepTowardsDivisor_101 ?_
      refine lv_aload_n hx hb dX1_stepTowardsDivisor_104 rfl (lv_at hl 0 rfl) ?_
      refine q_get (C := RX1) (T := TX1) (v := .ref (g.P 19)) hx hb hts hown (fun _ h9 => iw_X1_stepTowardsDivisor_X1 _ h9) hW (i := 1) (by decide) rfl rfl 9 (by decide) (hts (.fieldLink RX1 40 "ModEngine$Ring" "leftShare" "[I") (by decide +kernel)) rfl dX1_stepTowardsDivisor_105 ?_
      refine lv_aload_n hx hb dX1_stepTowardsDivisor_108 rfl (lv_at hl 0 rfl) ?_
      refine q_get (C := RX1) (T := TX1) (v := .ref (g.P 20)) hx hb hts hown (fun _ h9 => iw_X1_stepTowardsDivisor_X1 _ h9) hW (i := 1) (by decide) rfl rfl 10 (by decide) (hts (.fieldLink RX1 43 "ModEngine$Ring" "rightShare" "[I") (by decide +kernel)) rfl dX1_stepTowardsDivisor_109 ?_
      refine q_v (q_runV (As := [.ref (g.P 19), .ref (g.P 19), .ref (g.P 20)]) (rest := []) (i := 1) S hW (by decide) rfl rfl (r_subtractBelow l g hg (σ.setF F5) (rowk (by decide)) (rowk (by decide)) (rowk (by decide)) (by decide) (by show qV g F5 20 ≤ qV g F5 19 + qV g F5 12; rw [hf5.V (by decide), hf5.V (by decide)]; rw [hf5.V (by decide), hw4, hv4, hf4.V (by decide), hf3.V (by decide), hf3.V (by decide), hf3.V (by decide)]; omega)) gX1_stepTowardsDivisor_X1_subtractBelow rfl (nA := 3) ⟨rfl, by decide +kernel, ⟨by decide, by decide⟩⟩ rfl hl.1 rfl (Nat.le_of_ble_eq_true rfl) dX1_stepTowardsDivisor_112 ⟨Nat.zero_le _, Nat.zero_le _⟩) hW Ad_hi (fun σ6 H locs hp hW => ?_)
      obtain ⟨F6, e6, hf6, hv6⟩ : ∃ F', σ6 = σ.setF F' ∧ Fr F5 F' [19] ∧ qV g F' 19 = dfm (qV g F5 12) (qV g F5 19) (qV g F5 20) := hp
      rw [e6] at hW
      have a17 : qV g F4 17 = qV g σ.F 18 := (hf4.V (by decide)).trans hv3
      have a18 : qV g F4 18 = qV g σ.F 17 := (hf4.V (by decide)).trans hw3
      have a19 : qV g F4 19 = qV g σ.F 20 := hv4.trans (hf3.V (by decide))
      have a20 : qV g F4 20 = qV g σ.F 19 := hw4.trans (hf3.V (by decide))
      have a12 : qV g F4 12 = qV g σ.F 12 := (hf4.V (by decide)).trans (hf3.V (by decide))
      rw [a17, a18] at hv5
      have s17 : qV g F5 17 = qV g σ.F 18 - qV g σ.F 17 := by
        have b1 := qV_lt (g := g) (F := F5) (i := 17)
        rcases (show c5 = 0 ∨ c5 = 1 by omega) with q | q
        · rw [q] at hv5; omega
        · rw [q] at hv5; omega
      refine fin _ _ _ _ _ hW ⟨F6, rfl, fun a ha => ?_, ?_⟩ dX1_stepTowardsDivisor_115
      · simp only [List.mem_cons, List.not_mem_nil, or_false, not_or] at ha
        rw [hf6 a (by simp; omega), hf5 a (by simp; omega), hf4 a (by simp; omega), hf3 a (by simp; omega)]
      · rw [hf6.V (show 17 ∉ [19] by decide), hf6.V (show 18 ∉ [19] by decide), hf6.V (show 20 ∉ [19] by decide), hv6, s17, hf5.V (show 18 ∉ [17] by decide), hf5.V (show 12 ∉ [17] by decide), hf5.V (show 19 ∉ [17] by decide), hf5.V (show 20 ∉ [17] by decide), a18, a12, a19, a20]
        unfold gstep
        rw [if_pos h0, if_pos h1]
  · have h0 := (fa_boolp er1).1.mp c9
    refine lv_aload_n hx hb dX1_stepTowardsDivisor_10 rfl (lv_at hl 0 rfl) ?_
    refine q_get (C := RX1) (T := TX1) (v := .ref (g.P 17)) hx hb hts hown (fun _ h9 => iw_X1_stepTowardsDivisor_X1 _ h9) hW (i := 1) (by decide) rfl rfl 7 (by decide) (hts (.fieldLink RX1 34 "ModEngine$Ring" "left" "[I") (by decide +kernel)) rfl dX1_stepTowardsDivisor_11 ?_
    refine lv_lconst (v := 0) hx hb dX1_stepTowardsDivisor_14 (by decide) ?_
    refine q_tl (y := lN 0) rfl ?_
    refine lv_aload_n hx hb dX1_stepTowardsDivisor_15 rfl (lv_at hl 0 rfl) ?_
    refine q_get (C := RX1) (T := TX1) (v := .int (nI g.k)) hx hb hts hown (fun _ h9 => iw_X1_stepTowardsDivisor_X1 _ h9) hW (i := 1) (by decide) rfl rfl 1 (by decide) (hts (.fieldLink RX1 9 "ModEngine$Ring" "k" "I") (by decide +kernel)) rfl dX1_stepTowardsDivisor_16 ?_
    refine q_v (q_runS (As := [.ref (g.P 17), .long (lN 0), .int (nI g.k)]) (rest := []) S hW (k_halve l g hg σ (rowk (by decide)) (t := 0) (by omega)) gX1_stepTowardsDivisor_X0_halve (nA := 3) ⟨rfl, by decide +kernel, ⟨by decide, by decide⟩⟩ rfl hl.1 rfl (Nat.le_of_ble_eq_true rfl) dX1_stepTowardsDivisor_19 ⟨Nat.zero_le _, Nat.zero_le _⟩) hW Ad_hi (fun σ2 H locs hp hW => ?_)
    obtain ⟨F2, e2, hf2, hv2⟩ : ∃ F', σ2 = σ.setF F' ∧ Fr σ.F F' [17] ∧ qV g F' 17 = (qV g σ.F 17 + 0 * 2 ^ (32 * g.k)) / 2 := hp
    rw [e2] at hW
    refine lv_aload_n hx hb dX1_stepTowardsDivisor_22 rfl (lv_at hl 0 rfl) ?_
    refine lv_aload_n hx hb dX1_stepTowardsDivisor_23 rfl (lv_at hl 0 rfl) ?_
    refine q_get (C := RX1) (T := TX1) (v := .ref (g.P 19)) hx hb hts hown (fun _ h9 => iw_X1_stepTowardsDivisor_X1 _ h9) hW (i := 1) (by decide) rfl rfl 9 (by decide) (hts (.fieldLink RX1 40 "ModEngine$Ring" "leftShare" "[I") (by decide +kernel)) rfl dX1_stepTowardsDivisor_24 ?_
    refine q_v (q_runV (As := [.ref (g.P 19)]) (rest := []) (i := 1) S hW (by decide) rfl rfl (r_halveBelow l g hg (σ.setF F2) (rowk (by decide)) (by decide)) gX1_stepTowardsDivisor_X1_halveBelow rfl (nA := 1) ⟨rfl, by decide +kernel, ⟨by decide, by decide⟩⟩ rfl hl.1 rfl (Nat.le_of_ble_eq_true rfl) dX1_stepTowardsDivisor_27 ⟨Nat.zero_le _, Nat.zero_le _⟩) hW Ad_hi (fun σ3 H locs hp hW => ?_)
    obtain ⟨F3, e3, hf3, hv3⟩ : ∃ F', σ3 = σ.setF F' ∧ Fr F2 F' [19] ∧ qV g F' 19 = hlf (qV g F2 12) (qV g F2 19) := hp
    rw [e3] at hW
    refine fin _ _ _ _ _ hW ⟨F3, rfl, fun a ha => ?_, ?_⟩ dX1_stepTowardsDivisor_30
    · simp only [List.mem_cons, List.not_mem_nil, or_false, not_or] at ha
      rw [hf3 a (by simp; omega), hf2 a (by simp; omega)]
    · rw [hf3.V (show 17 ∉ [19] by decide), hf3.V (show 18 ∉ [19] by decide), hf3.V (show 20 ∉ [19] by decide), hv3, hv2, hf2.V (show 18 ∉ [17] by decide), hf2.V (show 12 ∉ [17] by decide), hf2.V (show 19 ∉ [17] by decide), hf2.V (show 20 ∉ [17] by decide), Nat.zero_mul, Nat.add_zero]
      unfold gstep
      rw [if_neg h0]
set_option maxHeartbeats 4000000 in
set_option maxRecDepth 100000 in
/-- Ring.invert(into, a) -/
theorem r_invert (l : Launch) (g : qCfg) (hg : g.ok) (σ : qSt) {i j : Nat} (hi : 12 ≤ i ∧ i < g.N)(hj : 12 ≤ j ∧ j < g.N)(hi21 : 21 ≤ i) (hj21 : 21 ≤ j) (p0 : Pp g σ.F σ.mi)  : qCI l g yX1_invert wsX1_invert 4 97 [.ref (g.P 1), .ref (g.P i), .ref (g.P j)] σ (fun r σ' => ∃ F', σ' = σ.setF F' ∧ ((r = 1 ∧ Nat.gcd (qV g σ.F j) (qV g σ.F 12) = 1 ∧ Fr σ.F F' [16, 17, 18, 19, 20, i] ∧ qV g F' i < qV g σ.F 12 ∧ qV g F' i * qV g σ.F j % qV g σ.F 12 = 1 % qV g σ.F 12) ∨ (r = 0 ∧ Nat.gcd (qV g σ.F j) (qV g σ.F 12) ≠ 1 ∧ Fr σ.F F' [16, 17, 18, 19, 20]))) := by
  refine q_sZ (cc := cX1_invert) (maxL := 5) (by decide) rfl (Nat.le_of_ble_eq_true rfl) ?_
  intro p e s m args below meth c ls Q S hW hl fin
  obtain ⟨hx, hb, hml, hown, hts, hr, hlocks⟩ := id S
  obtain ⟨hk1, hk8, hn1, hn8⟩ := id hg
  have hl : lv_has ls 5 [(0, .ref (g.P 1)), (1, .ref (g.P i)), (2, .ref (g.P j))] := hl
  have loop : ∀ (n x B : Nat) (F : Nat → Nat → Int32), 4 * (32 * g.k) + 2 ≤ x + n → Fr σ.F F [16, 17, 18, 19, 20] → gInv (qV g σ.F 12) (qV g σ.F j) (qV g F 17) (qV g F 18) (qV g F 19) (qV g F 20) → qV g F 18 % 2 = 1 → qV g F 17 * qV g F 18 < 2 ^ B → 2 * B + qV g F 17 % 2 + x ≤ 4 * (32 * g.k) + 1 → ∀ (H : Heap) (locs : List Loc) (ls : Array Slot), Wo g (Ad g s.heap.size) s H locs (σ.setF F) → lv_has ls 5 [(4, .int (nI x)), (3, .int (nI (4 * (32 * g.k) + 2))), (0, .ref (g.P 1)), (1, .ref (g.P i)), (2, .ref (g.P j))] → W p l e (rmm 4 97) s m args below meth c H locs 0 0 Q (F0 m 63 ls []) := by
    intro n
    induction n with
    | zero => intro x B F h1 h2 h3 h4 h5 h6; exact absurd h1 (by omega)
    | succ n ih =>
      intro x B F hx1 hf hI hr18 hB hpot H locs ls hW hl
      have m0 : qV g F 12 = qV g σ.F 12 := hf.V (by decide)
      refine lv_iload hx hb dX1_invert_63 (lv_at hl 0 rfl) ?_
      refine lv_iload_n hx hb dX1_invert_65 rfl (lv_at hl 1 rfl) ?_
      refine lv_icmp_ge (tgt := 94) hx hb dX1_invert_66 (by decide) (fun c9 => absurd c9 (nI_ge (by omega) (by omega))) (fun _ => ?_)
      refine lv_aload_n hx hb dX1_invert_69 rfl (lv_at hl 2 rfl) ?_
      refine q_get (C := RX1) (T := TX1) (v := .ref (g.P 17)) hx hb hts hown (fun _ h9 => iw_X1_invert_X1 _ h9) hW (i := 1) (by decide) rfl rfl 7 (by decide) (hts (.fieldLink RX1 34 "ModEngine$Ring" "left" "[I") (by decide +kernel)) rfl dX1_invert_70 ?_
      refine lv_iconst (v := 0) hx hb dX1_invert_73 (by decide) ?_
      refine lv_aload_n hx hb dX1_invert_74 rfl (lv_at hl 2 rfl) ?_
      refine q_get (C := RX1) (T := TX1) (v := .int (nI g.k)) hx hb hts hown (fun _ h9 => iw_X1_invert_X1 _ h9) hW (i := 1) (by decide) rfl rfl 1 (by decide) (hts (.fieldLink RX1 9 "ModEngine$Ring" "k" "I") (by decide +kernel)) rfl dX1_invert_75 ?_
      refine q_i (q_runS (As := [.ref (g.P 17), .int 0, .int (nI g.k)]) (rest := []) S hW (k_isSmall l g hg (σ.setF F) (rowk (by decide)) 0) gX1_invert_X0_isSmall (nA := 3) ⟨rfl, by decide +kernel, ⟨by decide, by decide⟩⟩ rfl hl.1 rfl (Nat.le_of_ble_eq_true rfl) dX1_invert_78 ⟨Nat.zero_le _, Nat.zero_le _⟩) hW Ad_hi (fun r_78 σ1 H locs hp hW => ?_)
      obtain ⟨e1, er1⟩ : σ1 = σ.setF F ∧ r_78 = if qV g F 17 = uI 0 then 1 else 0 := hp
      rw [e1] at hW
      rw [uI_0] at er1
      refine lv_if_ne (tgt := 94) hx hb dX1_invert_81 (by decide) (fun c9 => ?_) (fun c9 => ?_)
      · have h0 := (fa_boolp er1).2.mp c9
        rw [h0] at hI
        obtain ⟨hg1, hg2⟩ := gInv_end hI
        refine lv_aload_n hx hb dX1_invert_94 rfl (lv_at hl 2 rfl) ?_
        refine q_get (C := RX1) (T := TX1) (v := .ref (g.P 18)) hx hb hts hown (fun _ h9 => iw_X1_invert_X1 _ h9) hW (i := 1) (by decide) rfl rfl 8 (by decide) (hts (.fieldLink RX1 37 "ModEngine$Ring" "right" "[I") (by decide +kernel)) rfl dX1_invert_95 ?_
        refine lv_iconst (v := 1) hx hb dX1_invert_98 (by decide) ?_
        refine lv_aload_n hx hb dX1_invert_99 rfl (lv_at hl 2 rfl) ?_
        refine q_get (C := RX1) (T := TX1) (v := .int (nI g.k)) hx hb hts hown (fun _ h9 => iw_X1_invert_X1 _ h9) hW (i := 1) (by decide) rfl rfl 1 (by decide) (hts (.fieldLink RX1 9 "ModEngine$Ring" "k" "I") (by decide +kernel)) rfl dX1_invert_100 ?_
        refine q_i (q_runS (As := [.ref (g.P 18), .int 1, .int (nI g.k)]) (rest := []) S hW (k_isSmall l g hg (σ.setF F) (rowk (by decide)) 1) gX1_invert_X0_isSmall (nA := 3) ⟨rfl, by decide +kernel, ⟨by decide, by decide⟩⟩ rfl hl.1 rfl (Nat.le_of_ble_eq_true rfl) dX1_invert_103 ⟨Nat.zero_le _, Nat.zero_le _⟩) hW Ad_hi (fun r_103 σ2 H locs hp hW => ?_)
        obtain ⟨e2, er2⟩ : σ2 = σ.setF F ∧ r_103 = if qV g F 18 = uI 1 then 1 else 0 := hp
        rw [e2] at hW
        rw [uI_1] at er2
        refine lv_if_ne (tgt := 111) hx hb dX1_invert_106 (by decide) (fun c8 => ?_) (fun c8 => ?_)
        · have h1 := (fa_boolp er2).2.mp c8
          refine lv_aload_n hx hb dX1_invert_111 rfl (lv_at hl 3 rfl) ?_
          refine lv_aload_n hx hb dX1_invert_112 rfl (lv_at hl 2 rfl) ?_
          refine q_get (C := RX1) (T := TX1) (v := .ref (g.P 20)) hx hb hts hown (fun _ h9 => iw_X1_invert_X1 _ h9) hW (i := 1) (by decide) rfl rfl 10 (by decide) (hts (.fieldLink RX1 43 "ModEngine$Ring" "rightShare" "[I") (by decide +kernel)) rfl dX1_invert_113 ?_
          refine lv_aload_n hx hb dX1_invert_116 rfl (lv_at hl 2 rfl) ?_
          refine q_get (C := RX1) (T := TX1) (v := .int (nI g.k)) hx hb hts hown (fun _ h9 => iw_X1_invert_X1 _ h9) hW (i := 1) (by decide) rfl rfl 1 (by decide) (hts (.fieldLink RX1 9 "ModEngine$Ring" "k" "I") (by decide +kernel)) rfl dX1_invert_117 ?_
          refine q_v (q_runS (As := [.ref (g.P i), .ref (g.P 20), .int (nI g.k)]) (rest := []) S hW (k_copy l g hg (σ.setF F) hi (rowk (by decide))) gX1_invert_X0_copy (nA := 3) ⟨rfl, by decide +kernel, ⟨by decide, by decide⟩⟩ rfl hl.1 rfl (Nat.le_of_ble_eq_true rfl) dX1_invert_120 ⟨Nat.zero_le _, Nat.zero_le _⟩) hW Ad_hi (fun σ3 H locs hp hW => ?_)
          obtain ⟨F3, e3, hf3, hv3⟩ : ∃ F', σ3 = σ.setF F' ∧ Fr F F' [i] ∧ qV g F' i = qV g F 20 := hp
          rw [e3] at hW
          refine lv_iconst (v := 1) hx hb dX1_invert_123 (by decide) ?_
          exact fin _ _ _ _ _ _ (by decide) hW (⟨F3, rfl, Or.inl ⟨rfl, hg1.symm.trans h1, fun a ha => by
                      simp only [List.mem_cons, List.not_mem_nil, or_false, not_or] at ha
                      rw [hf3 a (by simp; omega), hf a (by simp; omega)], by rw [hv3]; exact hI.2.1, by rw [hv3]; exact hg2 h1⟩⟩) dX1_invert_124
        · have h1 := (fa_boolp er2).1.mp c8
          refine lv_iconst (v := 0) hx hb dX1_invert_109 (by decide) ?_
          exact fin _ _ _ _ _ _ (by decide) hW (⟨F, rfl, Or.inr ⟨rfl, fun q => h1 (hg1.trans q), hf⟩⟩) dX1_invert_110
      · have h0 := (fa_boolp er1).1.mp c9
        refine lv_aload_n hx hb dX1_invert_84 rfl (lv_at hl 2 rfl) ?_
        refine q_v (q_runV (As := []) (rest := []) (i := 1) S hW (by decide) rfl rfl (r_step l g hg (σ.setF F) (by show qV g F 19 < qV g F 12; rw [m0]; exact hI.1) (by show qV g F 20 < qV g F 12; rw [m0]; exact hI.2.1)) gX1_invert_X1_stepTowardsDivisor rfl (nA := 0) ⟨rfl, by decide +kernel, ⟨by decide, by decide⟩⟩ rfl hl.1 rfl (Nat.le_of_ble_eq_true rfl) dX1_invert_85 ⟨Nat.zero_le _, Nat.zero_le _⟩) hW Ad_hi (fun σ2 H locs hp hW => ?_)
        obtain ⟨F2, e2, hf2, hv2⟩ : ∃ F', σ2 = σ.setF F' ∧ Fr F F' [17, 18, 19, 20] ∧ (qV g F' 17, qV g F' 18, qV g F' 19, qV g F' 20) = gstep (qV g F 12) (qV g F 17) (qV g F 18) (qV g F 19) (qV g F 20) := hp
        rw [e2] at hW
        rw [m0] at hv2
        obtain ⟨hI2, hr2, B2, hB2, hp2⟩ := gstep_ok p0.1 hI hr18 (Nat.pos_of_ne_zero h0) hB hv2
        refine lv_iinc (v := nI (x + 1)) (lv' := [(4, .int (nI (x + 1))), (3, .int (nI (4 * (32 * g.k) + 2))), (0, .ref (g.P 1)), (1, .ref (g.P i)), (2, .ref (g.P j))]) hx hb dX1_invert_88 hl (k := 0) rfl (nI_1 _) (by decide) rfl (fun ls hl => ?_)
        refine lv_goto (tgt := 63) hx hb dX1_invert_91 (by decide) ?_
        exact ih (x + 1) B2 F2 (by omega) (fun a ha => by
            simp only [List.mem_cons, List.not_mem_nil, or_false, not_or] at ha
            rw [hf2 a (by simp; omega), hf a (by simp; omega)]) hI2 hr2 hB2 (by omega) H locs ls hW (lv_sub hl [0, 1, 2, 3, 4] rfl)
  refine lv_aload_n hx hb dX1_invert_0 rfl (lv_at hl 0 rfl) ?_
  refine lv_aload_n hx hb dX1_invert_1 rfl (lv_at hl 0 rfl) ?_
  refine q_get (C := RX1) (T := TX1) (v := .ref (g.P 17)) hx hb hts hown (fun _ h9 => iw_X1_invert_X1 _ h9) hW (i := 1) (by decide) rfl rfl 7 (by decide) (hts (.fieldLink RX1 34 "ModEngine$Ring" "left" "[I") (by decide +kernel)) rfl dX1_invert_2 ?_
  refine lv_aload_n hx hb dX1_invert_5 rfl (lv_at hl 2 rfl) ?_
  refine q_v (q_runV (As := [.ref (g.P 17), .ref (g.P j)]) (rest := []) (i := 1) S hW (by decide) rfl rfl (r_residue l g hg σ (rowk (by decide)) hj (by omega) (by omega) p0) gX1_invert_X1_residue rfl (nA := 2) ⟨rfl, by decide +kernel, ⟨by decide, by decide⟩⟩ rfl hl.1 rfl (Nat.le_of_ble_eq_true rfl) dX1_invert_6 ⟨Nat.zero_le _, Nat.zero_le _⟩) hW Ad_hi (fun σ1 H locs hp hW => ?_)
  obtain ⟨F1, e1, hf1, hv1⟩ : ∃ F', σ1 = σ.setF F' ∧ Fr σ.F F' [16, 17] ∧ qV g F' 17 = qV g σ.F j % qV g σ.F 12 := hp
  rw [e1] at hW
  refine lv_aload_n hx hb dX1_invert_9 rfl (lv_at hl 0 rfl) ?_
  refine q_get (C := RX1) (T := TX1) (v := .ref (g.P 18)) hx hb hts hown (fun _ h9 => iw_X1_invert_X1 _ h9) hW (i := 1) (by decide) rfl rfl 8 (by decide) (hts (.fieldLink RX1 37 "ModEngine$Ring" "right" "[I") (by decide +kernel)) rfl dX1_invert_10 ?_
  refine lv_aload_n hx hb dX1_invert_13 rfl (lv_at hl 0 rfl) ?_
  refine q_get (C := RX1) (T := TX1) (v := .ref (g.P 12)) hx hb hts hown (fun _ h9 => iw_X1_invert_X1 _ h9) hW (i := 1) (by decide) rfl rfl 0 (by decide) (hts (.fieldLink RX1 18 "ModEngine$Ring" "modulus" "[I") (by decide +kernel)) rfl dX1_invert_14 ?_
  refine lv_aload_n hx hb dX1_invert_17 rfl (lv_at hl 0 rfl) ?_
  refine q_get (C := RX1) (T := TX1) (v := .int (nI g.k)) hx hb hts hown (fun _ h9 => iw_X1_invert_X1 _ h9) hW (i := 1) (by decide) rfl rfl 1 (by decide) (hts (.fieldLink RX1 9 "ModEngine$Ring" "k" "I") (by decide +kernel)) rfl dX1_invert_18 ?_
  refine q_v (q_runS (As := [.ref (g.P 18), .ref (g.P 12), .int (nI g.k)]) (rest := []) S hW (k_copy l g hg (σ.setF F1) (rowk (by decide)) (rowk (by decide))) gX1_invert_X0_copy (nA := 3) ⟨rfl, by decide +kernel, ⟨by decide, by decide⟩⟩ rfl hl.1 rfl (Nat.le_of_ble_eq_true rfl) dX1_invert_21 ⟨Nat.zero_le _, Nat.zero_le _⟩) hW Ad_hi (fun σ2 H locs hp hW => ?_)
  obtain ⟨F2, e2, hf2, hv2⟩ : ∃ F', σ2 = σ.setF F' ∧ Fr F1 F' [18] ∧ qV g F' 18 = qV g F1 12 := hp
  rw [e2] at hW
  refine lv_aload_n hx hb dX1_invert_24 rfl (lv_at hl 0 rfl) ?_
  refine q_get (C := RX1) (T := TX1) (v := .ref (g.P 19)) hx hb hts hown (fun _ h9 => iw_X1_invert_X1 _ h9) hW (i := 1) (by decide) rfl rfl 9 (by decide) (hts (.fieldLink RX1 40 "ModEngine$Ring" "leftShare" "[I") (by decide +kernel)) rfl dX1_invert_25 ?_
  refine lv_aload_n hx hb dX1_invert_28 rfl (lv_at hl 0 rfl) ?_
  refine q_get (C := RX1) (T := TX1) (v := .ref (g.P 13)) hx hb hts hown (fun _ h9 => iw_X1_invert_X1 _ h9) hW (i := 1) (by decide) rfl rfl 3 (by decide) (hts (.fieldLink RX1 22 "ModEngine$Ring" "one" "[I") (by decide +kernel)) rfl dX1_invert_29 ?_
  refine lv_aload_n hx hb dX1_invert_32 rfl (lv_at hl 0 rfl) ?_
  refine q_get (C := RX1) (T := TX1) (v := .int (nI g.k)) hx hb hts hown (fun _ h9 => iw_X1_invert_X1 _ h9) hW (i := 1) (by decide) rfl rfl 1 (by decide) (hts (.fieldLink RX1 9 "ModEngine$Ring" "k" "I") (by decide +kernel)) rfl dX1_invert_33 ?_
  refine q_v (q_runS (As := [.ref (g.P 19), .ref (g.P 13), .int (nI g.k)]) (rest := []) S hW (k_copy l g hg (σ.setF F2) (rowk (by decide)) (rowk (by decide))) gX1_invert_X0_copy (nA := 3) ⟨rfl, by decide +kernel, ⟨by decide, by decide⟩⟩ rfl hl.1 rfl (Nat.le_of_ble_eq_true rfl) dX1_invert_36 ⟨Nat.zero_le _, Nat.zero_le _⟩) hW Ad_hi (fun σ3 H locs hp hW => ?_)
  obtain ⟨F3, e3, hf3, hv3⟩ : ∃ F', σ3 = σ.setF F' ∧ Fr F2 F' [19] ∧ qV g F' 19 = qV g F2 13 := hp
  rw [e3] at hW
  refine lv_aload_n hx hb dX1_invert_39 rfl (lv_at hl 0 rfl) ?_
  refine q_get (C := RX1) (T := TX1) (v := .ref (g.P 20)) hx hb hts hown (fun _ h9 => iw_X1_invert_X1 _ h9) hW (i := 1) (by decide) rfl rfl 10 (by decide) (hts (.fieldLink RX1 43 "ModEngine$Ring" "rightShare" "[I") (by decide +kernel)) rfl dX1_invert_40 ?_
  refine lv_iconst (v := 0) hx hb dX1_invert_43 (by decide) ?_
  refine lv_aload_n hx hb dX1_invert_44 rfl (lv_at hl 0 rfl) ?_
  refine q_get (C := RX1) (T := TX1) (v := .int (nI g.k)) hx hb hts hown (fun _ h9 => iw_X1_invert_X1 _ h9) hW (i := 1) (by decide) rfl rfl 1 (by decide) (hts (.fieldLink RX1 9 "ModEngine$Ring" "k" "I") (by decide +kernel)) rfl dX1_invert_45 ?_
  refine q_v (q_runS (As := [.ref (g.P 20), .int 0, .int (nI g.k)]) (rest := []) S hW (k_setSmall l g hg (σ.setF F3) (rowk (by decide)) 0) gX1_invert_X0_setSmall (nA := 3) ⟨rfl, by decide +kernel, ⟨by decide, by decide⟩⟩ rfl hl.1 rfl (Nat.le_of_ble_eq_true rfl) dX1_invert_48 ⟨Nat.zero_le _, Nat.zero_le _⟩) hW Ad_hi (fun σ4 H locs hp hW => ?_)
  obtain ⟨F4, e4, hf4, hv4⟩ : ∃ F', σ4 = σ.setF F' ∧ Fr F3 F' [20] ∧ qV g F' 20 = uI 0 := hp
  rw [e4] at hW
  rw [uI_0] at hv4
  refine lv_iconst (v := 4) hx hb dX1_invert_51 (by decide) ?_
  refine lv_aload_n hx hb dX1_invert_52 rfl (lv_at hl 0 rfl) ?_
  refine q_get (C := RX1) (T := TX1) (v := .int (nI (32 * g.k))) hx hb hts hown (fun _ h9 => iw_X1_invert_X1 _ h9) hW (i := 1) (by decide) rfl rfl 2 (by decide) (hts (.fieldLink RX1 15 "ModEngine$Ring" "bits" "I") (by decide +kernel)) rfl dX1_invert_53 ?_
  refine lv_imul hx hb dX1_invert_56 ?_
  refine q_ti (y := nI (4 * (32 * g.k))) (pk_mul 4 _) ?_
  refine lv_iconst (v := 2) hx hb dX1_invert_57 (by decide) ?_
  refine lv_iadd hx hb dX1_invert_58 ?_
  refine q_ti (y := nI (4 * (32 * g.k) + 2)) (nI_add _ 2) ?_
  refine lv_istore_n (lv' := [(3, .int (nI (4 * (32 * g.k) + 2))), (0, .ref (g.P 1)), (1, .ref (g.P i)), (2, .ref (g.P j))]) hx hb dX1_invert_59 rfl hl (by decide) rfl (fun ls hl => ?_)
  refine lv_iconst (v := 0) hx hb dX1_invert_60 (by decide) ?_
  refine lv_istore (lv' := [(4, .int 0), (3, .int (nI (4 * (32 * g.k) + 2))), (0, .ref (g.P 1)), (1, .ref (g.P i)), (2, .ref (g.P j))]) hx hb dX1_invert_61 hl (by decide) rfl (fun ls hl => ?_)
  have b17 : qV g F4 17 = qV g σ.F j % qV g σ.F 12 := ((hf4.V (by decide)).trans (hf3.V (by decide))).trans ((hf2.V (by decide)).trans hv1)
  have b18 : qV g F4 18 = qV g σ.F 12 := ((hf4.V (by decide)).trans (hf3.V (by decide))).trans (hv2.trans (hf1.V (by decide)))
  have b19 : qV g F4 19 = 1 := ((hf4.V (by decide)).trans hv3).trans ((hf2.V (by decide)).trans ((hf1.V (by decide)).trans p0.2.2.1))
  have hlt := Nat.mod_lt (qV g σ.F j) p0.pos
  have h3 := p0.2.1
  have hmR := qV_lt (g := g) (F := σ.F) (i := 12)
  refine loop (4 * (32 * g.k) + 2) 0 (32 * g.k + 32 * g.k) F4 (by omega) (fun a ha => ?_) ?_ (by rw [b18]; exact p0.1) ?_ (by omega) _ _ ls hW (lv_sub hl [0, 1, 2, 3, 4] rfl)
  · simp only [List.mem_cons, List.not_mem_nil, or_false, not_or] at ha
    rw [hf4 a (by simp; omega), hf3 a (by simp; omega), hf2 a (by simp; omega), hf1 a (by simp; omega)]
  · rw [b17, b18, b19, hv4]
    refine ⟨by omega, by omega, by rw [Nat.one_mul, Nat.mod_mod], by rw [Nat.zero_mul, Nat.zero_mod, Nat.mod_self], ?_⟩
    rw [← Nat.gcd_rec, Nat.gcd_comm]
  · rw [b17, b18, Nat.pow_add]
    exact Nat.mul_lt_mul'' (by omega) hmR
set_option maxHeartbeats 4000000 in
set_option maxRecDepth 100000 in
/-- Ring.isProvedCompositeBy(a) -/
theorem r_witness (l : Launch) (g : qCfg) (hg : g.ok) (σ : qSt) {j : Nat} (hj : 12 ≤ j ∧ j < g.N)(hj21 : 21 ≤ j) (p0 : Pp g σ.F σ.mi)  : qCI l g yX1_isProvedCompositeBy wsX1_isProvedCompositeBy 4 100 [.ref (g.P 1), .ref (g.P j)] σ (fun r σ' => ∃ F', σ' = σ.setF F' ∧ Fr σ.F F' [16, 17, 18, 19] ∧ ∃ u, twos (qV g σ.F 12) u ∧ ((r = 1 ∧ wit (qV g σ.F 12) u (qV g σ.F j)) ∨ (r = 0 ∧ ¬ wit (qV g σ.F 12) u (qV g σ.F j)))) := by
  refine q_sZ (cc := cX1_isProvedCompositeBy) (maxL := 5) (by decide) rfl (Nat.le_of_ble_eq_true rfl) ?_
  intro p e s m args below meth c ls Q S hW hl fin
  obtain ⟨hx, hb, hml, hown, hts, hr, hlocks⟩ := id S
  obtain ⟨hk1, hk8, hn1, hn8⟩ := id hg
  have hl : lv_has ls 5 [(0, .ref (g.P 1)), (1, .ref (g.P j))] := hl
  have h3 := p0.2.1
  have hmR := R_ne (J := 32 * g.k) p0.1 h3
  refine lv_aload_n hx hb dX1_isProvedCompositeBy_0 rfl (lv_at hl 0 rfl) ?_
  refine lv_aload_n hx hb dX1_isProvedCompositeBy_1 rfl (lv_at hl 0 rfl) ?_
  refine q_get (C := RX1) (T := TX1) (v := .ref (g.P 17)) hx hb hts hown (fun _ h9 => iw_X1_isProvedCompositeBy_X1 _ h9) hW (i := 1) (by decide) rfl rfl 7 (by decide) (hts (.fieldLink RX1 34 "ModEngine$Ring" "left" "[I") (by decide +kernel)) rfl dX1_isProvedCompositeBy_2 ?_
  refine lv_aload_n hx hb dX1_isProvedCompositeBy_5 rfl (lv_at hl 1 rfl) ?_
  refine lv_aload_n hx hb dX1_isProvedCompositeBy_6 rfl (lv_at hl 0 rfl) ?_
  refine q_get (C := RX1) (T := TX1) (v := .ref (g.P 15)) hx hb hts hown (fun _ h9 => iw_X1_isProvedCompositeBy_X1 _ h9) hW (i := 1) (by decide) rfl rfl 5 (by decide) (hts (.fieldLink RX1 28 "ModEngine$Ring" "rSquared" "[I") (by decide +kernel)) rfl dX1_isProvedCompositeBy_7 ?_
  refine q_v (q_runV (As := [.ref (g.P 17), .ref (g.P j), .ref (g.P 15)]) (rest := []) (i := 1) S hW (by decide) rfl rfl (r_montgomery l g hg σ (rowk (by decide)) hj (rowk (by decide)) (by omega) (by omega) (by omega) (by omega) p0.pos p0.2.2.2.2.2 (mlt_r p0.lt15)) gX1_isProvedCompositeBy_X1_montgomery rfl (nA := 3) ⟨rfl, by decide +kernel, ⟨by decide, by decide⟩⟩ rfl hl.1 rfl (Nat.le_of_ble_eq_true rfl) dX1_isProvedCompositeBy_10 ⟨Nat.zero_le _, Nat.zero_le _⟩) hW Ad_hi (fun σ1 H locs hp hW => ?_)
  obtain ⟨F1, e1, hf1, hl1, hv1⟩ : ∃ F', σ1 = σ.setF F' ∧ Fr σ.F F' [16, 17] ∧ qV g F' 17 < qV g σ.F 12 ∧ qV g F' 17 * 2 ^ (32 * g.k) % qV g σ.F 12 = qV g σ.F j * qV g σ.F 15 % qV g σ.F 12 := hp
  rw [e1] at hW
  obtain ⟨p1, m1⟩ := p0.keep hf1 (ge16 (by omega))
  have h1 := mf_to p0.1 p0.2.2.2.2.1 hv1
  refine lv_aload_n hx hb dX1_isProvedCompositeBy_13 rfl (lv_at hl 0 rfl) ?_
  refine q_get (C := RX1) (T := TX1) (v := .ref (g.P 17)) hx hb hts hown (fun _ h9 => iw_X1_isProvedCompositeBy_X1 _ h9) hW (i := 1) (by decide) rfl rfl 7 (by decide) (hts (.fieldLink RX1 34 "ModEngine$Ring" "left" "[I") (by decide +kernel)) rfl dX1_isProvedCompositeBy_14 ?_
  refine lv_iconst (v := 0) hx hb dX1_isProvedCompositeBy_17 (by decide) ?_
  refine lv_aload_n hx hb dX1_isProvedCompositeBy_18 rfl (lv_at hl 0 rfl) ?_
  refine q_get (C := RX1) (T := TX1) (v := .int (nI g.k)) hx hb hts hown (fun _ h9 => iw_X1_isProvedCompositeBy_X1 _ h9) hW (i := 1) (by decide) rfl rfl 1 (by decide) (hts (.fieldLink RX1 9 "ModEngine$Ring" "k" "I") (by decide +kernel)) rfl dX1_isProvedCompositeBy_19 ?_
  refine q_i (q_runS (As := [.ref (g.P 17), .int 0, .int (nI g.k)]) (rest := []) S hW (k_isSmall l g hg (σ.setF F1) (rowk (by decide)) 0) gX1_isProvedCompositeBy_X0_isSmall (nA := 3) ⟨rfl, by decide +kernel, ⟨by decide, by decide⟩⟩ rfl hl.1 rfl (Nat.le_of_ble_eq_true rfl) dX1_isProvedCompositeBy_22 ⟨Nat.zero_le _, Nat.zero_le _⟩) hW Ad_hi (fun r_22 σ2 H locs hp hW => ?_)
  obtain ⟨e2, er2⟩ : σ2 = σ.setF F1 ∧ r_22 = if qV g F1 17 = uI 0 then 1 else 0 := hp
  rw [e2] at hW
  rw [uI_0] at er2
  have hz : qV g F1 17 = 0 ↔ qV g σ.F j % qV g σ.F 12 = 0 := by
    have h5 := mf_is (z := 0) p0.1 h1
    rw [Nat.zero_mul, Nat.zero_mod, Nat.mod_eq_of_lt hl1] at h5
    exact h5
  have frA : Fr σ.F F1 [16, 17, 18, 19] := fun a ha => hf1 a (by simp only [List.mem_cons, List.not_mem_nil, or_false, not_or] at ha; simp; omega)
  refine lv_if_eq (tgt := 30) hx hb dX1_isProvedCompositeBy_25 (by decide) (fun c9 => ?_) (fun c9 => ?_)
  · have hn0 : ¬ qV g σ.F j % qV g σ.F 12 = 0 := fun q => (fa_boolp er2).1.mp c9 (hz.mpr q)
    refine lv_aload_n hx hb dX1_isProvedCompositeBy_30 rfl (lv_at hl 0 rfl) ?_
    refine q_i (q_runV (As := []) (rest := []) (i := 1) S hW (by decide) rfl rfl (r_twos l g hg (σ.setF F1) p1) gX1_isProvedCompositeBy_X1_twosInModulusLessOne rfl (nA := 0) ⟨rfl, by decide +kernel, ⟨by decide, by decide⟩⟩ rfl hl.1 rfl (Nat.le_of_ble_eq_true rfl) dX1_isProvedCompositeBy_31 ⟨Nat.zero_le _, Nat.zero_le _⟩) hW Ad_hi (fun r_31 σ3 H locs hp hW => ?_)
    obtain ⟨e3, er3⟩ : σ3 = σ.setF F1 ∧ ∃ u, r_31 = nI u ∧ u < 32 * g.k ∧ twos (qV g F1 12) u := hp
    rw [e3] at hW
    obtain ⟨u, eu, hu, htw⟩ := er3
    rw [m1] at htw
    refine q_ti (y := nI u) eu ?_
    refine lv_istore_n (lv' := [(2, .int (nI u)), (0, .ref (g.P 1)), (1, .ref (g.P j))]) hx hb dX1_isProvedCompositeBy_34 rfl hl (by decide) rfl (fun ls hl => ?_)
    refine lv_aload_n hx hb dX1_isProvedCompositeBy_35 rfl (lv_at hl 1 rfl) ?_
    refine q_get (C := RX1) (T := TX1) (v := .ref (g.P 19)) hx hb hts hown (fun _ h9 => iw_X1_isProvedCompositeBy_X1 _ h9) hW (i := 1) (by decide) rfl rfl 9 (by decide) (hts (.fieldLink RX1 40 "ModEngine$Ring" "leftShare" "[I") (by decide +kernel)) rfl dX1_isProvedCompositeBy_36 ?_
    refine lv_astore_n (lv' := [(3, .ref (g.P 19)), (2, .int (nI u)), (0, .ref (g.P 1)), (1, .ref (g.P j))]) hx hb dX1_isProvedCompositeBy_39 rfl hl (by decide) rfl (fun ls hl => ?_)
    refine lv_aload_n hx hb dX1_isProvedCompositeBy_40 rfl (lv_at hl 2 rfl) ?_
    refine lv_aload_n hx hb dX1_isProvedCompositeBy_41 rfl (lv_at hl 0 rfl) ?_
    refine lv_aload_n hx hb dX1_isProvedCompositeBy_42 rfl (lv_at hl 2 rfl) ?_
    refine q_get (C := RX1) (T := TX1) (v := .ref (g.P 12)) hx hb hts hown (fun _ h9 => iw_X1_isProvedCompositeBy_X1 _ h9) hW (i := 1) (by decide) rfl rfl 0 (by decide) (hts (.fieldLink RX1 18 "ModEngine$Ring" "modulus" "[I") (by decide +kernel)) rfl dX1_isProvedCompositeBy_43 ?_
    refine lv_aload_n hx hb dX1_isProvedCompositeBy_46 rfl (lv_at hl 2 rfl) ?_
    refine q_get (C := RX1) (T := TX1) (v := .ref (g.P 14)) hx hb hts hown (fun _ h9 => iw_X1_isProvedCompositeBy_X1 _ h9) hW (i := 1) (by decide) rfl rfl 4 (by decide) (hts (.fieldLink RX1 25 "ModEngine$Ring" "unit" "[I") (by decide +kernel)) rfl dX1_isProvedCompositeBy_47 ?_
    refine q_v (q_runV (As := [.ref (g.P 19), .ref (g.P 12), .ref (g.P 14)]) (rest := []) (i := 1) S hW (by decide) rfl rfl (r_subtractBelow l g hg (σ.setF F1) (rowk (by decide)) (rowk (by decide)) (rowk (by decide)) (by decide) (by have := p1.lt14; show qV g F1 14 ≤ qV g F1 12 + qV g F1 12; omega)) gX1_isProvedCompositeBy_X1_subtractBelow rfl (nA := 3) ⟨rfl, by decide +kernel, ⟨by decide, by decide⟩⟩ rfl hl.1 rfl (Nat.le_of_ble_eq_true rfl) dX1_isProvedCompositeBy_50 ⟨Nat.zero_le _, Nat.zero_le _⟩) hW Ad_hi (fun σ4 H locs hp hW => ?_)
    obtain ⟨F4, e4, hf4, hv4⟩ : ∃ F', σ4 = σ.setF F' ∧ Fr F1 F' [19] ∧ qV g F' 19 = dfm (qV g F1 12) (qV g F1 12) (qV g F1 14) := hp
    rw [e4] at hW
    obtain ⟨p4, m4⟩ := p1.keep hf4 (by decide)
    rw [m1] at m4
    have v19 : qV g F4 19 = qV g σ.F 12 - 2 ^ (32 * g.k) % qV g σ.F 12 := by
      rw [hv4, p1.2.2.2.1, m1]
      unfold dfm
      rw [if_pos (Nat.le_of_lt (Nat.mod_lt _ p0.pos))]
    have v17 : qV g F4 17 = qV g F1 17 := hf4.V (by decide)
    refine lv_aload_n hx hb dX1_isProvedCompositeBy_53 rfl (lv_at hl 2 rfl) ?_
    refine lv_aload_n hx hb dX1_isProvedCompositeBy_54 rfl (lv_at hl 2 rfl) ?_
    refine q_get (C := RX1) (T := TX1) (v := .ref (g.P 18)) hx hb hts hown (fun _ h9 => iw_X1_isProvedCompositeBy_X1 _ h9) hW (i := 1) (by decide) rfl rfl 8 (by decide) (hts (.fieldLink RX1 37 "ModEngine$Ring" "right" "[I") (by decide +kernel)) rfl dX1_isProvedCompositeBy_55 ?_
    refine lv_aload_n hx hb dX1_isProvedCompositeBy_58 rfl (lv_at hl 2 rfl) ?_
    refine q_get (C := RX1) (T := TX1) (v := .ref (g.P 17)) hx hb hts hown (fun _ h9 => iw_X1_isProvedCompositeBy_X1 _ h9) hW (i := 1) (by decide) rfl rfl 7 (by decide) (hts (.fieldLink RX1 34 "ModEngine$Ring" "left" "[I") (by decide +kernel)) rfl dX1_isProvedCompositeBy_59 ?_
    refine lv_aload_n hx hb dX1_isProvedCompositeBy_62 rfl (lv_at hl 2 rfl) ?_
    refine q_get (C := RX1) (T := TX1) (v := .ref (g.P 12)) hx hb hts hown (fun _ h9 => iw_X1_isProvedCompositeBy_X1 _ h9) hW (i := 1) (by decide) rfl rfl 0 (by decide) (hts (.fieldLink RX1 18 "ModEngine$Ring" "modulus" "[I") (by decide +kernel)) rfl dX1_isProvedCompositeBy_63 ?_
    refine lv_iload_n hx hb dX1_isProvedCompositeBy_66 rfl (lv_at hl 1 rfl) ?_
    refine q_v (q_runV (As := [.ref (g.P 18), .ref (g.P 17), .ref (g.P 12), .int (nI u)]) (rest := []) (i := 1) S hW (by decide) rfl rfl (r_raise l g hg (σ.setF F4) (rowk (by decide)) (rowk (by decide)) (rowk (by decide)) (by omega) (by omega) (by decide) (by decide) (by decide) p4 u (qV g σ.F j) (by omega) (by show qV g F4 17 < qV g F4 12; rw [m4, v17]; exact hl1) (by show qV g F4 17 % qV g F4 12 = qV g σ.F j * 2 ^ (32 * g.k) % qV g F4 12; rw [m4, v17]; exact h1)) gX1_isProvedCompositeBy_X1_raise rfl (nA := 4) ⟨rfl, by decide +kernel, ⟨by decide, by decide⟩⟩ rfl hl.1 rfl (Nat.le_of_ble_eq_true rfl) dX1_isProvedCompositeBy_67 ⟨Nat.zero_le _, Nat.zero_le _⟩) hW Ad_hi (fun σ5 H locs hp hW => ?_)
    obtain ⟨F5, e5, hf5, hl5, hv5⟩ : ∃ F', σ5 = σ.setF F' ∧ Fr F4 F' [16, 18] ∧ qV g F' 18 < qV g F4 12 ∧ qV g F' 18 % qV g F4 12 = qV g σ.F j ^ (qV g F4 12 / 2 ^ u) * 2 ^ (32 * g.k) % qV g F4 12 := hp
    rw [e5] at hW
    obtain ⟨p5, m5⟩ := p4.keep hf5 (ge16 (by omega))
    rw [m4] at m5
    rw [m4] at hl5 hv5
    have u14 : qV g F5 14 = 2 ^ (32 * g.k) % qV g σ.F 12 := by rw [p5.2.2.2.1, m5]
    refine lv_aload_n hx hb dX1_isProvedCompositeBy_70 rfl (lv_at hl 2 rfl) ?_
    refine q_get (C := RX1) (T := TX1) (v := .ref (g.P 18)) hx hb hts hown (fun _ h9 => iw_X1_isProvedCompositeBy_X1 _ h9) hW (i := 1) (by decide) rfl rfl 8 (by decide) (hts (.fieldLink RX1 37 "ModEngine$Ring" "right" "[I") (by decide +kernel)) rfl dX1_isProvedCompositeBy_71 ?_
    refine lv_aload_n hx hb dX1_isProvedCompositeBy_74 rfl (lv_at hl 2 rfl) ?_
    refine q_get (C := RX1) (T := TX1) (v := .ref (g.P 14)) hx hb hts hown (fun _ h9 => iw_X1_isProvedCompositeBy_X1 _ h9) hW (i := 1) (by decide) rfl rfl 4 (by decide) (hts (.fieldLink RX1 25 "ModEngine$Ring" "unit" "[I") (by decide +kernel)) rfl dX1_isProvedCompositeBy_75 ?_
    refine lv_aload_n hx hb dX1_isProvedCompositeBy_78 rfl (lv_at hl 2 rfl) ?_
    refine q_get (C := RX1) (T := TX1) (v := .int (nI g.k)) hx hb hts hown (fun _ h9 => iw_X1_isProvedCompositeBy_X1 _ h9) hW (i := 1) (by decide) rfl rfl 1 (by decide) (hts (.fieldLink RX1 9 "ModEngine$Ring" "k" "I") (by decide +kernel)) rfl dX1_isProvedCompositeBy_79 ?_
    refine q_i (q_runS (As := [.ref (g.P 18), .ref (g.P 14), .int (nI g.k)]) (rest := []) S hW (k_order l g hg (σ.setF F5) (rowk (by decide)) (rowk (by decide))) gX1_isProvedCompositeBy_X0_order (nA := 3) ⟨rfl, by decide +kernel, ⟨by decide, by decide⟩⟩ rfl hl.1 rfl (Nat.le_of_ble_eq_true rfl) dX1_isProvedCompositeBy_82 ⟨Nat.zero_le _, Nat.zero_le _⟩) hW Ad_hi (fun r_82 σ6 H locs hp hW => ?_)
    obtain ⟨e6, er6⟩ : σ6 = σ.setF F5 ∧ r_82 = if qV g F5 18 < qV g F5 14 then -1 else if qV g F5 18 = qV g F5 14 then 0 else 1 := hp
    rw [e6] at hW
    have hone : qV g F5 18 = qV g F5 14 ↔ qV g σ.F j ^ (qV g σ.F 12 / 2 ^ u) % qV g σ.F 12 = 1 := by
      have h5 := mf_is (z := 1) p0.1 hv5
      rw [Nat.one_mul, Nat.mod_eq_of_lt hl5, Nat.mod_eq_of_lt (show 1 < qV g σ.F 12 by omega), ← u14] at h5
      exact h5
    have frB : Fr σ.F F5 [16, 17, 18, 19] := fun a ha => by
      have ha1 := ha
      simp only [List.mem_cons, List.not_mem_nil, or_false, not_or] at ha
      rw [hf5 a (by simp; omega), hf4 a (by simp; omega), frA a ha1]
    refine lv_if_ne (tgt := 90) hx hb dX1_isProvedCompositeBy_85 (by decide) (fun c8 => ?_) (fun c8 => ?_)
    · have hn1 : ¬ qV g σ.F j ^ (qV g σ.F 12 / 2 ^ u) % qV g σ.F 12 = 1 := fun q => c8 ((ord_eq er6).mpr (hone.mpr q))
      refine lv_iconst (v := 0) hx hb dX1_isProvedCompositeBy_90 (by decide) ?_
      refine lv_istore (lv' := [(4, .int 0), (3, .ref (g.P 19)), (2, .int (nI u)), (0, .ref (g.P 1)), (1, .ref (g.P j))]) hx hb dX1_isProvedCompositeBy_91 hl (by decide) rfl (fun ls hl => ?_)
      have loop : ∀ (n y : Nat) (F : Nat → Nat → Int32), y ≤ u → u + 1 ≤ y + n → Fr σ.F F [16, 17, 18, 19] → qV g F 19 = qV g σ.F 12 - 2 ^ (32 * g.k) % qV g σ.F 12 → qV g F 18 < qV g σ.F 12 → qV g F 18 % qV g σ.F 12 = qV g σ.F j ^ (qV g σ.F 12 / 2 ^ u * 2 ^ y) * 2 ^ (32 * g.k) % qV g σ.F 12 → (∀ z, z < y → ¬ qV g σ.F j ^ (qV g σ.F 12 / 2 ^ u * 2 ^ z) % qV g σ.F 12 = qV g σ.F 12 - 1) → ∀ (H : Heap) (locs : List Loc) (ls : Array Slot), Wo g (Ad g s.heap.size) s H locs (σ.setF F) → lv_has ls 5 [(4, .int (nI y)), (3, .ref (g.P 19)), (2, .int (nI u)), (0, .ref (g.P 1)), (1, .ref (g.P j))] → W p l e (rmm 4 100) s m args below meth c H locs 0 0 Q (F0 m 93 ls []) := by
        intro n
        induction n with
        | zero => intro y F h1 h2; exact absurd h2 (by omega)
        | succ n ih =>
          intro y F hy1 hy2 hf hv19 hl18 hv18 hall H locs ls hW hl
          obtain ⟨pF, mF⟩ := p0.keep hf (by decide)
          refine lv_iload hx hb dX1_isProvedCompositeBy_93 (lv_at hl 0 rfl) ?_
          refine lv_iload_n hx hb dX1_isProvedCompositeBy_95 rfl (lv_at hl 2 rfl) ?_
          refine lv_icmp_ge (tgt := 138) hx hb dX1_isProvedCompositeBy_96 (by decide) (fun c7 => ?_) (fun c7 => ?_)
          · have hx3 := nle c7 (by omega) (by omega)
            refine lv_iconst (v := 1) hx hb dX1_isProvedCompositeBy_138 (by decide) ?_
            exact fin _ _ _ _ _ _ (by decide) hW (⟨F, rfl, hf, u, htw, Or.inl ⟨rfl, hn0, hn1, fun z hz => hall z (by omega)⟩⟩) dX1_isProvedCompositeBy_139
          · have hx3 := nge c7 (by omega)
            refine lv_aload_n hx hb dX1_isProvedCompositeBy_99 rfl (lv_at hl 3 rfl) ?_
            refine q_get (C := RX1) (T := TX1) (v := .ref (g.P 18)) hx hb hts hown (fun _ h9 => iw_X1_isProvedCompositeBy_X1 _ h9) hW (i := 1) (by decide) rfl rfl 8 (by decide) (hts (.fieldLink RX1 37 "ModEngine$Ring" "right" "[I") (by decide +kernel)) rfl dX1_isProvedCompositeBy_100 ?_
            refine lv_aload_n hx hb dX1_isProvedCompositeBy_103 rfl (lv_at hl 1 rfl) ?_
            refine lv_aload_n hx hb dX1_isProvedCompositeBy_104 rfl (lv_at hl 3 rfl) ?_
            refine q_get (C := RX1) (T := TX1) (v := .int (nI g.k)) hx hb hts hown (fun _ h9 => iw_X1_isProvedCompositeBy_X1 _ h9) hW (i := 1) (by decide) rfl rfl 1 (by decide) (hts (.fieldLink RX1 9 "ModEngine$Ring" "k" "I") (by decide +kernel)) rfl dX1_isProvedCompositeBy_105 ?_
            refine q_i (q_runS (As := [.ref (g.P 18), .ref (g.P 19), .int (nI g.k)]) (rest := []) S hW (k_order l g hg (σ.setF F) (rowk (by decide)) (rowk (by decide))) gX1_isProvedCompositeBy_X0_order (nA := 3) ⟨rfl, by decide +kernel, ⟨by decide, by decide⟩⟩ rfl hl.1 rfl (Nat.le_of_ble_eq_true rfl) dX1_isProvedCompositeBy_108 ⟨Nat.zero_le _, Nat.zero_le _⟩) hW Ad_hi (fun r_108 σ1 H locs hp hW => ?_)
            obtain ⟨e1, er1⟩ : σ1 = σ.setF F ∧ r_108 = if qV g F 18 < qV g F 19 then -1 else if qV g F 18 = qV g F 19 then 0 else 1 := hp
            rw [e1] at hW
            have hm1 : qV g F 18 = qV g F 19 ↔ qV g σ.F j ^ (qV g σ.F 12 / 2 ^ u * 2 ^ y) % qV g σ.F 12 = qV g σ.F 12 - 1 := by
              have h5 := mf_is (z := qV g σ.F 12 - 1) p0.1 hv18
              rw [m1R h3 hmR, Nat.mod_eq_of_lt hl18, Nat.mod_eq_of_lt (show qV g σ.F 12 - 1 < qV g σ.F 12 by omega), ← hv19] at h5
              exact h5
            refine lv_if_ne (tgt := 116) hx hb dX1_isProvedCompositeBy_111 (by decide) (fun c6 => ?_) (fun c6 => ?_)
            · have hne : ¬ qV g σ.F j ^ (qV g σ.F 12 / 2 ^ u * 2 ^ y) % qV g σ.F 12 = qV g σ.F 12 - 1 := fun q => c6 ((ord_eq er1).mpr (hm1.mpr q))
              refine lv_aload_n hx hb dX1_isProvedCompositeBy_116 rfl (lv_at hl 3 rfl) ?_
              refine lv_aload_n hx hb dX1_isProvedCompositeBy_117 rfl (lv_at hl 3 rfl) ?_
              refine q_get (C := RX1) (T := TX1) (v := .ref (g.P 18)) hx hb hts hown (fun _ h9 => iw_X1_isProvedCompositeBy_X1 _ h9) hW (i := 1) (by decide) rfl rfl 8 (by decide) (hts (.fieldLink RX1 37 "ModEngine$Ring" "right" "[I") (by decide +kernel)) rfl dX1_isProvedCompositeBy_118 ?_
              refine lv_aload_n hx hb dX1_isProvedCompositeBy_121 rfl (lv_at hl 3 rfl) ?_
              refine q_get (C := RX1) (T := TX1) (v := .ref (g.P 18)) hx hb hts hown (fun _ h9 => iw_X1_isProvedCompositeBy_X1 _ h9) hW (i := 1) (by decide) rfl rfl 8 (by decide) (hts (.fieldLink RX1 37 "ModEngine$Ring" "right" "[I") (by decide +kernel)) rfl dX1_isProvedCompositeBy_122 ?_
              refine lv_aload_n hx hb dX1_isProvedCompositeBy_125 rfl (lv_at hl 3 rfl) ?_
              refine q_get (C := RX1) (T := TX1) (v := .ref (g.P 18)) hx hb hts hown (fun _ h9 => iw_X1_isProvedCompositeBy_X1 _ h9) hW (i := 1) (by decide) rfl rfl 8 (by decide) (hts (.fieldLink RX1 37 "ModEngine$Ring" "right" "[I") (by decide +kernel)) rfl dX1_isProvedCompositeBy_126 ?_
              refine q_v (q_runV (As := [.ref (g.P 18), .ref (g.P 18), .ref (g.P 18)]) (rest := []) (i := 1) S hW (by decide) rfl rfl (r_montgomery l g hg (σ.setF F) (rowk (by decide)) (rowk (by decide)) (rowk (by decide)) (by omega) (by omega) (by omega) (by omega) pF.pos pF.2.2.2.2.2 (mlt_l (by show qV g F 18 < qV g F 12; rw [mF]; exact hl18))) gX1_isProvedCompositeBy_X1_montgomery rfl (nA := 3) ⟨rfl, by decide +kernel, ⟨by decide, by decide⟩⟩ rfl hl.1 rfl (Nat.le_of_ble_eq_true rfl) dX1_isProvedCompositeBy_129 ⟨Nat.zero_le _, Nat.zero_le _⟩) hW Ad_hi (fun σ2 H locs hp hW => ?_)
              obtain ⟨F2, e2, hf2, hl2, hv2⟩ : ∃ F', σ2 = σ.setF F' ∧ Fr F F' [16, 18] ∧ qV g F' 18 < qV g F 12 ∧ qV g F' 18 * 2 ^ (32 * g.k) % qV g F 12 = qV g F 18 * qV g F 18 % qV g F 12 := hp
              rw [e2] at hW
              obtain ⟨p2, m2⟩ := pF.keep hf2 (ge16 (by omega))
              rw [mF] at m2
              rw [mF] at hv2 hl2
              have h6 := mf_mul p0.1 hv2 hv18 hv18
              rw [← Nat.pow_add, ← Nat.mul_two, Nat.mul_assoc, ← Nat.pow_succ] at h6
              refine lv_iinc (v := nI (y + 1)) (lv' := [(4, .int (nI (y + 1))), (3, .ref (g.P 19)), (2, .int (nI u)), (0, .ref (g.P 1)), (1, .ref (g.P j))]) hx hb dX1_isProvedCompositeBy_132 hl (k := 0) rfl (nI_1 _) (by decide) rfl (fun ls hl => ?_)
              refine lv_goto (tgt := 93) hx hb dX1_isProvedCompositeBy_135 (by decide) ?_
              exact ih (y + 1) F2 (by omega) (by omega) (fun a ha => by
                  have ha1 := ha
                  simp only [List.mem_cons, List.not_mem_nil, or_false, not_or] at ha
                  rw [hf2 a (by simp; omega), hf a ha1]) ((hf2.V (by decide)).trans hv19) hl2 h6 (fun z hz => by
                  by_cases q : z = y
                  · rw [q]; exact hne
                  · exact hall z (by omega)) H locs ls hW (lv_sub hl [0, 1, 2, 3, 4] rfl)
            · have heq := hm1.mp ((ord_eq er1).mp c6)
              refine lv_iconst (v := 0) hx hb dX1_isProvedCompositeBy_114 (by decide) ?_
              exact fin _ _ _ _ _ _ (by decide) hW (⟨F, rfl, hf, u, htw, Or.inr ⟨rfl, fun q => q.2.2 y hx3 heq⟩⟩) dX1_isProvedCompositeBy_115
      exact loop (u + 1) 0 F5 (by omega) (by omega) frB ((hf5.V (by decide)).trans v19) hl5 (by rw [Nat.pow_zero, Nat.mul_one]; exact hv5) (fun z hz => absurd hz (by omega)) H locs ls hW (lv_sub hl [0, 1, 2, 3, 4] rfl)
    · have heq := hone.mp ((ord_eq er6).mp c8)
      refine lv_iconst (v := 0) hx hb dX1_isProvedCompositeBy_88 (by decide) ?_
      exact fin _ _ _ _ _ _ (by decide) hW (⟨F5, rfl, frB, u, htw, Or.inr ⟨rfl, fun q => q.2.1 heq⟩⟩) dX1_isProvedCompositeBy_89
  · have h0 := hz.mp ((fa_boolp er2).2.mp c9)
    obtain ⟨u, htw⟩ := twos_ex p0.1 h3
    refine lv_iconst (v := 0) hx hb dX1_isProvedCompositeBy_28 (by decide) ?_
    exact fin _ _ _ _ _ _ (by decide) hW (⟨F1, rfl, frA, u, htw, Or.inr ⟨rfl, fun q => q.1 h0⟩⟩) dX1_isProvedCompositeBy_29
