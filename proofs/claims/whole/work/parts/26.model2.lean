theorem iw_X3_isLimb_X3 : ∀ w ∈ wsX30, w ∈ wsX3_isLimb := by decide +kernel
theorem iw_X3_isRegister_X3 : ∀ w ∈ wsX30, w ∈ wsX3_isRegister := by decide +kernel
theorem iw_X3_read_X3 : ∀ w ∈ wsX30, w ∈ wsX3_read := by decide +kernel
theorem iw_X3_write_X3 : ∀ w ∈ wsX30, w ∈ wsX3_write := by decide +kernel
theorem iw_X3_bits_X3 : ∀ w ∈ wsX30, w ∈ wsX3_bits := by decide +kernel
theorem iw_X3_sum_X3 : ∀ w ∈ wsX30, w ∈ wsX3_sum := by decide +kernel
theorem iw_X3_difference_X3 : ∀ w ∈ wsX30, w ∈ wsX3_difference := by decide +kernel
theorem iw_X3_rest_X3 : ∀ w ∈ wsX30, w ∈ wsX3_rest := by decide +kernel
theorem iw_X3_product_X3 : ∀ w ∈ wsX30, w ∈ wsX3_product := by decide +kernel
theorem iw_X3_halfOf_X3 : ∀ w ∈ wsX30, w ∈ wsX3_halfOf := by decide +kernel
theorem iw_X3_isAsked_X3 : ∀ w ∈ wsX30, w ∈ wsX3_isAsked := by decide +kernel
theorem iw_X3_takes_X3 : ∀ w ∈ wsX30, w ∈ wsX3_takes := by decide +kernel
theorem iw_X3_raise_X3 : ∀ w ∈ wsX30, w ∈ wsX3_raise := by decide +kernel
set_option maxHeartbeats 4000000 in
set_option maxRecDepth 100000 in
/-- reference: bits() -/
theorem n_bits (l : Launch) (g : qCfg) (hg : g.ok) (σ : qSt)  : qCI l g yX3_bits wsX3_bits 0 0 [.ref (g.P 3)] σ (fun r σ' => σ' = σ ∧ r = nI (32 * g.k)) := by
  refine q_sI (cc := cX3_bits) (maxL := 1) (by decide) rfl (Nat.le_of_ble_eq_true rfl) ?_
  intro p e s m args below meth c ls Q S hW hl fin
  obtain ⟨hx, hb, hml, hown, hts, hr, hlocks⟩ := id S
  obtain ⟨hk1, hk8, hn1, hn8⟩ := id hg
  have hl : lv_has ls 1 [(0, .ref (g.P 3))] := hl
  refine lv_bipush (v := 32) hx hb dX3_bits_0 (by decide) ?_
  refine lv_aload_n hx hb dX3_bits_2 rfl (lv_at hl 0 rfl) ?_
  refine q_get (C := RX3) (T := TX3) (v := .int (nI g.k)) hx hb hts hown (fun _ h9 => iw_X3_bits_X3 _ h9) hW (i := 3) (by decide) rfl rfl 0 (by decide) (hts (.fieldLink RX3 38 "ModEngineModel" "limbs" "I") (by decide +kernel)) rfl dX3_bits_3 ?_
  refine lv_imul hx hb dX3_bits_6 ?_
  exact fin _ _ _ _ _ _ hW (⟨rfl, pk_mul 32 _⟩) dX3_bits_7
set_option maxHeartbeats 4000000 in
set_option maxRecDepth 100000 in
/-- reference: placeOf(r) -/
theorem n_placeOf (l : Launch) (g : qCfg) (hg : g.ok) (σ : qSt) {x : Int32} {e : Nat} (ex : x = nI e) : qCI l g yX3_placeOf wsX3_placeOf 0 0 [.ref (g.P 3), .int x] σ (fun r σ' => σ' = σ ∧ r = nI (9 * e)) := by
  refine q_sI (cc := cX3_placeOf) (maxL := 2) (by decide) rfl (Nat.le_of_ble_eq_true rfl) ?_
  intro p e s m args below meth c ls Q S hW hl fin
  obtain ⟨hx, hb, hml, hown, hts, hr, hlocks⟩ := id S
  obtain ⟨hk1, hk8, hn1, hn8⟩ := id hg
  have hl : lv_has ls 2 [(0, .ref (g.P 3)), (1, .int x)] := hl
  refine lv_bipush (v := 9) hx hb dX3_placeOf_0 (by decide) ?_
  refine lv_iload_n hx hb dX3_placeOf_2 rfl (lv_at hl 1 rfl) ?_
  refine lv_imul hx hb dX3_placeOf_3 ?_
  exact fin _ _ _ _ _ _ hW (⟨rfl, by rw [ex]; exact pk_mul 9 _⟩) dX3_placeOf_4
set_option maxHeartbeats 4000000 in
set_option maxRecDepth 100000 in
/-- reference: placeOfModulus() -/
theorem n_placeOfModulus (l : Launch) (g : qCfg) (hg : g.ok) (σ : qSt)  : qCI l g yX3_placeOfModulus wsX3_placeOfModulus 0 0 [.ref (g.P 3)] σ (fun r σ' => σ' = σ ∧ r = nI (9 * 8)) := by
  refine q_sI (cc := cX3_placeOfModulus) (maxL := 1) (by decide) rfl (Nat.le_of_ble_eq_true rfl) ?_
  intro p e s m args below meth c ls Q S hW hl fin
  obtain ⟨hx, hb, hml, hown, hts, hr, hlocks⟩ := id S
  obtain ⟨hk1, hk8, hn1, hn8⟩ := id hg
  have hl : lv_has ls 1 [(0, .ref (g.P 3))] := hl
  refine lv_bipush (v := 72) hx hb dX3_placeOfModulus_0 (by decide) ?_
  exact fin _ _ _ _ _ _ hW (⟨rfl, rfl⟩) dX3_placeOfModulus_2
set_option maxHeartbeats 4000000 in
set_option maxRecDepth 100000 in
/-- reference: isLimb -/
theorem n_isLimb (l : Launch) (g : qCfg) (hg : g.ok) (σ : qSt) (x : Int32) : qCI l g yX3_isLimb wsX3_isLimb 0 0 [.ref (g.P 3), .int x] σ (fun r σ' => σ' = σ ∧ (r = 1 ∧ isR x g.k ∨ r = 0 ∧ ¬ isR x g.k)) := by
  refine q_sZ (cc := cX3_isLimb) (maxL := 2) (by decide) rfl (Nat.le_of_ble_eq_true rfl) ?_
  intro p e s m args below meth c ls Q S hW hl fin
  obtain ⟨hx, hb, hml, hown, hts, hr, hlocks⟩ := id S
  obtain ⟨hk1, hk8, hn1, hn8⟩ := id hg
  have hl : lv_has ls 2 [(0, .ref (g.P 3)), (1, .int x)] := hl
  refine lv_iload_n hx hb dX3_isLimb_0 rfl (lv_at hl 1 rfl) ?_
  refine lv_if_lt (tgt := 16) hx hb dX3_isLimb_1 (by decide) (fun c1 => ?_) (fun c1 => ?_)
  · refine lv_iconst (v := 0) hx hb dX3_isLimb_16 (by decide) ?_
    exact fin _ _ _ _ _ _ (by decide) hW (⟨rfl, Or.inr ⟨rfl, isR_no hk8 (Or.inl c1)⟩⟩) dX3_isLimb_17
  · refine lv_iload_n hx hb dX3_isLimb_4 rfl (lv_at hl 1 rfl) ?_
    refine lv_aload_n hx hb dX3_isLimb_5 rfl (lv_at hl 0 rfl) ?_
    refine q_get (C := RX3) (T := TX3) (v := .int (nI g.k)) hx hb hts hown (fun _ h9 => iw_X3_isLimb_X3 _ h9) hW (i := 3) (by decide) rfl rfl 0 (by decide) (hts (.fieldLink RX3 38 "ModEngineModel" "limbs" "I") (by decide +kernel)) rfl dX3_isLimb_6 ?_
    refine lv_icmp_ge (tgt := 16) hx hb dX3_isLimb_9 (by decide) (fun c2 => ?_) (fun c2 => ?_)
    · refine lv_iconst (v := 0) hx hb dX3_isLimb_16 (by decide) ?_
      exact fin _ _ _ _ _ _ (by decide) hW (⟨rfl, Or.inr ⟨rfl, isR_no hk8 (Or.inr c2)⟩⟩) dX3_isLimb_17
    · refine lv_iconst (v := 1) hx hb dX3_isLimb_12 (by decide) ?_
      refine lv_goto (tgt := 17) hx hb dX3_isLimb_13 (by decide) ?_
      exact fin _ _ _ _ _ _ (by decide) hW (⟨rfl, Or.inl ⟨rfl, isR_yes hk8 c1 c2⟩⟩) dX3_isLimb_17
set_option maxHeartbeats 4000000 in
set_option maxRecDepth 100000 in
/-- reference: isRegister -/
theorem n_isRegister (l : Launch) (g : qCfg) (hg : g.ok) (σ : qSt) (x : Int32) : qCI l g yX3_isRegister wsX3_isRegister 0 0 [.ref (g.P 3), .int x] σ (fun r σ' => σ' = σ ∧ (r = 1 ∧ isR x g.n ∨ r = 0 ∧ ¬ isR x g.n)) := by
  refine q_sZ (cc := cX3_isRegister) (maxL := 2) (by decide) rfl (Nat.le_of_ble_eq_true rfl) ?_
  intro p e s m args below meth c ls Q S hW hl fin
  obtain ⟨hx, hb, hml, hown, hts, hr, hlocks⟩ := id S
  obtain ⟨hk1, hk8, hn1, hn8⟩ := id hg
  have hl : lv_has ls 2 [(0, .ref (g.P 3)), (1, .int x)] := hl
  refine lv_iload_n hx hb dX3_isRegister_0 rfl (lv_at hl 1 rfl) ?_
  refine lv_if_lt (tgt := 16) hx hb dX3_isRegister_1 (by decide) (fun c1 => ?_) (fun c1 => ?_)
  · refine lv_iconst (v := 0) hx hb dX3_isRegister_16 (by decide) ?_
    exact fin _ _ _ _ _ _ (by decide) hW (⟨rfl, Or.inr ⟨rfl, isR_no hn8 (Or.inl c1)⟩⟩) dX3_isRegister_17
  · refine lv_iload_n hx hb dX3_isRegister_4 rfl (lv_at hl 1 rfl) ?_
    refine lv_aload_n hx hb dX3_isRegister_5 rfl (lv_at hl 0 rfl) ?_
    refine q_get (C := RX3) (T := TX3) (v := .int (nI g.n)) hx hb hts hown (fun _ h9 => iw_X3_isRegister_X3 _ h9) hW (i := 3) (by decide) rfl rfl 1 (by decide) (hts (.fieldLink RX3 42 "ModEngineModel" "registers" "I") (by decide +kernel)) rfl dX3_isRegister_6 ?_
    refine lv_icmp_ge (tgt := 16) hx hb dX3_isRegister_9 (by decide) (fun c2 => ?_) (fun c2 => ?_)
    · refine lv_iconst (v := 0) hx hb dX3_isRegister_16 (by decide) ?_
      exact fin _ _ _ _ _ _ (by decide) hW (⟨rfl, Or.inr ⟨rfl, isR_no hn8 (Or.inr c2)⟩⟩) dX3_isRegister_17
    · refine lv_iconst (v := 1) hx hb dX3_isRegister_12 (by decide) ?_
      refine lv_goto (tgt := 17) hx hb dX3_isRegister_13 (by decide) ?_
      exact fin _ _ _ _ _ _ (by decide) hW (⟨rfl, Or.inl ⟨rfl, isR_yes hn8 c1 c2⟩⟩) dX3_isRegister_17
set_option maxHeartbeats 4000000 in
set_option maxRecDepth 100000 in
/-- reference: isAsked(d, a, b) -/
theorem n_isAsked (l : Launch) (g : qCfg) (hg : g.ok) (σ : qSt) (hrd : σ.rm = 0 ∨ σ.rm = 1) (d a b : Int32) : qCI l g yX3_isAsked wsX3_isAsked 1 21 [.ref (g.P 3), .int d, .int a, .int b] σ (fun r σ' => σ' = σ ∧ (r = 1 ∧ (σ.rm = 1 ∧ isR d g.n ∧ isR a g.n ∧ isR b g.n) ∨ r = 0 ∧ ¬ (σ.rm = 1 ∧ isR d g.n ∧ isR a g.n ∧ isR b g.n))) := by
  refine q_sZ (cc := cX3_isAsked) (maxL := 4) (by decide) rfl (Nat.le_of_ble_eq_true rfl) ?_
  intro p e s m args below meth c ls Q S hW hl fin
  obtain ⟨hx, hb, hml, hown, hts, hr, hlocks⟩ := id S
  obtain ⟨hk1, hk8, hn1, hn8⟩ := id hg
  have hl : lv_has ls 4 [(0, .ref (g.P 3)), (1, .int d), (2, .int a), (3, .int b)] := hl
  refine lv_aload_n hx hb dX3_isAsked_0 rfl (lv_at hl 0 rfl) ?_
  refine q_get (C := RX3) (T := TX3) (v := .int σ.rm) hx hb hts hown (fun _ h9 => iw_X3_isAsked_X3 _ h9) hW (i := 3) (by decide) rfl rfl 3 (by decide) (hts (.fieldLink RX3 55 "ModEngineModel" "isReady" "Z") (by decide +kernel)) rfl dX3_isAsked_1 ?_
  refine lv_if_eq (tgt := 35) hx hb dX3_isAsked_4 (by decide) (fun c1 => ?_) (fun c1 => ?_)
  · refine lv_iconst (v := 0) hx hb dX3_isAsked_35 (by decide) ?_
    exact fin _ _ _ _ _ _ (by decide) hW (⟨rfl, Or.inr ⟨rfl, fun q => absurd (c1.symm.trans q.1) (by decide)⟩⟩) dX3_isAsked_36
  · have h0 : σ.rm = 1 := hrd.resolve_left c1
    refine lv_aload_n hx hb dX3_isAsked_7 rfl (lv_at hl 0 rfl) ?_
    refine lv_iload_n hx hb dX3_isAsked_8 rfl (lv_at hl 1 rfl) ?_
    refine q_i (q_runV (As := [.int d]) (rest := []) (i := 3) S hW (by decide) rfl rfl (n_isRegister l g hg σ d) gX3_isAsked_X3_isRegister rfl (nA := 1) ⟨rfl, by decide +kernel, ⟨by decide, by decide⟩⟩ rfl hl.1 rfl (Nat.le_of_ble_eq_true rfl) dX3_isAsked_9 ⟨Nat.zero_le _, Nat.zero_le _⟩) hW Ad_hi (fun r_9 σ1 H locs hp hW => ?_)
    obtain ⟨e1, er1⟩ : σ1 = σ ∧ (r_9 = 1 ∧ isR d g.n ∨ r_9 = 0 ∧ ¬ isR d g.n) := hp
    rw [e1] at hW
    refine lv_if_eq (tgt := 35) hx hb dX3_isAsked_12 (by decide) (fun cd => ?_) (fun cd => ?_)
    · have hno : ¬ isR d g.n := er1.elim (fun z => absurd (z.1.symm.trans cd) (by decide)) (fun z => z.2)
      refine lv_iconst (v := 0) hx hb dX3_isAsked_35 (by decide) ?_
      exact fin _ _ _ _ _ _ (by decide) hW (⟨rfl, Or.inr ⟨rfl, fun q => hno q.2.1⟩⟩) dX3_isAsked_36
    · have hd : isR d g.n := er1.elim (fun z => z.2) (fun z => absurd z.1 cd)
      refine lv_aload_n hx hb dX3_isAsked_15 rfl (lv_at hl 0 rfl) ?_
      refine lv_iload_n hx hb dX3_isAsked_16 rfl (lv_at hl 2 rfl) ?_
      refine q_i (q_runV (As := [.int a]) (rest := []) (i := 3) S hW (by decide) rfl rfl (n_isRegister l g hg σ a) gX3_isAsked_X3_isRegister rfl (nA := 1) ⟨rfl, by decide +kernel, ⟨by decide, by decide⟩⟩ rfl hl.1 rfl (Nat.le_of_ble_eq_true rfl) dX3_isAsked_17 ⟨Nat.zero_le _, Nat.zero_le _⟩) hW Ad_hi (fun r_17 σ2 H locs hp hW => ?_)
      obtain ⟨e2, er2⟩ : σ2 = σ ∧ (r_17 = 1 ∧ isR a g.n ∨ r_17 = 0 ∧ ¬ isR a g.n) := hp
      rw [e2] at hW
      refine lv_if_eq (tgt := 35) hx hb dX3_isAsked_20 (by decide) (fun ca => ?_) (fun ca => ?_)
      · have hno : ¬ isR a g.n := er2.elim (fun z => absurd (z.1.symm.trans ca) (by decide)) (fun z => z.2)
        refine lv_iconst (v := 0) hx hb dX3_isAsked_35 (by decide) ?_
        exact fin _ _ _ _ _ _ (by decide) hW (⟨rfl, Or.inr ⟨rfl, fun q => hno q.2.2.1⟩⟩) dX3_isAsked_36
      · have ha : isR a g.n := er2.elim (fun z => z.2) (fun z => absurd z.1 ca)
        refine lv_aload_n hx hb dX3_isAsked_23 rfl (lv_at hl 0 rfl) ?_
        refine lv_iload_n hx hb dX3_isAsked_24 rfl (lv_at hl 3 rfl) ?_
        refine q_i (q_runV (As := [.int b]) (rest := []) (i := 3) S hW (by decide) rfl rfl (n_isRegister l g hg σ b) gX3_isAsked_X3_isRegister rfl (nA := 1) ⟨rfl, by decide +kernel, ⟨by decide, by decide⟩⟩ rfl hl.1 rfl (Nat.le_of_ble_eq_true rfl) dX3_isAsked_25 ⟨Nat.zero_le _, Nat.zero_le _⟩) hW Ad_hi (fun r_25 σ3 H locs hp hW => ?_)
        obtain ⟨e3, er3⟩ : σ3 = σ ∧ (r_25 = 1 ∧ isR b g.n ∨ r_25 = 0 ∧ ¬ isR b g.n) := hp
        rw [e3] at hW
        refine lv_if_eq (tgt := 35) hx hb dX3_isAsked_28 (by decide) (fun cb => ?_) (fun cb => ?_)
        · have hno : ¬ isR b g.n := er3.elim (fun z => absurd (z.1.symm.trans cb) (by decide)) (fun z => z.2)
          refine lv_iconst (v := 0) hx hb dX3_isAsked_35 (by decide) ?_
          exact fin _ _ _ _ _ _ (by decide) hW (⟨rfl, Or.inr ⟨rfl, fun q => hno q.2.2.2⟩⟩) dX3_isAsked_36
        · have hb2 : isR b g.n := er3.elim (fun z => z.2) (fun z => absurd z.1 cb)
          refine lv_iconst (v := 1) hx hb dX3_isAsked_31 (by decide) ?_
          refine lv_goto (tgt := 36) hx hb dX3_isAsked_32 (by decide) ?_
          exact fin _ _ _ _ _ _ (by decide) hW (⟨rfl, Or.inl ⟨rfl, h0, hd, ha, hb2⟩⟩) dX3_isAsked_36
set_option maxHeartbeats 4000000 in
set_option maxRecDepth 100000 in
/-- reference: read(to, place) -/
theorem n_read (l : Launch) (g : qCfg) (hg : g.ok) (σ : qSt) {i q : Nat} (hi : 5 ≤ i ∧ i < 12)(hq : q + 9 ≤ 81) : qCV l g yX3_read wsX3_read 0 0 [.ref (g.P 3), .ref (g.P i), .int (nI q)] σ (fun σ' => ∃ J', σ' = σ.setJ J' ∧ Gr σ.J J' [i] ∧ ∀ x, x < 9 → J' i x = σ.J 4 (q + x)) := by
  refine q_sV (cc := cX3_read) (maxL := 4) (by decide) rfl (Nat.le_of_ble_eq_true rfl) ?_
  intro p e s m args below meth c ls Q S hW hl fin
  obtain ⟨hx, hb, hml, hown, hts, hr, hlocks⟩ := id S
  obtain ⟨hk1, hk8, hn1, hn8⟩ := id hg
  have hl : lv_has ls 4 [(0, .ref (g.P 3)), (1, .ref (g.P i)), (2, .int (nI q))] := hl
  have loop : ∀ (n x : Nat) (J : Nat → Nat → Int64), x ≤ 9 → 9 + 1 ≤ x + n → Ju σ.J J i x → (∀ y, y < x → J i y = σ.J 4 (q + y)) → ∀ (H : Heap) (locs : List Loc) (ls : Array Slot), Wo g (Ad g s.heap.size) s H locs (σ.setJ J) → lv_has ls 4 [(3, .int (nI x)), (0, .ref (g.P 3)), (1, .ref (g.P i)), (2, .int (nI q))] → W p l e (rmm 0 0) s m args below meth c H locs 0 0 Q (F0 m 2 ls []) := by
    intro n
    induction n with
    | zero => intro x J h1 h2; exact absurd h2 (by omega)
    | succ n ih =>
      intro x J hx1 hx2 hR hd H locs ls hW hl
      refine lv_iload_n hx hb dX3_read_2 rfl (lv_at hl 0 rfl) ?_
      refine lv_bipush (v := 9) hx hb dX3_read_3 (by decide) ?_
      refine lv_icmp_ge (tgt := 25) hx hb dX3_read_5 (by decide) (fun c1 => ?_) (fun c1 => ?_)
      · have hx3 := nle (b := 9) c1 (by omega) (by omega)
        exact fin _ _ _ _ _ hW (⟨J, rfl, hR.fr, fun y hy => hd y (by omega)⟩) dX3_read_25
      · have hx3 := nge (b := 9) c1 (by omega)
        refine lv_aload_n hx hb dX3_read_8 rfl (lv_at hl 2 rfl) ?_
        refine lv_iload_n hx hb dX3_read_9 rfl (lv_at hl 0 rfl) ?_
        refine lv_aload_n hx hb dX3_read_10 rfl (lv_at hl 1 rfl) ?_
        refine q_get (C := RX3) (T := TX3) (v := .ref (g.P 4)) hx hb hts hown (fun _ h9 => iw_X3_read_X3 _ h9) hW (i := 3) (by decide) rfl rfl 2 (by decide) (hts (.fieldLink RX3 7 "ModEngineModel" "held" "[J") (by decide +kernel)) rfl dX3_read_11 ?_
        refine lv_iload_n hx hb dX3_read_14 rfl (lv_at hl 3 rfl) ?_
        refine lv_iload_n hx hb dX3_read_15 rfl (lv_at hl 0 rfl) ?_
        refine lv_iadd hx hb dX3_read_16 ?_
        refine q_ti (y := nI (q + x)) (nI_add _ _) ?_
        refine q_lald hx hb hW (i := 4) (j := (q + x)) (by decide) (by show q + x < 81; omega) rfl dX3_read_17 ?_
        refine q_tl (y := σ.J 4 (q + x)) (by show J 4 (q + x) = _; rw [hR.1 4 (by omega)]) ?_
        refine q_lastJ (i := i) (J := J) hx hb hW (j := x) ⟨by omega, by omega⟩ (by rw [lsz9 (by omega)]; omega) rfl dX3_read_18 (fun H locs hW => ?_)
        refine lv_iinc (v := nI (x + 1)) (lv' := [(3, .int (nI (x + 1))), (0, .ref (g.P 3)), (1, .ref (g.P i)), (2, .int (nI q))]) hx hb dX3_read_19 hl (k := 0) rfl (nI_1 _) (by decide) rfl (fun ls hl => ?_)
        refine lv_goto (tgt := 2) hx hb dX3_read_22 (by decide) ?_
        exact ih (x + 1) _ (by omega) (by omega) (hR.st _) (fun y hy => by
          rw [va_up_self]
          by_cases q2 : y = x
          · rw [q2, va_up_self]
          · rw [va_up_ne _ _ q2]; exact hd y (by omega)) H locs ls hW (lv_sub hl [0, 1, 2, 3] rfl)
  refine lv_iconst (v := 0) hx hb dX3_read_0 (by decide) ?_
  refine lv_istore_n (lv' := [(3, .int 0), (0, .ref (g.P 3)), (1, .ref (g.P i)), (2, .int (nI q))]) hx hb dX3_read_1 rfl hl (by decide) rfl (fun ls hl => ?_)
  exact loop 10 0 σ.J (by omega) (by omega) Ju.rf (fun y hy => absurd hy (by omega)) _ _ ls hW (lv_sub hl [0, 1, 2, 3] rfl)
set_option maxHeartbeats 4000000 in
set_option maxRecDepth 100000 in
/-- reference: write(r, from) -/
theorem n_write (l : Launch) (g : qCfg) (hg : g.ok) (σ : qSt) {i ee : Nat} {d : Int32} (hi : 5 ≤ i ∧ i < 12)(he : ee < 9) (ed : d = nI ee) : qCV l g yX3_write wsX3_write 1 21 [.ref (g.P 3), .int d, .ref (g.P i)] σ (fun σ' => ∃ J', σ' = σ.setJ J' ∧ Gr σ.J J' [4] ∧ (∀ x, x < 9 → J' 4 (9 * ee + x) = σ.J i x) ∧ ∀ y, y < 9 * ee ∨ 9 * ee + 9 ≤ y → J' 4 y = σ.J 4 y) := by
  refine q_sV (cc := cX3_write) (maxL := 4) (by decide) rfl (Nat.le_of_ble_eq_true rfl) ?_
  intro p e s m args below meth c ls Q S hW hl fin
  obtain ⟨hx, hb, hml, hown, hts, hr, hlocks⟩ := id S
  obtain ⟨hk1, hk8, hn1, hn8⟩ := id hg
  have hl : lv_has ls 4 [(0, .ref (g.P 3)), (1, .int d), (2, .ref (g.P i))] := hl
  have loop : ∀ (n x : Nat) (J : Nat → Nat → Int64), x ≤ 9 → 9 + 1 ≤ x + n → (∀ r, r ≠ 4 → J r = σ.J r) → (∀ y, y < x → J 4 (9 * ee + y) = σ.J i y) → (∀ y, y < 9 * ee ∨ 9 * ee + 9 ≤ y → J 4 y = σ.J 4 y) → ∀ (H : Heap) (locs : List Loc) (ls : Array Slot), Wo g (Ad g s.heap.size) s H locs (σ.setJ J) → lv_has ls 4 [(3, .int (nI x)), (0, .ref (g.P 3)), (1, .int d), (2, .ref (g.P i))] → W p l e (rmm 1 21) s m args below meth c H locs 0 0 Q (F0 m 2 ls []) := by
    intro n
    induction n with
    | zero => intro x J h1 h2; exact absurd h2 (by omega)
    | succ n ih =>
      intro x J hx1 hx2 hR hd ho H locs ls hW hl
      refine lv_iload_n hx hb dX3_write_2 rfl (lv_at hl 0 rfl) ?_
      refine lv_bipush (v := 9) hx hb dX3_write_3 (by decide) ?_
      refine lv_icmp_ge (tgt := 29) hx hb dX3_write_5 (by decide) (fun c1 => ?_) (fun c1 => ?_)
      · have hx3 := nle (b := 9) c1 (by omega) (by omega)
        exact fin _ _ _ _ _ hW (⟨J, rfl, fun r hr => hR r (by simpa using hr), fun y hy => hd y (by omega), ho⟩) dX3_write_29
      · have hx3 := nge (b := 9) c1 (by omega)
        refine lv_aload_n hx hb dX3_write_8 rfl (lv_at hl 1 rfl) ?_
        refine q_get (C := RX3) (T := TX3) (v := .ref (g.P 4)) hx hb hts hown (fun _ h9 => iw_X3_write_X3 _ h9) hW (i := 3) (by decide) rfl rfl 2 (by decide) (hts (.fieldLink RX3 7 "ModEngineModel" "held" "[J") (by decide +kernel)) rfl dX3_write_9 ?_
        refine lv_aload_n hx hb dX3_write_12 rfl (lv_at hl 1 rfl) ?_
        refine lv_iload_n hx hb dX3_write_13 rfl (lv_at hl 2 rfl) ?_
        refine q_i (q_runV (As := [.int d]) (rest := [.ref (g.P 4)]) (i := 3) S hW (by decide) rfl rfl (n_placeOf l g hg (σ.setJ J) (x := d) ed) gX3_write_X3_placeOf rfl (nA := 1) ⟨rfl, by decide +kernel, ⟨by decide, by decide⟩⟩ rfl hl.1 rfl (Nat.le_of_ble_eq_true rfl) dX3_write_14 ⟨Nat.zero_le _, Nat.zero_le _⟩) hW Ad_hi (fun r_14 σ1 H locs hp hW => ?_)
        obtain ⟨e1, er1⟩ : σ1 = σ.setJ J ∧ r_14 = nI (9 * ee) := hp
        rw [e1] at hW
        refine q_ti (y := nI (9 * ee)) er1 ?_
        refine lv_iload_n hx hb dX3_write_17 rfl (lv_at hl 0 rfl) ?_
        refine lv_iadd hx hb dX3_write_18 ?_
        refine q_ti (y := nI (9 * ee + x)) (nI_add _ _) ?_
        refine lv_aload_n hx hb dX3_write_19 rfl (lv_at hl 3 rfl) ?_
        refine lv_iload_n hx hb dX3_write_20 rfl (lv_at hl 0 rfl) ?_
        refine q_lald hx hb hW (i := i) (j := x) ⟨by omega, by omega⟩ (by rw [lsz9 (by omega)]; omega) rfl dX3_write_21 ?_
        refine q_tl (y := σ.J i x) (by show J i x = _; rw [hR i (by omega)]) ?_
        refine q_lastJ (i := 4) (J := J) hx hb hW (j := (9 * ee + x)) (by decide) (by show 9 * ee + x < 81; omega) rfl dX3_write_22 (fun H locs hW => ?_)
        refine lv_iinc (v := nI (x + 1)) (lv' := [(3, .int (nI (x + 1))), (0, .ref (g.P 3)), (1, .int d), (2, .ref (g.P i))]) hx hb dX3_write_23 hl (k := 0) rfl (nI_1 _) (by decide) rfl (fun ls hl => ?_)
        refine lv_goto (tgt := 2) hx hb dX3_write_26 (by decide) ?_
        exact ih (x + 1) _ (by omega) (by omega) (fun r hr => by rw [va_up_ne _ _ hr]; exact hR r hr) (fun y hy => by
          rw [va_up_self]
          by_cases q2 : y = x
          · rw [q2, va_up_self]
          · rw [va_up_ne _ _ (by omega)]; exact hd y (by omega)) (fun y hy => by
          rw [va_up_self, va_up_ne _ _ (by omega)]
          exact ho y hy) H locs ls hW (lv_sub hl [0, 1, 2, 3] rfl)
  refine lv_iconst (v := 0) hx hb dX3_write_0 (by decide) ?_
  refine lv_istore_n (lv' := [(3, .int 0), (0, .ref (g.P 3)), (1, .int d), (2, .ref (g.P i))]) hx hb dX3_write_1 rfl hl (by decide) rfl (fun ls hl => ?_)
  exact loop 10 0 σ.J (by omega) (by omega) (fun _ _ => rfl) (fun y hy => absurd hy (by omega)) (fun _ _ => rfl) _ _ ls hW (lv_sub hl [0, 1, 2, 3] rfl)
set_option maxHeartbeats 4000000 in
set_option maxRecDepth 100000 in
/-- reference: sum(a, b) -/
theorem n_sum (l : Launch) (g : qCfg) (hg : g.ok) (σ : qSt) {M : Nat} (h0 : 0 < M) (hM : M < 2 ^ 256) (h5 : Nb σ.J 5 M) {i j u v : Nat} (hi : 5 ≤ i ∧ i < 12)(hj : 5 ≤ j ∧ j < 12)(hi5 : i ≠ 5) (hu : Nb σ.J i u) (hv : Nb σ.J j v) (hum : u < M) (hvm : v < M)  : qCV l g yX3_sum wsX3_sum 1 26 [.ref (g.P 3), .ref (g.P i), .ref (g.P j)] σ (fun σ' => ∃ J', σ' = σ.setJ J' ∧ Gr σ.J J' [i] ∧ Nb J' i ((u + v) % M)) := by
  refine q_sV (cc := cX3_sum) (maxL := 3) (by decide) rfl (Nat.le_of_ble_eq_true rfl) ?_
  intro p e s m args below meth c ls Q S hW hl fin
  obtain ⟨hx, hb, hml, hown, hts, hr, hlocks⟩ := id S
  obtain ⟨hk1, hk8, hn1, hn8⟩ := id hg
  have hl : lv_has ls 3 [(0, .ref (g.P 3)), (1, .ref (g.P i)), (2, .ref (g.P j))] := hl
  refine lv_aload_n hx hb dX3_sum_0 rfl (lv_at hl 1 rfl) ?_
  refine lv_aload_n hx hb dX3_sum_1 rfl (lv_at hl 2 rfl) ?_
  refine q_v (q_runS (As := [.ref (g.P i), .ref (g.P j)]) (rest := []) S hW (n_plus l g hg σ hi hj hu hv (by omega)) gX3_sum_X3_plus (nA := 2) ⟨rfl, by decide +kernel, ⟨by decide, by decide⟩⟩ rfl hl.1 rfl (Nat.le_of_ble_eq_true rfl) dX3_sum_2 ⟨Nat.zero_le _, Nat.zero_le _⟩) hW Ad_hi (fun σ1 H locs hp hW => ?_)
  obtain ⟨J1, e1, hg1, hn1⟩ : ∃ J', σ1 = σ.setJ J' ∧ Gr σ.J J' [i] ∧ Nb J' i (u + v) := hp
  rw [e1] at hW
  have h5_1 := hg1.N (by simp; omega) h5
  refine lv_aload_n hx hb dX3_sum_5 rfl (lv_at hl 1 rfl) ?_
  refine lv_aload_n hx hb dX3_sum_6 rfl (lv_at hl 0 rfl) ?_
  refine q_get (C := RX3) (T := TX3) (v := .ref (g.P 5)) hx hb hts hown (fun _ h9 => iw_X3_sum_X3 _ h9) hW (i := 3) (by decide) rfl rfl 4 (by decide) (hts (.fieldLink RX3 13 "ModEngineModel" "modulus" "[J") (by decide +kernel)) rfl dX3_sum_7 ?_
  refine q_i (q_runS (As := [.ref (g.P i), .ref (g.P 5)]) (rest := []) S hW (n_compared l g hg (σ.setJ J1) hi (by decide) hn1 h5_1) gX3_sum_X3_compared (nA := 2) ⟨rfl, by decide +kernel, ⟨by decide, by decide⟩⟩ rfl hl.1 rfl (Nat.le_of_ble_eq_true rfl) dX3_sum_10 ⟨Nat.zero_le _, Nat.zero_le _⟩) hW Ad_hi (fun r_10 σ2 H locs hp hW => ?_)
  obtain ⟨e2, er2⟩ : σ2 = σ.setJ J1 ∧ r_10 = if (u + v) < M then -1 else if (u + v) = M then 0 else 1 := hp
  rw [e2] at hW
  refine lv_if_lt (tgt := 24) hx hb dX3_sum_13 (by decide) (fun c1 => ?_) (fun c1 => ?_)
  · have hlt := (ord_lt er2).mp c1
    exact fin _ _ _ _ _ hW (⟨J1, rfl, hg1, by rw [Nat.mod_eq_of_lt hlt]; exact hn1⟩) dX3_sum_24
  · have hge : M ≤ u + v := Nat.not_lt.mp (fun q => c1 ((ord_lt er2).mpr q))
    refine lv_aload_n hx hb dX3_sum_16 rfl (lv_at hl 1 rfl) ?_
    refine lv_aload_n hx hb dX3_sum_17 rfl (lv_at hl 0 rfl) ?_
    refine q_get (C := RX3) (T := TX3) (v := .ref (g.P 5)) hx hb hts hown (fun _ h9 => iw_X3_sum_X3 _ h9) hW (i := 3) (by decide) rfl rfl 4 (by decide) (hts (.fieldLink RX3 13 "ModEngineModel" "modulus" "[J") (by decide +kernel)) rfl dX3_sum_18 ?_
    refine q_v (q_runS (As := [.ref (g.P i), .ref (g.P 5)]) (rest := []) S hW (n_minus l g hg (σ.setJ J1) hi (by decide) hn1 h5_1 hge) gX3_sum_X3_minus (nA := 2) ⟨rfl, by decide +kernel, ⟨by decide, by decide⟩⟩ rfl hl.1 rfl (Nat.le_of_ble_eq_true rfl) dX3_sum_21 ⟨Nat.zero_le _, Nat.zero_le _⟩) hW Ad_hi (fun σ3 H locs hp hW => ?_)
    obtain ⟨J3, e3, hg3, hn3⟩ : ∃ J', σ3 = σ.setJ J' ∧ Gr J1 J' [i] ∧ Nb J' i ((u + v) - M) := hp
    rw [e3] at hW
    have n5_3 := hg3.N (by simp; omega) h5_1
    exact fin _ _ _ _ _ hW (⟨J3, rfl, fun r hr => by rw [hg3 r hr, hg1 r hr], by rw [mod_two hge (by omega)]; exact hn3⟩) dX3_sum_24
set_option maxHeartbeats 4000000 in
set_option maxRecDepth 100000 in
/-- reference: difference(a, b) -/
theorem n_difference (l : Launch) (g : qCfg) (hg : g.ok) (σ : qSt) {M : Nat} (h0 : 0 < M) (hM : M < 2 ^ 256) (h5 : Nb σ.J 5 M) {i j u v : Nat} (hi : 5 ≤ i ∧ i < 12)(hj : 5 ≤ j ∧ j < 12)(hi5 : i ≠ 5) (hu : Nb σ.J i u) (hv : Nb σ.J j v) (hum : u < M) (hvm : v < M) (hij : i ≠ j)  : qCV l g yX3_difference wsX3_difference 1 26 [.ref (g.P 3), .ref (g.P i), .ref (g.P j)] σ (fun σ' => ∃ J', σ' = σ.setJ J' ∧ Gr σ.J J' [i] ∧ Nb J' i (dfm M u v)) := by
  refine q_sV (cc := cX3_difference) (maxL := 3) (by decide) rfl (Nat.le_of_ble_eq_true rfl) ?_
  intro p e s m args below meth c ls Q S hW hl fin
  obtain ⟨hx, hb, hml, hown, hts, hr, hlocks⟩ := id S
  obtain ⟨hk1, hk8, hn1, hn8⟩ := id hg
  have hl : lv_has ls 3 [(0, .ref (g.P 3)), (1, .ref (g.P i)), (2, .ref (g.P j))] := hl
  refine lv_aload_n hx hb dX3_difference_0 rfl (lv_at hl 1 rfl) ?_
  refine lv_aload_n hx hb dX3_difference_1 rfl (lv_at hl 2 rfl) ?_
  refine q_i (q_runS (As := [.ref (g.P i), .ref (g.P j)]) (rest := []) S hW (n_compared l g hg σ hi hj hu hv) gX3_difference_X3_compared (nA := 2) ⟨rfl, by decide +kernel, ⟨by decide, by decide⟩⟩ rfl hl.1 rfl (Nat.le_of_ble_eq_true rfl) dX3_difference_2 ⟨Nat.zero_le _, Nat.zero_le _⟩) hW Ad_hi (fun r_2 σ1 H locs hp hW => ?_)
  obtain ⟨e1, er1⟩ : σ1 = σ ∧ r_2 = if u < v then -1 else if u = v then 0 else 1 := hp
  rw [e1] at hW
  refine lv_if_ge (tgt := 16) hx hb dX3_difference_5 (by decide) (fun c1 => ?_) (fun c1 => ?_)
  · have hge : v ≤ u := Nat.not_lt.mp (fun q => absurd ((ord_lt er1).mpr q) (Int32.not_lt.mpr c1))
    refine lv_aload_n hx hb dX3_difference_16 rfl (lv_at hl 1 rfl) ?_
    refine lv_aload_n hx hb dX3_difference_17 rfl (lv_at hl 2 rfl) ?_
    refine q_v (q_runS (As := [.ref (g.P i), .ref (g.P j)]) (rest := []) S hW (n_minus l g hg σ hi hj hu hv hge) gX3_difference_X3_minus (nA := 2) ⟨rfl, by decide +kernel, ⟨by decide, by decide⟩⟩ rfl hl.1 rfl (Nat.le_of_ble_eq_true rfl) dX3_difference_18 ⟨Nat.zero_le _, Nat.zero_le _⟩) hW Ad_hi (fun σ2 H locs hp hW => ?_)
    obtain ⟨J2, e2, hg2, hn2⟩ : ∃ J', σ2 = σ.setJ J' ∧ Gr σ.J J' [i] ∧ Nb J' i (u - v) := hp
    rw [e2] at hW
    have n5_2 := hg2.N (by simp; omega) h5
    have nj_2 := hg2.N (by simp; omega) hv
    exact fin _ _ _ _ _ hW (⟨J2, rfl, hg2, by unfold dfm; rw [if_pos hge]; exact hn2⟩) dX3_difference_21
  · have hlt : u < v := (ord_lt er1).mp (Int32.not_le.mp c1)
    refine lv_aload_n hx hb dX3_difference_8 rfl (lv_at hl 1 rfl) ?_
    refine lv_aload_n hx hb dX3_difference_9 rfl (lv_at hl 0 rfl) ?_
    refine q_get (C := RX3) (T := TX3) (v := .ref (g.P 5)) hx hb hts hown (fun _ h9 => iw_X3_difference_X3 _ h9) hW (i := 3) (by decide) rfl rfl 4 (by decide) (hts (.fieldLink RX3 13 "ModEngineModel" "modulus" "[J") (by decide +kernel)) rfl dX3_difference_10 ?_
    refine q_v (q_runS (As := [.ref (g.P i), .ref (g.P 5)]) (rest := []) S hW (n_plus l g hg σ hi (by decide) hu h5 (by omega)) gX3_difference_X3_plus (nA := 2) ⟨rfl, by decide +kernel, ⟨by decide, by decide⟩⟩ rfl hl.1 rfl (Nat.le_of_ble_eq_true rfl) dX3_difference_13 ⟨Nat.zero_le _, Nat.zero_le _⟩) hW Ad_hi (fun σ2 H locs hp hW => ?_)
    obtain ⟨J2, e2, hg2, hn2⟩ : ∃ J', σ2 = σ.setJ J' ∧ Gr σ.J J' [i] ∧ Nb J' i (u + M) := hp
    rw [e2] at hW
    have n5_2 := hg2.N (by simp; omega) h5
    have nj_2 := hg2.N (by simp; omega) hv
    refine lv_aload_n hx hb dX3_difference_16 rfl (lv_at hl 1 rfl) ?_
    refine lv_aload_n hx hb dX3_difference_17 rfl (lv_at hl 2 rfl) ?_
    refine q_v (q_runS (As := [.ref (g.P i), .ref (g.P j)]) (rest := []) S hW (n_minus l g hg (σ.setJ J2) hi hj hn2 nj_2 (by omega)) gX3_difference_X3_minus (nA := 2) ⟨rfl, by decide +kernel, ⟨by decide, by decide⟩⟩ rfl hl.1 rfl (Nat.le_of_ble_eq_true rfl) dX3_difference_18 ⟨Nat.zero_le _, Nat.zero_le _⟩) hW Ad_hi (fun σ3 H locs hp hW => ?_)
    obtain ⟨J3, e3, hg3, hn3⟩ : ∃ J', σ3 = σ.setJ J' ∧ Gr J2 J' [i] ∧ Nb J' i ((u + M) - v) := hp
    rw [e3] at hW
    have n5_3 := hg3.N (by simp; omega) n5_2
    have nj_3 := hg3.N (by simp; omega) nj_2
    exact fin _ _ _ _ _ hW (⟨J3, rfl, fun r hr => by rw [hg3 r hr, hg2 r hr], by unfold dfm; rw [if_neg (by omega)]; exact hn3⟩) dX3_difference_21
set_option maxHeartbeats 4000000 in
set_option maxRecDepth 100000 in
/-- reference: rest(a) -/
theorem n_rest (l : Launch) (g : qCfg) (hg : g.ok) (σ : qSt) {M : Nat} (h0 : 0 < M) (hM : M < 2 ^ 256) (h5 : Nb σ.J 5 M) {i u : Nat} (hi : 5 ≤ i ∧ i < 12)(hi5 : i ≠ 5) (hi9 : i ≠ 9) (hu : Nb σ.J i u) (huk : u < 2 ^ (32 * g.k)) : qCV l g yX3_rest wsX3_rest 1 26 [.ref (g.P 3), .ref (g.P i)] σ (fun σ' => ∃ J', σ' = σ.setJ J' ∧ Gr σ.J J' [9, i] ∧ Nb J' i (u % M)) := by
  refine q_sV (cc := cX3_rest) (maxL := 3) (by decide) rfl (Nat.le_of_ble_eq_true rfl) ?_
  intro p e s m args below meth c ls Q S hW hl fin
  obtain ⟨hx, hb, hml, hown, hts, hr, hlocks⟩ := id S
  obtain ⟨hk1, hk8, hn1, hn8⟩ := id hg
  have hl : lv_has ls 3 [(0, .ref (g.P 3)), (1, .ref (g.P i))] := hl
  have loop : ∀ (x : Nat) (J : Nat → Nat → Int64), x ≤ 32 * g.k → Gr σ.J J [9, i] → Nb J 9 u → Nb J i (u / 2 ^ x % M) → ∀ (H : Heap) (locs : List Loc) (ls : Array Slot), Wo g (Ad g s.heap.size) s H locs (σ.setJ J) → lv_has ls 3 [(2, .int (nI x - 1)), (0, .ref (g.P 3)), (1, .ref (g.P i))] → W p l e (rmm 1 26) s m args below meth c H locs 0 0 Q (F0 m 20 ls []) := by
    intro x
    induction x with
    | zero =>
      intro J hx1 hgr h9 hni H locs ls hW hl
      refine lv_iload_n hx hb dX3_rest_20 rfl (lv_at hl 0 rfl) ?_
      refine lv_if_lt (tgt := 72) hx hb dX3_rest_21 (by decide) (fun _ => ?_) (fun c9 => absurd (by decide) c9)
      exact fin _ _ _ _ _ hW (⟨J, rfl, hgr, by rw [Nat.pow_zero, Nat.div_one] at hni; exact hni⟩) dX3_rest_72
    | succ x ih =>
      intro J hx1 hgr h9 hni H locs ls hW hl
      rw [nI_pred] at hl
      have h5a := hgr.N (show 5 ∉ [9, i] by simp; omega) h5
      have hacc := Nat.mod_lt (u / 2 ^ (x + 1)) h0
      have hst := rest_step (v := u) (x := x) h0 rfl
      generalize u / 2 ^ (x + 1) % M = acc at hni hacc hst
      refine lv_iload_n hx hb dX3_rest_20 rfl (lv_at hl 0 rfl) ?_
      refine lv_if_lt (tgt := 72) hx hb dX3_rest_21 (by decide) (fun c9 => absurd c9 (nI_pos (by omega))) (fun _ => ?_)
      refine lv_aload_n hx hb dX3_rest_24 rfl (lv_at hl 2 rfl) ?_
      refine lv_aload_n hx hb dX3_rest_25 rfl (lv_at hl 2 rfl) ?_
      refine q_v (q_runS (As := [.ref (g.P i), .ref (g.P i)]) (rest := []) S hW (n_plus l g hg (σ.setJ J) hi hi hni hni (by omega)) gX3_rest_X3_plus (nA := 2) ⟨rfl, by decide +kernel, ⟨by decide, by decide⟩⟩ rfl hl.1 rfl (Nat.le_of_ble_eq_true rfl) dX3_rest_26 ⟨Nat.zero_le _, Nat.zero_le _⟩) hW Ad_hi (fun σ1 H locs hp hW => ?_)
      obtain ⟨J1, e1, hg1, hn1⟩ : ∃ J', σ1 = σ.setJ J' ∧ Gr J J' [i] ∧ Nb J' i (acc + acc) := hp
      rw [e1] at hW
      have h9_1 := hg1.N (show 9 ∉ [i] by simp; omega) h9
      have h5_1 := hg1.N (show 5 ∉ [i] by simp; omega) h5a
      refine lv_aload_n hx hb dX3_rest_29 rfl (lv_at hl 1 rfl) ?_
      refine q_get (C := RX3) (T := TX3) (v := .ref (g.P 9)) hx hb hts hown (fun _ h9 => iw_X3_rest_X3 _ h9) hW (i := 3) (by decide) rfl rfl 8 (by decide) (hts (.fieldLink RX3 25 "ModEngineModel" "factor" "[J") (by decide +kernel)) rfl dX3_rest_30 ?_
      refine lv_iload_n hx hb dX3_rest_33 rfl (lv_at hl 0 rfl) ?_
      refine q_i (q_runS (As := [.ref (g.P 9), .int (nI x)]) (rest := []) S hW (n_bit l g hg (σ.setJ J1) (b := x) (by decide) h9_1 (by omega)) gX3_rest_X3_bit (nA := 2) ⟨rfl, by decide +kernel, ⟨by decide, by decide⟩⟩ rfl hl.1 rfl (Nat.le_of_ble_eq_true rfl) dX3_rest_34 ⟨Nat.zero_le _, Nat.zero_le _⟩) hW Ad_hi (fun r_34 σ2 H locs hp hW => ?_)
      obtain ⟨e2, er2⟩ : σ2 = σ.setJ J1 ∧ r_34 = if u.testBit x = true then 1 else 0 := hp
      rw [e2] at hW
      refine lv_if_eq (tgt := 47) hx hb dX3_rest_37 (by decide) (fun c1 => ?_) (fun c1 => ?_)
      · have hb0 := (fa_boolp er2).1.mp c1
        rw [tb_mod, if_neg hb0, Nat.add_zero, Nat.two_mul] at hst
        refine lv_aload_n hx hb dX3_rest_47 rfl (lv_at hl 2 rfl) ?_
        refine lv_aload_n hx hb dX3_rest_48 rfl (lv_at hl 1 rfl) ?_
        refine q_get (C := RX3) (T := TX3) (v := .ref (g.P 5)) hx hb hts hown (fun _ h9 => iw_X3_rest_X3 _ h9) hW (i := 3) (by decide) rfl rfl 4 (by decide) (hts (.fieldLink RX3 13 "ModEngineModel" "modulus" "[J") (by decide +kernel)) rfl dX3_rest_49 ?_
        refine q_i (q_runS (As := [.ref (g.P i), .ref (g.P 5)]) (rest := []) S hW (n_compared l g hg (σ.setJ J1) hi (by decide) hn1 h5_1) gX3_rest_X3_compared (nA := 2) ⟨rfl, by decide +kernel, ⟨by decide, by decide⟩⟩ rfl hl.1 rfl (Nat.le_of_ble_eq_true rfl) dX3_rest_52 ⟨Nat.zero_le _, Nat.zero_le _⟩) hW Ad_hi (fun r_52 σ3 H locs hp hW => ?_)
        obtain ⟨e3, er3⟩ : σ3 = σ.setJ J1 ∧ r_52 = if (acc + acc) < M then -1 else if (acc + acc) = M then 0 else 1 := hp
        rw [e3] at hW
        refine lv_if_lt (tgt := 66) hx hb dX3_rest_55 (by decide) (fun c2 => ?_) (fun c2 => ?_)
        · have hlt := (ord_lt er3).mp c2
          refine lv_iinc (v := nI x - 1) (lv' := [(2, .int (nI x - 1)), (0, .ref (g.P 3)), (1, .ref (g.P i))]) hx hb dX3_rest_66 hl (k := 0) rfl (by rw [Int32.sub_eq_add_neg]; rfl) (by decide) rfl (fun ls hl => ?_)
          refine lv_goto (tgt := 20) hx hb dX3_rest_69 (by decide) ?_
          exact ih J1 (by omega) (fun r hr => by rw [hg1 r (by simp at hr ⊢; omega), hgr r hr]) h9_1 (by rw [← hst]; rw [if_neg (Nat.not_le.mpr hlt)]; exact hn1) H locs ls hW (lv_sub hl [0, 1, 2] rfl)
        · have hge := Nat.not_lt.mp (fun q => c2 ((ord_lt er3).mpr q))
          refine lv_aload_n hx hb dX3_rest_58 rfl (lv_at hl 2 rfl) ?_
          refine lv_aload_n hx hb dX3_rest_59 rfl (lv_at hl 1 rfl) ?_
          refine q_get (C := RX3) (T := TX3) (v := .ref (g.P 5)) hx hb hts hown (fun _ h9 => iw_X3_rest_X3 _ h9) hW (i := 3) (by decide) rfl rfl 4 (by decide) (hts (.fieldLink RX3 13 "ModEngineModel" "modulus" "[J") (by decide +kernel)) rfl dX3_rest_60 ?_
          refine q_v (q_runS (As := [.ref (g.P i), .ref (g.P 5)]) (rest := []) S hW (n_minus l g hg (σ.setJ J1) hi (by decide) hn1 h5_1 hge) gX3_rest_X3_minus (nA := 2) ⟨rfl, by decide +kernel, ⟨by decide, by decide⟩⟩ rfl hl.1 rfl (Nat.le_of_ble_eq_true rfl) dX3_rest_63 ⟨Nat.zero_le _, Nat.zero_le _⟩) hW Ad_hi (fun σ4 H locs hp hW => ?_)
          obtain ⟨J4, e4, hg4, hn4⟩ : ∃ J', σ4 = σ.setJ J' ∧ Gr J1 J' [i] ∧ Nb J' i ((acc + acc) - M) := hp
          rw [e4] at hW
          have n9_4 := hg4.N (by simp; omega) h9_1
          have n5_4 := hg4.N (by simp; omega) h5_1
          refine lv_iinc (v := nI x - 1) (lv' := [(2, .int (nI x - 1)), (0, .ref (g.P 3)), (1, .ref (g.P i))]) hx hb dX3_rest_66 hl (k := 0) rfl (by rw [Int32.sub_eq_add_neg]; rfl) (by decide) rfl (fun ls hl => ?_)
          refine lv_goto (tgt := 20) hx hb dX3_rest_69 (by decide) ?_
          exact ih J4 (by omega) (fun r hr => by rw [hg4 r (by simp at hr ⊢; omega), hg1 r (by simp at hr ⊢; omega), hgr r hr]) n9_4 (by rw [← hst]; rw [if_pos hge]; exact hn4) H locs ls hW (lv_sub hl [0, 1, 2] rfl)
      · have hb0 := (fa_boolp er2).2.mp c1
        rw [tb_mod, if_pos hb0, Nat.two_mul] at hst
        have hev : uL (J1 i 0) % 2 = 0 := by
          have h7 := dv_mod2 (d := fun y => uL (J1 i y)) (k := 9) (by decide)
          rw [hn1.2] at h7
          omega
        have hb8 : uL (J1 i 0) < 4294967296 := hn1.1 0 (by decide)
        refine lv_aload_n hx hb dX3_rest_40 rfl (lv_at hl 2 rfl) ?_
        refine lv_iconst (v := 0) hx hb dX3_rest_41 (by decide) ?_
        refine lv_dup2_11 hx hb dX3_rest_42 rfl rfl ?_
        refine q_lald hx hb hW (i := i) (j := 0) ⟨by omega, by omega⟩ (by rw [lsz9 (by omega)]; omega) rfl dX3_rest_43 ?_
        refine q_tl (y := lN (uL (J1 i 0))) ((lN_uL _).symm) ?_
        refine lv_lconst (v := 1) hx hb dX3_rest_44 (by decide) ?_
        refine lv_lor hx hb dX3_rest_45 ?_
        refine q_tl (y := lN (uL (J1 i 0) + 1)) (lor_1 hev (by omega)) ?_
        refine q_lastJ (i := i) (J := J1) hx hb hW (j := 0) ⟨by omega, by omega⟩ (by rw [lsz9 (by omega)]; omega) rfl dX3_rest_46 (fun H locs hW => ?_)
        generalize hJ2 : va_up J1 i (va_up (J1 i) 0 (lN (uL (J1 i 0) + 1))) = J2 at hW
        have hg2 : Gr J1 J2 [i] := fun r hr => by rw [← hJ2]; exact va_up_ne _ _ (by simpa using hr)
        have hn2 : Nb J2 i (acc + acc + 1) := by
          rw [← hJ2]
          exact Nb_inc hn1 (by omega)
        have h9_2 := hg2.N (show 9 ∉ [i] by simp; omega) h9_1
        have h5_2 := hg2.N (show 5 ∉ [i] by simp; omega) h5_1
        refine lv_aload_n hx hb dX3_rest_47 rfl (lv_at hl 2 rfl) ?_
        refine lv_aload_n hx hb dX3_rest_48 rfl (lv_at hl 1 rfl) ?_
        refine q_get (C := RX3) (T := TX3) (v := .ref (g.P 5)) hx hb hts hown (fun _ h9 => iw_X3_rest_X3 _ h9) hW (i := 3) (by decide) rfl rfl 4 (by decide) (hts (.fieldLink RX3 13 "ModEngineModel" "modulus" "[J") (by decide +kernel)) rfl dX3_rest_49 ?_
        refine q_i (q_runS (As := [.ref (g.P i), .ref (g.P 5)]) (rest := []) S hW (n_compared l g hg (σ.setJ J2) hi (by decide) hn2 h5_2) gX3_rest_X3_compared (nA := 2) ⟨rfl, by decide +kernel, ⟨by decide, by decide⟩⟩ rfl hl.1 rfl (Nat.le_of_ble_eq_true rfl) dX3_rest_52 ⟨Nat.zero_le _, Nat.zero_le _⟩) hW Ad_hi (fun r_52 σ3 H locs hp hW => ?_)
        obtain ⟨e3, er3⟩ : σ3 = σ.setJ J2 ∧ r_52 = if (acc + acc + 1) < M then -1 else if (acc + acc + 1) = M then 0 else 1 := hp
        rw [e3] at hW
        refine lv_if_lt (tgt := 66) hx hb dX3_rest_55 (by decide) (fun c2 => ?_) (fun c2 => ?_)
        · have hlt := (ord_lt er3).mp c2
          refine lv_iinc (v := nI x - 1) (lv' := [(2, .int (nI x - 1)), (0, .ref (g.P 3)), (1, .ref (g.P i))]) hx hb dX3_rest_66 hl (k := 0) rfl (by rw [Int32.sub_eq_add_neg]; rfl) (by decide) rfl (fun ls hl => ?_)
          refine lv_goto (tgt := 20) hx hb dX3_rest_69 (by decide) ?_
          exact ih J2 (by omega) (fun r hr => by rw [hg2 r (by simp at hr ⊢; omega), hg1 r (by simp at hr ⊢; omega), hgr r hr]) h9_2 (by rw [← hst]; rw [if_neg (Nat.not_le.mpr hlt)]; exact hn2) H locs ls hW (lv_sub hl [0, 1, 2] rfl)
        · have hge := Nat.not_lt.mp (fun q => c2 ((ord_lt er3).mpr q))
          refine lv_aload_n hx hb dX3_rest_58 rfl (lv_at hl 2 rfl) ?_
          refine lv_aload_n hx hb dX3_rest_59 rfl (lv_at hl 1 rfl) ?_
          refine q_get (C := RX3) (T := TX3) (v := .ref (g.P 5)) hx hb hts hown (fun _ h9 => iw_X3_rest_X3 _ h9) hW (i := 3) (by decide) rfl rfl 4 (by decide) (hts (.fieldLink RX3 13 "ModEngineModel" "modulus" "[J") (by decide +kernel)) rfl dX3_rest_60 ?_
          refine q_v (q_runS (As := [.ref (g.P i), .ref (g.P 5)]) (rest := []) S hW (n_minus l g hg (σ.setJ J2) hi (by decide) hn2 h5_2 hge) gX3_rest_X3_minus (nA := 2) ⟨rfl, by decide +kernel, ⟨by decide, by decide⟩⟩ rfl hl.1 rfl (Nat.le_of_ble_eq_true rfl) dX3_rest_63 ⟨Nat.zero_le _, Nat.zero_le _⟩) hW Ad_hi (fun σ4 H locs hp hW => ?_)
          obtain ⟨J4, e4, hg4, hn4⟩ : ∃ J', σ4 = σ.setJ J' ∧ Gr J2 J' [i] ∧ Nb J' i ((acc + acc + 1) - M) := hp
          rw [e4] at hW
          have n9_4 := hg4.N (by simp; omega) h9_2
          have n5_4 := hg4.N (by simp; omega) h5_2
          refine lv_iinc (v := nI x - 1) (lv' := [(2, .int (nI x - 1)), (0, .ref (g.P 3)), (1, .ref (g.P i))]) hx hb dX3_rest_66 hl (k := 0) rfl (by rw [Int32.sub_eq_add_neg]; rfl) (by decide) rfl (fun ls hl => ?_)
          refine lv_goto (tgt := 20) hx hb dX3_rest_69 (by decide) ?_
          exact ih J4 (by omega) (fun r hr => by rw [hg4 r (by simp at hr ⊢; omega), hg2 r (by simp at hr ⊢; omega), hg1 r (by simp at hr ⊢; omega), hgr r hr]) n9_4 (by rw [← hst]; rw [if_pos hge]; exact hn4) H locs ls hW (lv_sub hl [0, 1, 2] rfl)
  refine lv_aload_n hx hb dX3_rest_0 rfl (lv_at hl 0 rfl) ?_
  refine q_get (C := RX3) (T := TX3) (v := .ref (g.P 9)) hx hb hts hown (fun _ h9 => iw_X3_rest_X3 _ h9) hW (i := 3) (by decide) rfl rfl 8 (by decide) (hts (.fieldLink RX3 25 "ModEngineModel" "factor" "[J") (by decide +kernel)) rfl dX3_rest_1 ?_
  refine lv_aload_n hx hb dX3_rest_4 rfl (lv_at hl 1 rfl) ?_
  refine q_v (q_runS (As := [.ref (g.P 9), .ref (g.P i)]) (rest := []) S hW (n_copy l g hg σ (by decide) hi) gX3_rest_X3_copy (nA := 2) ⟨rfl, by decide +kernel, ⟨by decide, by decide⟩⟩ rfl hl.1 rfl (Nat.le_of_ble_eq_true rfl) dX3_rest_5 ⟨Nat.zero_le _, Nat.zero_le _⟩) hW Ad_hi (fun σ1 H locs hp hW => ?_)
  obtain ⟨J1, e1, hg1, hcp1⟩ : ∃ J', σ1 = σ.setJ J' ∧ Gr σ.J J' [9] ∧ ∀ x, x < 9 → J' 9 x = σ.J i x := hp
  rw [e1] at hW
  have hn1 : Nb J1 9 u := Nb.cp hu hcp1
  have ni_1 := hg1.N (by simp; omega) hu
  refine lv_aload_n hx hb dX3_rest_8 rfl (lv_at hl 1 rfl) ?_
  refine lv_lconst (v := 0) hx hb dX3_rest_9 (by decide) ?_
  refine q_tl (y := lN 0) rfl ?_
  refine q_v (q_runS (As := [.ref (g.P i), .long (lN 0)]) (rest := []) S hW (n_be l g hg (σ.setJ J1) (t := 0) hi (by decide)) gX3_rest_X3_be (nA := 2) ⟨rfl, by decide +kernel, ⟨by decide, by decide⟩⟩ rfl hl.1 rfl (Nat.le_of_ble_eq_true rfl) dX3_rest_10 ⟨Nat.zero_le _, Nat.zero_le _⟩) hW Ad_hi (fun σ2 H locs hp hW => ?_)
  obtain ⟨J2, e2, hg2, hn2⟩ : ∃ J', σ2 = σ.setJ J' ∧ Gr J1 J' [i] ∧ Nb J' i 0 := hp
  rw [e2] at hW
  have n9_2 := hg2.N (by simp; omega) hn1
  refine lv_aload_n hx hb dX3_rest_13 rfl (lv_at hl 0 rfl) ?_
  refine q_i (q_runV (As := []) (rest := []) (i := 3) S hW (by decide) rfl rfl (n_bits l g hg (σ.setJ J2) ) gX3_rest_X3_bits rfl (nA := 0) ⟨rfl, by decide +kernel, ⟨by decide, by decide⟩⟩ rfl hl.1 rfl (Nat.le_of_ble_eq_true rfl) dX3_rest_14 ⟨Nat.zero_le _, Nat.zero_le _⟩) hW Ad_hi (fun r_14 σ3 H locs hp hW => ?_)
  obtain ⟨e3, er3⟩ : σ3 = σ.setJ J2 ∧ r_14 = nI (32 * g.k) := hp
  rw [e3] at hW
  refine q_ti (y := nI (32 * g.k)) er3 ?_
  refine lv_iconst (v := 1) hx hb dX3_rest_17 (by decide) ?_
  refine lv_isub hx hb dX3_rest_18 ?_
  refine lv_istore_n (lv' := [(2, .int ((nI (32 * g.k)) - 1)), (0, .ref (g.P 3)), (1, .ref (g.P i))]) hx hb dX3_rest_19 rfl hl (by decide) rfl (fun ls hl => ?_)
  refine loop (32 * g.k) J2 (Nat.le_refl _) (fun r hr => by rw [hg2 r (by simp at hr ⊢; omega), hg1 r (by simp at hr ⊢; omega)]) n9_2 (by rw [Nat.div_eq_of_lt huk, Nat.zero_mod]; exact hn2) _ _ ls hW (lv_sub hl [0, 1, 2] rfl)
set_option maxHeartbeats 4000000 in
set_option maxRecDepth 100000 in
/-- reference: product(a, b) -/
theorem n_product (l : Launch) (g : qCfg) (hg : g.ok) (σ : qSt) {M : Nat} (h0 : 0 < M) (hM : M < 2 ^ 256) (h5 : Nb σ.J 5 M) {i j u v : Nat} (hi : 5 ≤ i ∧ i < 12)(hj : 5 ≤ j ∧ j < 12)(hi5 : i ≠ 5) (hi7 : i ≠ 7) (hi9 : i ≠ 9) (hj9 : j ≠ 9) (hu : Nb σ.J i u) (hv : Nb σ.J j v) (hvm : v < M) (huk : u < 2 ^ (32 * g.k)) : qCV l g yX3_product wsX3_product 2 48 [.ref (g.P 3), .ref (g.P i), .ref (g.P j)] σ (fun σ' => ∃ J', σ' = σ.setJ J' ∧ Gr σ.J J' [7, 9, i] ∧ Nb J' i (u * v % M)) := by
  refine q_sV (cc := cX3_product) (maxL := 4) (by decide) rfl (Nat.le_of_ble_eq_true rfl) ?_
  intro p e s m args below meth c ls Q S hW hl fin
  obtain ⟨hx, hb, hml, hown, hts, hr, hlocks⟩ := id S
  obtain ⟨hk1, hk8, hn1, hn8⟩ := id hg
  have hl : lv_has ls 4 [(0, .ref (g.P 3)), (1, .ref (g.P i)), (2, .ref (g.P j))] := hl
  have loop : ∀ (x : Nat) (J : Nat → Nat → Int64), x ≤ 32 * g.k → Gr σ.J J [7, 9, i] → Nb J 9 u → Nb J 7 v → Nb J i (u / 2 ^ x * v % M) → ∀ (H : Heap) (locs : List Loc) (ls : Array Slot), Wo g (Ad g s.heap.size) s H locs (σ.setJ J) → lv_has ls 4 [(3, .int (nI x - 1)), (0, .ref (g.P 3)), (1, .ref (g.P i)), (2, .ref (g.P j))] → W p l e (rmm 2 48) s m args below meth c H locs 0 0 Q (F0 m 28 ls []) := by
    intro x
    induction x with
    | zero =>
      intro J hx1 hgr h9 h7 hni H locs ls hW hl
      refine lv_iload_n hx hb dX3_product_28 rfl (lv_at hl 0 rfl) ?_
      refine lv_if_lt (tgt := 64) hx hb dX3_product_29 (by decide) (fun _ => ?_) (fun c9 => absurd (by decide) c9)
      exact fin _ _ _ _ _ hW (⟨J, rfl, hgr, by rw [Nat.pow_zero, Nat.div_one] at hni; exact hni⟩) dX3_product_64
    | succ x ih =>
      intro J hx1 hgr h9 h7 hni H locs ls hW hl
      rw [nI_pred] at hl
      have h5a := hgr.N (show 5 ∉ [7, 9, i] by simp; omega) h5
      have hacc := Nat.mod_lt (u / 2 ^ (x + 1) * v) h0
      have hst := prod_step (u := u) (v := v) (x := x) (m := M) rfl
      generalize u / 2 ^ (x + 1) * v % M = acc at hni hacc hst
      refine lv_iload_n hx hb dX3_product_28 rfl (lv_at hl 0 rfl) ?_
      refine lv_if_lt (tgt := 64) hx hb dX3_product_29 (by decide) (fun c9 => absurd c9 (nI_pos (by omega))) (fun _ => ?_)
      refine lv_aload_n hx hb dX3_product_32 rfl (lv_at hl 1 rfl) ?_
      refine lv_aload_n hx hb dX3_product_33 rfl (lv_at hl 2 rfl) ?_
      refine lv_aload_n hx hb dX3_product_34 rfl (lv_at hl 2 rfl) ?_
      refine q_v (q_runV (As := [.ref (g.P i), .ref (g.P i)]) (rest := []) (i := 3) S hW (by decide) rfl rfl (n_sum l g hg (σ.setJ J) h0 hM h5a hi hi hi5 hni hni hacc hacc) gX3_product_X3_sum rfl (nA := 2) ⟨rfl, by decide +kernel, ⟨by decide, by decide⟩⟩ rfl hl.1 rfl (Nat.le_of_ble_eq_true rfl) dX3_product_35 ⟨Nat.zero_le _, Nat.zero_le _⟩) hW Ad_hi (fun σ1 H locs hp hW => ?_)
      obtain ⟨J1, e1, hg1, hn1⟩ : ∃ J', σ1 = σ.setJ J' ∧ Gr J J' [i] ∧ Nb J' i ((acc + acc) % M) := hp
      rw [e1] at hW
      have n9_1 := hg1.N (by simp; omega) h9
      have n7_1 := hg1.N (by simp; omega) h7
      have n5_1 := hg1.N (by simp; omega) h5a
      have hacc2 := Nat.mod_lt (acc + acc) h0
      refine lv_aload_n hx hb dX3_product_38 rfl (lv_at hl 1 rfl) ?_
      refine q_get (C := RX3) (T := TX3) (v := .ref (g.P 9)) hx hb hts hown (fun _ h9 => iw_X3_product_X3 _ h9) hW (i := 3) (by decide) rfl rfl 8 (by decide) (hts (.fieldLink RX3 25 "ModEngineModel" "factor" "[J") (by decide +kernel)) rfl dX3_product_39 ?_
      refine lv_iload_n hx hb dX3_product_42 rfl (lv_at hl 0 rfl) ?_
      refine q_i (q_runS (As := [.ref (g.P 9), .int (nI x)]) (rest := []) S hW (n_bit l g hg (σ.setJ J1) (b := x) (by decide) n9_1 (by omega)) gX3_product_X3_bit (nA := 2) ⟨rfl, by decide +kernel, ⟨by decide, by decide⟩⟩ rfl hl.1 rfl (Nat.le_of_ble_eq_true rfl) dX3_product_43 ⟨Nat.zero_le _, Nat.zero_le _⟩) hW Ad_hi (fun r_43 σ2 H locs hp hW => ?_)
      obtain ⟨e2, er2⟩ : σ2 = σ.setJ J1 ∧ r_43 = if u.testBit x = true then 1 else 0 := hp
      rw [e2] at hW
      refine lv_if_eq (tgt := 58) hx hb dX3_product_46 (by decide) (fun c1 => ?_) (fun c1 => ?_)
      · have hb0 := (fa_boolp er2).1.mp c1
        refine lv_iinc (v := nI x - 1) (lv' := [(3, .int (nI x - 1)), (0, .ref (g.P 3)), (1, .ref (g.P i)), (2, .ref (g.P j))]) hx hb dX3_product_58 hl (k := 0) rfl (by rw [Int32.sub_eq_add_neg]; rfl) (by decide) rfl (fun ls hl => ?_)
        refine lv_goto (tgt := 28) hx hb dX3_product_61 (by decide) ?_
        exact ih J1 (by omega) (fun r hr => by rw [hg1 r (by simp at hr ⊢; omega), hgr r hr]) n9_1 n7_1 (by rw [← hst]; rw [if_neg hb0]; exact hn1) H locs ls hW (lv_sub hl [0, 1, 2, 3] rfl)
      · have hb0 := (fa_boolp er2).2.mp c1
        refine lv_aload_n hx hb dX3_product_49 rfl (lv_at hl 1 rfl) ?_
        refine lv_aload_n hx hb dX3_product_50 rfl (lv_at hl 2 rfl) ?_
        refine lv_aload_n hx hb dX3_product_51 rfl (lv_at hl 1 rfl) ?_
        refine q_get (C := RX3) (T := TX3) (v := .ref (g.P 7)) hx hb hts hown (fun _ h9 => iw_X3_product_X3 _ h9) hW (i := 3) (by decide) rfl rfl 6 (by decide) (hts (.fieldLink RX3 19 "ModEngineModel" "second" "[J") (by decide +kernel)) rfl dX3_product_52 ?_
        refine q_v (q_runV (As := [.ref (g.P i), .ref (g.P 7)]) (rest := []) (i := 3) S hW (by decide) rfl rfl (n_sum l g hg (σ.setJ J1) h0 hM n5_1 hi (by decide) hi5 hn1 n7_1 hacc2 hvm) gX3_product_X3_sum rfl (nA := 2) ⟨rfl, by decide +kernel, ⟨by decide, by decide⟩⟩ rfl hl.1 rfl (Nat.le_of_ble_eq_true rfl) dX3_product_55 ⟨Nat.zero_le _, Nat.zero_le _⟩) hW Ad_hi (fun σ3 H locs hp hW => ?_)
        obtain ⟨J3, e3, hg3, hn3⟩ : ∃ J', σ3 = σ.setJ J' ∧ Gr J1 J' [i] ∧ Nb J' i (((acc + acc) % M + v) % M) := hp
        rw [e3] at hW
        have n9_3 := hg3.N (by simp; omega) n9_1
        have n7_3 := hg3.N (by simp; omega) n7_1
        have n5_3 := hg3.N (by simp; omega) n5_1
        refine lv_iinc (v := nI x - 1) (lv' := [(3, .int (nI x - 1)), (0, .ref (g.P 3)), (1, .ref (g.P i)), (2, .ref (g.P j))]) hx hb dX3_product_58 hl (k := 0) rfl (by rw [Int32.sub_eq_add_neg]; rfl) (by decide) rfl (fun ls hl => ?_)
        refine lv_goto (tgt := 28) hx hb dX3_product_61 (by decide) ?_
        exact ih J3 (by omega) (fun r hr => by rw [hg3 r (by simp at hr ⊢; omega), hg1 r (by simp at hr ⊢; omega), hgr r hr]) n9_3 n7_3 (by rw [← hst]; rw [if_pos hb0]; exact hn3) H locs ls hW (lv_sub hl [0, 1, 2, 3] rfl)
  refine lv_aload_n hx hb dX3_product_0 rfl (lv_at hl 0 rfl) ?_
  refine q_get (C := RX3) (T := TX3) (v := .ref (g.P 9)) hx hb hts hown (fun _ h9 => iw_X3_product_X3 _ h9) hW (i := 3) (by decide) rfl rfl 8 (by decide) (hts (.fieldLink RX3 25 "ModEngineModel" "factor" "[J") (by decide +kernel)) rfl dX3_product_1 ?_
  refine lv_aload_n hx hb dX3_product_4 rfl (lv_at hl 1 rfl) ?_
  refine q_v (q_runS (As := [.ref (g.P 9), .ref (g.P i)]) (rest := []) S hW (n_copy l g hg σ (by decide) hi) gX3_product_X3_copy (nA := 2) ⟨rfl, by decide +kernel, ⟨by decide, by decide⟩⟩ rfl hl.1 rfl (Nat.le_of_ble_eq_true rfl) dX3_product_5 ⟨Nat.zero_le _, Nat.zero_le _⟩) hW Ad_hi (fun σ1 H locs hp hW => ?_)
  obtain ⟨J1, e1, hg1, hcp1⟩ : ∃ J', σ1 = σ.setJ J' ∧ Gr σ.J J' [9] ∧ ∀ x, x < 9 → J' 9 x = σ.J i x := hp
  rw [e1] at hW
  have hn1 : Nb J1 9 u := Nb.cp hu hcp1
  have ni_1 := hg1.N (by simp; omega) hu
  have nj_1 := hg1.N (by simp; omega) hv
  refine lv_aload_n hx hb dX3_product_8 rfl (lv_at hl 0 rfl) ?_
  refine q_get (C := RX3) (T := TX3) (v := .ref (g.P 7)) hx hb hts hown (fun _ h9 => iw_X3_product_X3 _ h9) hW (i := 3) (by decide) rfl rfl 6 (by decide) (hts (.fieldLink RX3 19 "ModEngineModel" "second" "[J") (by decide +kernel)) rfl dX3_product_9 ?_
  refine lv_aload_n hx hb dX3_product_12 rfl (lv_at hl 2 rfl) ?_
  refine q_v (q_runS (As := [.ref (g.P 7), .ref (g.P j)]) (rest := []) S hW (n_copy l g hg (σ.setJ J1) (by decide) hj) gX3_product_X3_copy (nA := 2) ⟨rfl, by decide +kernel, ⟨by decide, by decide⟩⟩ rfl hl.1 rfl (Nat.le_of_ble_eq_true rfl) dX3_product_13 ⟨Nat.zero_le _, Nat.zero_le _⟩) hW Ad_hi (fun σ2 H locs hp hW => ?_)
  obtain ⟨J2, e2, hg2, hcp2⟩ : ∃ J', σ2 = σ.setJ J' ∧ Gr J1 J' [7] ∧ ∀ x, x < 9 → J' 7 x = J1 j x := hp
  rw [e2] at hW
  have hn2 : Nb J2 7 v := Nb.cp nj_1 hcp2
  have n9_2 := hg2.N (by decide) hn1
  refine lv_aload_n hx hb dX3_product_16 rfl (lv_at hl 1 rfl) ?_
  refine lv_lconst (v := 0) hx hb dX3_product_17 (by decide) ?_
  refine q_tl (y := lN 0) rfl ?_
  refine q_v (q_runS (As := [.ref (g.P i), .long (lN 0)]) (rest := []) S hW (n_be l g hg (σ.setJ J2) (t := 0) hi (by decide)) gX3_product_X3_be (nA := 2) ⟨rfl, by decide +kernel, ⟨by decide, by decide⟩⟩ rfl hl.1 rfl (Nat.le_of_ble_eq_true rfl) dX3_product_18 ⟨Nat.zero_le _, Nat.zero_le _⟩) hW Ad_hi (fun σ3 H locs hp hW => ?_)
  obtain ⟨J3, e3, hg3, hn3⟩ : ∃ J', σ3 = σ.setJ J' ∧ Gr J2 J' [i] ∧ Nb J' i 0 := hp
  rw [e3] at hW
  have n9_3 := hg3.N (by simp; omega) n9_2
  have n7_3 := hg3.N (by simp; omega) hn2
  refine lv_aload_n hx hb dX3_product_21 rfl (lv_at hl 0 rfl) ?_
  refine q_i (q_runV (As := []) (rest := []) (i := 3) S hW (by decide) rfl rfl (n_bits l g hg (σ.setJ J3) ) gX3_product_X3_bits rfl (nA := 0) ⟨rfl, by decide +kernel, ⟨by decide, by decide⟩⟩ rfl hl.1 rfl (Nat.le_of_ble_eq_true rfl) dX3_product_22 ⟨Nat.zero_le _, Nat.zero_le _⟩) hW Ad_hi (fun r_22 σ4 H locs hp hW => ?_)
  obtain ⟨e4, er4⟩ : σ4 = σ.setJ J3 ∧ r_22 = nI (32 * g.k) := hp
  rw [e4] at hW
  refine q_ti (y := nI (32 * g.k)) er4 ?_
  refine lv_iconst (v := 1) hx hb dX3_product_25 (by decide) ?_
  refine lv_isub hx hb dX3_product_26 ?_
  refine lv_istore_n (lv' := [(3, .int ((nI (32 * g.k)) - 1)), (0, .ref (g.P 3)), (1, .ref (g.P i)), (2, .ref (g.P j))]) hx hb dX3_product_27 rfl hl (by decide) rfl (fun ls hl => ?_)
  refine loop (32 * g.k) J3 (Nat.le_refl _) (fun r hr => by rw [hg3 r (by simp at hr ⊢; omega), hg2 r (by simp at hr ⊢; omega), hg1 r (by simp at hr ⊢; omega)]) n9_3 n7_3 (by rw [Nat.div_eq_of_lt huk, Nat.zero_mul, Nat.zero_mod]; exact hn3) _ _ ls hW (lv_sub hl [0, 1, 2, 3] rfl)
set_option maxHeartbeats 4000000 in
set_option maxRecDepth 100000 in
/-- reference: halfOf(a) -/
theorem n_halfOf (l : Launch) (g : qCfg) (hg : g.ok) (σ : qSt) {M : Nat} (h0 : 0 < M) (hM : M < 2 ^ 256) (h5 : Nb σ.J 5 M) {i u : Nat} (hi : 5 ≤ i ∧ i < 12)(hi5 : i ≠ 5) (hu : Nb σ.J i u) (hum : u < M) : qCV l g yX3_halfOf wsX3_halfOf 1 26 [.ref (g.P 3), .ref (g.P i)] σ (fun σ' => ∃ J', σ' = σ.setJ J' ∧ Gr σ.J J' [i] ∧ Nb J' i (hlf M u)) := by
  refine q_sV (cc := cX3_halfOf) (maxL := 2) (by decide) rfl (Nat.le_of_ble_eq_true rfl) ?_
  intro p e s m args below meth c ls Q S hW hl fin
  obtain ⟨hx, hb, hml, hown, hts, hr, hlocks⟩ := id S
  obtain ⟨hk1, hk8, hn1, hn8⟩ := id hg
  have hl : lv_has ls 2 [(0, .ref (g.P 3)), (1, .ref (g.P i))] := hl
  refine lv_aload_n hx hb dX3_halfOf_0 rfl (lv_at hl 1 rfl) ?_
  refine lv_iconst (v := 0) hx hb dX3_halfOf_1 (by decide) ?_
  refine q_i (q_runS (As := [.ref (g.P i), .int 0]) (rest := []) S hW (n_bit l g hg σ (b := 0) hi hu (by decide)) gX3_halfOf_X3_bit (nA := 2) ⟨rfl, by decide +kernel, ⟨by decide, by decide⟩⟩ rfl hl.1 rfl (Nat.le_of_ble_eq_true rfl) dX3_halfOf_2 ⟨Nat.zero_le _, Nat.zero_le _⟩) hW Ad_hi (fun r_2 σ1 H locs hp hW => ?_)
  obtain ⟨e1, er1⟩ : σ1 = σ ∧ r_2 = if u.testBit 0 = true then 1 else 0 := hp
  rw [e1] at hW
  rw [show u.testBit 0 = decide (u % 2 = 1) from Nat.testBit_zero u] at er1
  refine lv_if_eq (tgt := 16) hx hb dX3_halfOf_5 (by decide) (fun c1 => ?_) (fun c1 => ?_)
  · have hb0 : ¬ u % 2 = 1 := fun q => (fa_boolp er1).1.mp c1 (by simp [q])
    refine lv_aload_n hx hb dX3_halfOf_16 rfl (lv_at hl 1 rfl) ?_
    refine q_v (q_runS (As := [.ref (g.P i)]) (rest := []) S hW (n_half l g hg σ hi hu) gX3_halfOf_X3_half (nA := 1) ⟨rfl, by decide +kernel, ⟨by decide, by decide⟩⟩ rfl hl.1 rfl (Nat.le_of_ble_eq_true rfl) dX3_halfOf_17 ⟨Nat.zero_le _, Nat.zero_le _⟩) hW Ad_hi (fun σ2 H locs hp hW => ?_)
    obtain ⟨J2, e2, hg2, hn2⟩ : ∃ J', σ2 = σ.setJ J' ∧ Gr σ.J J' [i] ∧ Nb J' i (u / 2) := hp
    rw [e2] at hW
    have n5_2 := hg2.N (by simp; omega) h5
    exact fin _ _ _ _ _ hW (⟨J2, rfl, hg2, by unfold hlf; rw [if_neg hb0]; exact hn2⟩) dX3_halfOf_20
  · have hb0 : u % 2 = 1 := by simpa using (fa_boolp er1).2.mp c1
    refine lv_aload_n hx hb dX3_halfOf_8 rfl (lv_at hl 1 rfl) ?_
    refine lv_aload_n hx hb dX3_halfOf_9 rfl (lv_at hl 0 rfl) ?_
    refine q_get (C := RX3) (T := TX3) (v := .ref (g.P 5)) hx hb hts hown (fun _ h9 => iw_X3_halfOf_X3 _ h9) hW (i := 3) (by decide) rfl rfl 4 (by decide) (hts (.fieldLink RX3 13 "ModEngineModel" "modulus" "[J") (by decide +kernel)) rfl dX3_halfOf_10 ?_
    refine q_v (q_runS (As := [.ref (g.P i), .ref (g.P 5)]) (rest := []) S hW (n_plus l g hg σ hi (by decide) hu h5 (by omega)) gX3_halfOf_X3_plus (nA := 2) ⟨rfl, by decide +kernel, ⟨by decide, by decide⟩⟩ rfl hl.1 rfl (Nat.le_of_ble_eq_true rfl) dX3_halfOf_13 ⟨Nat.zero_le _, Nat.zero_le _⟩) hW Ad_hi (fun σ2 H locs hp hW => ?_)
    obtain ⟨J2, e2, hg2, hn2⟩ : ∃ J', σ2 = σ.setJ J' ∧ Gr σ.J J' [i] ∧ Nb J' i (u + M) := hp
    rw [e2] at hW
    have n5_2 := hg2.N (by simp; omega) h5
    refine lv_aload_n hx hb dX3_halfOf_16 rfl (lv_at hl 1 rfl) ?_
    refine q_v (q_runS (As := [.ref (g.P i)]) (rest := []) S hW (n_half l g hg (σ.setJ J2) hi hn2) gX3_halfOf_X3_half (nA := 1) ⟨rfl, by decide +kernel, ⟨by decide, by decide⟩⟩ rfl hl.1 rfl (Nat.le_of_ble_eq_true rfl) dX3_halfOf_17 ⟨Nat.zero_le _, Nat.zero_le _⟩) hW Ad_hi (fun σ3 H locs hp hW => ?_)
    obtain ⟨J3, e3, hg3, hn3⟩ : ∃ J', σ3 = σ.setJ J' ∧ Gr J2 J' [i] ∧ Nb J' i ((u + M) / 2) := hp
    rw [e3] at hW
    have n5_3 := hg3.N (by simp; omega) n5_2
    exact fin _ _ _ _ _ hW (⟨J3, rfl, fun r hr => by rw [hg3 r hr, hg2 r hr], by unfold hlf; rw [if_pos hb0]; exact hn3⟩) dX3_halfOf_20
set_option maxHeartbeats 4000000 in
set_option maxRecDepth 100000 in
/-- reference: takes(a, b) -/
theorem n_takes (l : Launch) (g : qCfg) (hg : g.ok) (σ : qSt) {M x y ea eb : Nat} {a b : Int32} (h0 : 0 < M) (hM : M < 2 ^ 256) (hm : Nh σ.J 8 M) (hea : ea < 8) (heb : eb < 8) (ha : a = nI ea) (hb1 : b = nI eb) (hx1 : Nh σ.J ea x) (hy1 : Nh σ.J eb y) (hxk : x < 2 ^ (32 * g.k)) (hyk : y < 2 ^ (32 * g.k)) : qCV l g yX3_takes wsX3_takes 2 48 [.ref (g.P 3), .int a, .int b] σ (fun σ' => ∃ J', σ' = σ.setJ J' ∧ Gr σ.J J' [5, 6, 8, 9] ∧ Nb J' 5 M ∧ Nb J' 6 (x % M) ∧ Nb J' 8 (y % M)) := by
  refine q_sV (cc := cX3_takes) (maxL := 3) (by decide) rfl (Nat.le_of_ble_eq_true rfl) ?_
  intro p e s m args below meth c ls Q S hW hl fin
  obtain ⟨hx, hb, hml, hown, hts, hr, hlocks⟩ := id S
  obtain ⟨hk1, hk8, hn1, hn8⟩ := id hg
  have hl : lv_has ls 3 [(0, .ref (g.P 3)), (1, .int a), (2, .int b)] := hl
  refine lv_aload_n hx hb dX3_takes_0 rfl (lv_at hl 0 rfl) ?_
  refine lv_aload_n hx hb dX3_takes_1 rfl (lv_at hl 0 rfl) ?_
  refine q_get (C := RX3) (T := TX3) (v := .ref (g.P 5)) hx hb hts hown (fun _ h9 => iw_X3_takes_X3 _ h9) hW (i := 3) (by decide) rfl rfl 4 (by decide) (hts (.fieldLink RX3 13 "ModEngineModel" "modulus" "[J") (by decide +kernel)) rfl dX3_takes_2 ?_
  refine lv_aload_n hx hb dX3_takes_5 rfl (lv_at hl 0 rfl) ?_
  refine q_i (q_runV (As := []) (rest := [.ref (g.P 5), .ref (g.P 3)]) (i := 3) S hW (by decide) rfl rfl (n_placeOfModulus l g hg σ ) gX3_takes_X3_placeOfModulus rfl (nA := 0) ⟨rfl, by decide +kernel, ⟨by decide, by decide⟩⟩ rfl hl.1 rfl (Nat.le_of_ble_eq_true rfl) dX3_takes_6 ⟨Nat.zero_le _, Nat.zero_le _⟩) hW Ad_hi (fun r_6 σ1 H locs hp hW => ?_)
  obtain ⟨e1, er1⟩ : σ1 = σ ∧ r_6 = nI (9 * 8) := hp
  rw [e1] at hW
  refine q_ti (y := nI (9 * 8)) er1 ?_
  refine q_v (q_runV (As := [.ref (g.P 5), .int (nI (9 * 8))]) (rest := []) (i := 3) S hW (by decide) rfl rfl (n_read l g hg σ (i := 5) (q := 9 * 8) (by decide) (by omega)) gX3_takes_X3_read rfl (nA := 2) ⟨rfl, by decide +kernel, ⟨by decide, by decide⟩⟩ rfl hl.1 rfl (Nat.le_of_ble_eq_true rfl) dX3_takes_9 ⟨Nat.zero_le _, Nat.zero_le _⟩) hW Ad_hi (fun σ2 H locs hp hW => ?_)
  obtain ⟨J2, e2, hg2, hcp2⟩ : ∃ J', σ2 = σ.setJ J' ∧ Gr σ.J J' [5] ∧ ∀ x, x < 9 → J' 5 x = σ.J 4 (9 * 8 + x) := hp
  rw [e2] at hW
  have hn2 : Nb J2 5 M := Nh.rd hm hcp2
  refine lv_aload_n hx hb dX3_takes_12 rfl (lv_at hl 0 rfl) ?_
  refine lv_aload_n hx hb dX3_takes_13 rfl (lv_at hl 0 rfl) ?_
  refine q_get (C := RX3) (T := TX3) (v := .ref (g.P 6)) hx hb hts hown (fun _ h9 => iw_X3_takes_X3 _ h9) hW (i := 3) (by decide) rfl rfl 5 (by decide) (hts (.fieldLink RX3 16 "ModEngineModel" "first" "[J") (by decide +kernel)) rfl dX3_takes_14 ?_
  refine lv_aload_n hx hb dX3_takes_17 rfl (lv_at hl 0 rfl) ?_
  refine lv_iload_n hx hb dX3_takes_18 rfl (lv_at hl 1 rfl) ?_
  refine q_i (q_runV (As := [.int a]) (rest := [.ref (g.P 6), .ref (g.P 3)]) (i := 3) S hW (by decide) rfl rfl (n_placeOf l g hg (σ.setJ J2) (x := a) ha) gX3_takes_X3_placeOf rfl (nA := 1) ⟨rfl, by decide +kernel, ⟨by decide, by decide⟩⟩ rfl hl.1 rfl (Nat.le_of_ble_eq_true rfl) dX3_takes_19 ⟨Nat.zero_le _, Nat.zero_le _⟩) hW Ad_hi (fun r_19 σ3 H locs hp hW => ?_)
  obtain ⟨e3, er3⟩ : σ3 = σ.setJ J2 ∧ r_19 = nI (9 * ea) := hp
  rw [e3] at hW
  refine q_ti (y := nI (9 * ea)) er3 ?_
  refine q_v (q_runV (As := [.ref (g.P 6), .int (nI (9 * ea))]) (rest := []) (i := 3) S hW (by decide) rfl rfl (n_read l g hg (σ.setJ J2) (i := 6) (q := 9 * ea) (by decide) (by omega)) gX3_takes_X3_read rfl (nA := 2) ⟨rfl, by decide +kernel, ⟨by decide, by decide⟩⟩ rfl hl.1 rfl (Nat.le_of_ble_eq_true rfl) dX3_takes_22 ⟨Nat.zero_le _, Nat.zero_le _⟩) hW Ad_hi (fun σ4 H locs hp hW => ?_)
  obtain ⟨J4, e4, hg4, hcp4⟩ : ∃ J', σ4 = σ.setJ J' ∧ Gr J2 J' [6] ∧ ∀ x, x < 9 → J' 6 x = J2 4 (9 * ea + x) := hp
  rw [e4] at hW
  have hn4 : Nb J4 6 x := Nh.rd (hg2.H (by decide) hx1) hcp4
  have n5_4 := hg4.N (by decide) hn2
  refine lv_aload_n hx hb dX3_takes_25 rfl (lv_at hl 0 rfl) ?_
  refine lv_aload_n hx hb dX3_takes_26 rfl (lv_at hl 0 rfl) ?_
  refine q_get (C := RX3) (T := TX3) (v := .ref (g.P 6)) hx hb hts hown (fun _ h9 => iw_X3_takes_X3 _ h9) hW (i := 3) (by decide) rfl rfl 5 (by decide) (hts (.fieldLink RX3 16 "ModEngineModel" "first" "[J") (by decide +kernel)) rfl dX3_takes_27 ?_
  refine q_v (q_runV (As := [.ref (g.P 6)]) (rest := []) (i := 3) S hW (by decide) rfl rfl (n_rest l g hg (σ.setJ J4) h0 hM n5_4 (by decide) (by decide) (by decide) hn4 hxk) gX3_takes_X3_rest rfl (nA := 1) ⟨rfl, by decide +kernel, ⟨by decide, by decide⟩⟩ rfl hl.1 rfl (Nat.le_of_ble_eq_true rfl) dX3_takes_30 ⟨Nat.zero_le _, Nat.zero_le _⟩) hW Ad_hi (fun σ5 H locs hp hW => ?_)
  obtain ⟨J5, e5, hg5, hn5⟩ : ∃ J', σ5 = σ.setJ J' ∧ Gr J4 J' [9, 6] ∧ Nb J' 6 (x % M) := hp
  rw [e5] at hW
  have n5_5 := hg5.N (by decide) n5_4
  refine lv_aload_n hx hb dX3_takes_33 rfl (lv_at hl 0 rfl) ?_
  refine lv_aload_n hx hb dX3_takes_34 rfl (lv_at hl 0 rfl) ?_
  refine q_get (C := RX3) (T := TX3) (v := .ref (g.P 8)) hx hb hts hown (fun _ h9 => iw_X3_takes_X3 _ h9) hW (i := 3) (by decide) rfl rfl 7 (by decide) (hts (.fieldLink RX3 22 "ModEngineModel" "result" "[J") (by decide +kernel)) rfl dX3_takes_35 ?_
  refine lv_aload_n hx hb dX3_takes_38 rfl (lv_at hl 0 rfl) ?_
  refine lv_iload_n hx hb dX3_takes_39 rfl (lv_at hl 2 rfl) ?_
  refine q_i (q_runV (As := [.int b]) (rest := [.ref (g.P 8), .ref (g.P 3)]) (i := 3) S hW (by decide) rfl rfl (n_placeOf l g hg (σ.setJ J5) (x := b) hb1) gX3_takes_X3_placeOf rfl (nA := 1) ⟨rfl, by decide +kernel, ⟨by decide, by decide⟩⟩ rfl hl.1 rfl (Nat.le_of_ble_eq_true rfl) dX3_takes_40 ⟨Nat.zero_le _, Nat.zero_le _⟩) hW Ad_hi (fun r_40 σ6 H locs hp hW => ?_)
  obtain ⟨e6, er6⟩ : σ6 = σ.setJ J5 ∧ r_40 = nI (9 * eb) := hp
  rw [e6] at hW
  refine q_ti (y := nI (9 * eb)) er6 ?_
  have hyy := hg5.H (by decide) (hg4.H (by decide) (hg2.H (by decide) hy1))
  refine q_v (q_runV (As := [.ref (g.P 8), .int (nI (9 * eb))]) (rest := []) (i := 3) S hW (by decide) rfl rfl (n_read l g hg (σ.setJ J5) (i := 8) (q := 9 * eb) (by decide) (by omega)) gX3_takes_X3_read rfl (nA := 2) ⟨rfl, by decide +kernel, ⟨by decide, by decide⟩⟩ rfl hl.1 rfl (Nat.le_of_ble_eq_true rfl) dX3_takes_43 ⟨Nat.zero_le _, Nat.zero_le _⟩) hW Ad_hi (fun σ7 H locs hp hW => ?_)
  obtain ⟨J7, e7, hg7, hcp7⟩ : ∃ J', σ7 = σ.setJ J' ∧ Gr J5 J' [8] ∧ ∀ x, x < 9 → J' 8 x = J5 4 (9 * eb + x) := hp
  rw [e7] at hW
  have hn7 : Nb J7 8 y := Nh.rd hyy hcp7
  have n5_7 := hg7.N (by decide) n5_5
  have n6_7 := hg7.N (by decide) hn5
  refine lv_aload_n hx hb dX3_takes_46 rfl (lv_at hl 0 rfl) ?_
  refine lv_aload_n hx hb dX3_takes_47 rfl (lv_at hl 0 rfl) ?_
  refine q_get (C := RX3) (T := TX3) (v := .ref (g.P 8)) hx hb hts hown (fun _ h9 => iw_X3_takes_X3 _ h9) hW (i := 3) (by decide) rfl rfl 7 (by decide) (hts (.fieldLink RX3 22 "ModEngineModel" "result" "[J") (by decide +kernel)) rfl dX3_takes_48 ?_
  refine q_v (q_runV (As := [.ref (g.P 8)]) (rest := []) (i := 3) S hW (by decide) rfl rfl (n_rest l g hg (σ.setJ J7) h0 hM n5_7 (by decide) (by decide) (by decide) hn7 hyk) gX3_takes_X3_rest rfl (nA := 1) ⟨rfl, by decide +kernel, ⟨by decide, by decide⟩⟩ rfl hl.1 rfl (Nat.le_of_ble_eq_true rfl) dX3_takes_51 ⟨Nat.zero_le _, Nat.zero_le _⟩) hW Ad_hi (fun σ8 H locs hp hW => ?_)
  obtain ⟨J8, e8, hg8, hn8⟩ : ∃ J', σ8 = σ.setJ J' ∧ Gr J7 J' [9, 8] ∧ Nb J' 8 (y % M) := hp
  rw [e8] at hW
  have n5_8 := hg8.N (by decide) n5_7
  have n6_8 := hg8.N (by decide) n6_7
  exact fin _ _ _ _ _ hW (⟨J8, rfl, fun r hr => by
      simp only [List.mem_cons, List.not_mem_nil, or_false, not_or] at hr
      rw [hg8 r (by simp; omega), hg7 r (by simp; omega), hg5 r (by simp; omega), hg4 r (by simp; omega), hg2 r (by simp; omega)], n5_8, n6_8, hn8⟩) dX3_takes_54
set_option maxHeartbeats 4000000 in
set_option maxRecDepth 100000 in
/-- reference: raise(a) -/
theorem n_raise (l : Launch) (g : qCfg) (hg : g.ok) (σ : qSt) {M : Nat} (h0 : 0 < M) (hM : M < 2 ^ 256) (h5 : Nb σ.J 5 M) {u x : Nat} (hM1 : 1 < M) (hMk : M < 2 ^ (32 * g.k)) (hu : Nb σ.J 6 u) (hum : u < M) (hx11 : Nb σ.J 11 x) (hxk : x < 2 ^ (32 * g.k)) : qCV l g yX3_raise wsX3_raise 3 71 [.ref (g.P 3), .ref (g.P 6)] σ (fun σ' => ∃ J', σ' = σ.setJ J' ∧ Gr σ.J J' [6, 7, 9, 10] ∧ Nb J' 6 (u ^ x % M)) := by
  refine q_sV (cc := cX3_raise) (maxL := 3) (by decide) rfl (Nat.le_of_ble_eq_true rfl) ?_
  intro p e s m args below meth c ls Q S hW hl fin
  obtain ⟨hx, hb, hml, hown, hts, hr, hlocks⟩ := id S
  obtain ⟨hk1, hk8, hn1, hn8⟩ := id hg
  have hl : lv_has ls 3 [(0, .ref (g.P 3)), (1, .ref (g.P 6))] := hl
  have loop : ∀ (n y : Nat) (J : Nat → Nat → Int64), y ≤ 32 * g.k → 32 * g.k + 1 ≤ y + n → Gr σ.J J [6, 7, 9, 10] → Nb J 6 (u ^ (x % 2 ^ y) % M) → Nb J 10 (u ^ 2 ^ y % M) → ∀ (H : Heap) (locs : List Loc) (ls : Array Slot), Wo g (Ad g s.heap.size) s H locs (σ.setJ J) → lv_has ls 3 [(2, .int (nI y)), (0, .ref (g.P 3)), (1, .ref (g.P 6))] → W p l e (rmm 3 71) s m args below meth c H locs 0 0 Q (F0 m 15 ls []) := by
    intro n
    induction n with
    | zero => intro y J h1 h2; exact absurd h2 (by omega)
    | succ n ih =>
      intro y J hy1 hy2 hgr h6 h10 H locs ls hW hl
      have h5a := hgr.N (by decide) h5
      have h11a := hgr.N (by decide) hx11
      have la := Nat.mod_lt (u ^ (x % 2 ^ y)) h0
      have lb := Nat.mod_lt (u ^ 2 ^ y) h0
      refine lv_iload_n hx hb dX3_raise_15 rfl (lv_at hl 0 rfl) ?_
      refine lv_aload_n hx hb dX3_raise_16 rfl (lv_at hl 1 rfl) ?_
      refine q_i (q_runV (As := []) (rest := [.int (nI y)]) (i := 3) S hW (by decide) rfl rfl (n_bits l g hg (σ.setJ J) ) gX3_raise_X3_bits rfl (nA := 0) ⟨rfl, by decide +kernel, ⟨by decide, by decide⟩⟩ rfl hl.1 rfl (Nat.le_of_ble_eq_true rfl) dX3_raise_17 ⟨Nat.zero_le _, Nat.zero_le _⟩) hW Ad_hi (fun r_17 σ1 H locs hp hW => ?_)
      obtain ⟨e1, er1⟩ : σ1 = σ.setJ J ∧ r_17 = nI (32 * g.k) := hp
      rw [e1] at hW
      refine q_ti (y := nI (32 * g.k)) er1 ?_
      refine lv_icmp_ge (tgt := 61) hx hb dX3_raise_20 (by decide) (fun c1 => ?_) (fun c1 => ?_)
      · have hx3 := nle c1 (by omega) (by omega)
        have hx4 : y = 32 * g.k := by omega
        exact fin _ _ _ _ _ hW (⟨J, rfl, hgr, by rw [hx4, Nat.mod_eq_of_lt hxk] at h6; exact h6⟩) dX3_raise_61
      · have hx3 := nge c1 (by omega)
        have hst := pw_up (c := u) (e := x) (x := y) (m := M) rfl rfl
        refine lv_aload_n hx hb dX3_raise_23 rfl (lv_at hl 1 rfl) ?_
        refine q_get (C := RX3) (T := TX3) (v := .ref (g.P 11)) hx hb hts hown (fun _ h9 => iw_X3_raise_X3 _ h9) hW (i := 3) (by decide) rfl rfl 10 (by decide) (hts (.fieldLink RX3 31 "ModEngineModel" "power" "[J") (by decide +kernel)) rfl dX3_raise_24 ?_
        refine lv_iload_n hx hb dX3_raise_27 rfl (lv_at hl 0 rfl) ?_
        refine q_i (q_runS (As := [.ref (g.P 11), .int (nI y)]) (rest := []) S hW (n_bit l g hg (σ.setJ J) (b := y) (by decide) h11a (by omega)) gX3_raise_X3_bit (nA := 2) ⟨rfl, by decide +kernel, ⟨by decide, by decide⟩⟩ rfl hl.1 rfl (Nat.le_of_ble_eq_true rfl) dX3_raise_28 ⟨Nat.zero_le _, Nat.zero_le _⟩) hW Ad_hi (fun r_28 σ2 H locs hp hW => ?_)
        obtain ⟨e2, er2⟩ : σ2 = σ.setJ J ∧ r_28 = if x.testBit y = true then 1 else 0 := hp
        rw [e2] at hW
        generalize u ^ (x % 2 ^ y) % M = aa at h6 la hst
        generalize u ^ 2 ^ y % M = bb at h10 lb hst
        refine lv_if_eq (tgt := 43) hx hb dX3_raise_31 (by decide) (fun c2 => ?_) (fun c2 => ?_)
        · have hb0 := (fa_boolp er2).1.mp c2
          refine lv_aload_n hx hb dX3_raise_43 rfl (lv_at hl 1 rfl) ?_
          refine lv_aload_n hx hb dX3_raise_44 rfl (lv_at hl 1 rfl) ?_
          refine q_get (C := RX3) (T := TX3) (v := .ref (g.P 10)) hx hb hts hown (fun _ h9 => iw_X3_raise_X3 _ h9) hW (i := 3) (by decide) rfl rfl 9 (by decide) (hts (.fieldLink RX3 28 "ModEngineModel" "base" "[J") (by decide +kernel)) rfl dX3_raise_45 ?_
          refine lv_aload_n hx hb dX3_raise_48 rfl (lv_at hl 1 rfl) ?_
          refine q_get (C := RX3) (T := TX3) (v := .ref (g.P 10)) hx hb hts hown (fun _ h9 => iw_X3_raise_X3 _ h9) hW (i := 3) (by decide) rfl rfl 9 (by decide) (hts (.fieldLink RX3 28 "ModEngineModel" "base" "[J") (by decide +kernel)) rfl dX3_raise_49 ?_
          refine q_v (q_runV (As := [.ref (g.P 10), .ref (g.P 10)]) (rest := []) (i := 3) S hW (by decide) rfl rfl (n_product l g hg (σ.setJ J) h0 hM h5a (by decide) (by decide) (by decide) (by decide) (by decide) (by decide) h10 h10 lb (by omega)) gX3_raise_X3_product rfl (nA := 2) ⟨rfl, by decide +kernel, ⟨by decide, by decide⟩⟩ rfl hl.1 rfl (Nat.le_of_ble_eq_true rfl) dX3_raise_52 ⟨Nat.zero_le _, Nat.zero_le _⟩) hW Ad_hi (fun σ3 H locs hp hW => ?_)
          obtain ⟨J3, e3, hg3, hn3⟩ : ∃ J', σ3 = σ.setJ J' ∧ Gr J J' [7, 9, 10] ∧ Nb J' 10 (bb * bb % M) := hp
          rw [e3] at hW
          have n5_3 := hg3.N (by decide) h5a
          have n11_3 := hg3.N (by decide) h11a
          have n6_3 := hg3.N (by decide) h6
          refine lv_iinc (v := nI (y + 1)) (lv' := [(2, .int (nI (y + 1))), (0, .ref (g.P 3)), (1, .ref (g.P 6))]) hx hb dX3_raise_55 hl (k := 0) rfl (nI_1 _) (by decide) rfl (fun ls hl => ?_)
          refine lv_goto (tgt := 15) hx hb dX3_raise_58 (by decide) ?_
          exact ih (y + 1) J3 (by omega) (by omega) (fun r hr => by rw [hg3 r (by simp at hr ⊢; omega), hgr r hr]) (by rw [← hst.1, if_neg hb0]; exact n6_3) (by rw [← hst.2]; exact hn3) H locs ls hW (lv_sub hl [0, 1, 2] rfl)
        · have hb0 := (fa_boolp er2).2.mp c2
          refine lv_aload_n hx hb dX3_raise_34 rfl (lv_at hl 1 rfl) ?_
          refine lv_aload_n hx hb dX3_raise_35 rfl (lv_at hl 2 rfl) ?_
          refine lv_aload_n hx hb dX3_raise_36 rfl (lv_at hl 1 rfl) ?_
          refine q_get (C := RX3) (T := TX3) (v := .ref (g.P 10)) hx hb hts hown (fun _ h9 => iw_X3_raise_X3 _ h9) hW (i := 3) (by decide) rfl rfl 9 (by decide) (hts (.fieldLink RX3 28 "ModEngineModel" "base" "[J") (by decide +kernel)) rfl dX3_raise_37 ?_
          refine q_v (q_runV (As := [.ref (g.P 6), .ref (g.P 10)]) (rest := []) (i := 3) S hW (by decide) rfl rfl (n_product l g hg (σ.setJ J) h0 hM h5a (by decide) (by decide) (by decide) (by decide) (by decide) (by decide) h6 h10 lb (by omega)) gX3_raise_X3_product rfl (nA := 2) ⟨rfl, by decide +kernel, ⟨by decide, by decide⟩⟩ rfl hl.1 rfl (Nat.le_of_ble_eq_true rfl) dX3_raise_40 ⟨Nat.zero_le _, Nat.zero_le _⟩) hW Ad_hi (fun σ3 H locs hp hW => ?_)
          obtain ⟨J3, e3, hg3, hn3⟩ : ∃ J', σ3 = σ.setJ J' ∧ Gr J J' [7, 9, 6] ∧ Nb J' 6 (aa * bb % M) := hp
          rw [e3] at hW
          have n5_3 := hg3.N (by decide) h5a
          have n11_3 := hg3.N (by decide) h11a
          have n10_3 := hg3.N (by decide) h10
          refine lv_aload_n hx hb dX3_raise_43 rfl (lv_at hl 1 rfl) ?_
          refine lv_aload_n hx hb dX3_raise_44 rfl (lv_at hl 1 rfl) ?_
          refine q_get (C := RX3) (T := TX3) (v := .ref (g.P 10)) hx hb hts hown (fun _ h9 => iw_X3_raise_X3 _ h9) hW (i := 3) (by decide) rfl rfl 9 (by decide) (hts (.fieldLink RX3 28 "ModEngineModel" "base" "[J") (by decide +kernel)) rfl dX3_raise_45 ?_
          refine lv_aload_n hx hb dX3_raise_48 rfl (lv_at hl 1 rfl) ?_
          refine q_get (C := RX3) (T := TX3) (v := .ref (g.P 10)) hx hb hts hown (fun _ h9 => iw_X3_raise_X3 _ h9) hW (i := 3) (by decide) rfl rfl 9 (by decide) (hts (.fieldLink RX3 28 "ModEngineModel" "base" "[J") (by decide +kernel)) rfl dX3_raise_49 ?_
          refine q_v (q_runV (As := [.ref (g.P 10), .ref (g.P 10)]) (rest := []) (i := 3) S hW (by decide) rfl rfl (n_product l g hg (σ.setJ J3) h0 hM n5_3 (by decide) (by decide) (by decide) (by decide) (by decide) (by decide) n10_3 n10_3 lb (by omega)) gX3_raise_X3_product rfl (nA := 2) ⟨rfl, by decide +kernel, ⟨by decide, by decide⟩⟩ rfl hl.1 rfl (Nat.le_of_ble_eq_true rfl) dX3_raise_52 ⟨Nat.zero_le _, Nat.zero_le _⟩) hW Ad_hi (fun σ4 H locs hp hW => ?_)
          obtain ⟨J4, e4, hg4, hn4⟩ : ∃ J', σ4 = σ.setJ J' ∧ Gr J3 J' [7, 9, 10] ∧ Nb J' 10 (bb * bb % M) := hp
          rw [e4] at hW
          have n5_4 := hg4.N (by decide) n5_3
          have n11_4 := hg4.N (by decide) n11_3
          have n6_4 := hg4.N (by decide) hn3
          refine lv_iinc (v := nI (y + 1)) (lv' := [(2, .int (nI (y + 1))), (0, .ref (g.P 3)), (1, .ref (g.P 6))]) hx hb dX3_raise_55 hl (k := 0) rfl (nI_1 _) (by decide) rfl (fun ls hl => ?_)
          refine lv_goto (tgt := 15) hx hb dX3_raise_58 (by decide) ?_
          exact ih (y + 1) J4 (by omega) (by omega) (fun r hr => by rw [hg4 r (by simp at hr ⊢; omega), hg3 r (by simp at hr ⊢; omega), hgr r hr]) (by rw [← hst.1, if_pos hb0]; exact n6_4) (by rw [← hst.2]; exact hn4) H locs ls hW (lv_sub hl [0, 1, 2] rfl)
  refine lv_aload_n hx hb dX3_raise_0 rfl (lv_at hl 0 rfl) ?_
  refine q_get (C := RX3) (T := TX3) (v := .ref (g.P 10)) hx hb hts hown (fun _ h9 => iw_X3_raise_X3 _ h9) hW (i := 3) (by decide) rfl rfl 9 (by decide) (hts (.fieldLink RX3 28 "ModEngineModel" "base" "[J") (by decide +kernel)) rfl dX3_raise_1 ?_
  refine lv_aload_n hx hb dX3_raise_4 rfl (lv_at hl 1 rfl) ?_
  refine q_v (q_runS (As := [.ref (g.P 10), .ref (g.P 6)]) (rest := []) S hW (n_copy l g hg σ (by decide) (by decide)) gX3_raise_X3_copy (nA := 2) ⟨rfl, by decide +kernel, ⟨by decide, by decide⟩⟩ rfl hl.1 rfl (Nat.le_of_ble_eq_true rfl) dX3_raise_5 ⟨Nat.zero_le _, Nat.zero_le _⟩) hW Ad_hi (fun σ1 H locs hp hW => ?_)
  obtain ⟨J1, e1, hg1, hcp1⟩ : ∃ J', σ1 = σ.setJ J' ∧ Gr σ.J J' [10] ∧ ∀ x, x < 9 → J' 10 x = σ.J 6 x := hp
  rw [e1] at hW
  have hn1 : Nb J1 10 u := Nb.cp hu hcp1
  have n6_1 := hg1.N (by decide) hu
  refine lv_aload_n hx hb dX3_raise_8 rfl (lv_at hl 1 rfl) ?_
  refine lv_lconst (v := 1) hx hb dX3_raise_9 (by decide) ?_
  refine q_tl (y := lN 1) rfl ?_
  refine q_v (q_runS (As := [.ref (g.P 6), .long (lN 1)]) (rest := []) S hW (n_be l g hg (σ.setJ J1) (t := 1) (by decide) (by decide)) gX3_raise_X3_be (nA := 2) ⟨rfl, by decide +kernel, ⟨by decide, by decide⟩⟩ rfl hl.1 rfl (Nat.le_of_ble_eq_true rfl) dX3_raise_10 ⟨Nat.zero_le _, Nat.zero_le _⟩) hW Ad_hi (fun σ2 H locs hp hW => ?_)
  obtain ⟨J2, e2, hg2, hn2⟩ : ∃ J', σ2 = σ.setJ J' ∧ Gr J1 J' [6] ∧ Nb J' 6 1 := hp
  rw [e2] at hW
  have n10_2 := hg2.N (by decide) hn1
  refine lv_iconst (v := 0) hx hb dX3_raise_13 (by decide) ?_
  refine lv_istore_n (lv' := [(2, .int 0), (0, .ref (g.P 3)), (1, .ref (g.P 6))]) hx hb dX3_raise_14 rfl hl (by decide) rfl (fun ls hl => ?_)
  refine loop (32 * g.k + 1) 0 J2 (by omega) (by omega) (fun r hr => by rw [hg2 r (by simp at hr ⊢; omega), hg1 r (by simp at hr ⊢; omega)]) ?_ ?_ _ _ ls hW (lv_sub hl [0, 1, 2] rfl)
  · rw [Nat.pow_zero, Nat.mod_one, Nat.pow_zero, Nat.mod_eq_of_lt hM1]; exact hn2
  · rw [Nat.pow_zero, Nat.pow_one, Nat.mod_eq_of_lt hum]; exact n10_2
