theorem iw_X2_hasLimb_X2 : ∀ w ∈ wsX20, w ∈ wsX2_hasLimb := by decide +kernel
theorem iw_X2_hasRegister_X2 : ∀ w ∈ wsX20, w ∈ wsX2_hasRegister := by decide +kernel
theorem iw_X2_canWork_X2 : ∀ w ∈ wsX20, w ∈ wsX2_canWork := by decide +kernel
theorem iw_X2_pokeMod_X1 : ∀ w ∈ wsX10, w ∈ wsX2_pokeMod := by decide +kernel
theorem iw_X2_pokeMod_X2 : ∀ w ∈ wsX20, w ∈ wsX2_pokeMod := by decide +kernel
theorem iw_X2_peekMod_X1 : ∀ w ∈ wsX10, w ∈ wsX2_peekMod := by decide +kernel
theorem iw_X2_peekMod_X2 : ∀ w ∈ wsX20, w ∈ wsX2_peekMod := by decide +kernel
theorem iw_X2_init__X1 : ∀ w ∈ wsX10, w ∈ wsX2_init_ := by decide +kernel
theorem iw_X2_init__X2 : ∀ w ∈ wsX20, w ∈ wsX2_init_ := by decide +kernel
theorem iw_X2_ready_X2 : ∀ w ∈ wsX20, w ∈ wsX2_ready := by decide +kernel
theorem iw_X2_poke_X2 : ∀ w ∈ wsX20, w ∈ wsX2_poke := by decide +kernel
theorem iw_X2_peek_X2 : ∀ w ∈ wsX20, w ∈ wsX2_peek := by decide +kernel
theorem iw_X2_reduce_X1 : ∀ w ∈ wsX10, w ∈ wsX2_reduce := by decide +kernel
theorem iw_X2_reduce_X2 : ∀ w ∈ wsX20, w ∈ wsX2_reduce := by decide +kernel
theorem iw_X2_addMod_X1 : ∀ w ∈ wsX10, w ∈ wsX2_addMod := by decide +kernel
theorem iw_X2_addMod_X2 : ∀ w ∈ wsX20, w ∈ wsX2_addMod := by decide +kernel
theorem iw_X2_subMod_X1 : ∀ w ∈ wsX10, w ∈ wsX2_subMod := by decide +kernel
theorem iw_X2_subMod_X2 : ∀ w ∈ wsX20, w ∈ wsX2_subMod := by decide +kernel
theorem iw_X2_mulMod_X1 : ∀ w ∈ wsX10, w ∈ wsX2_mulMod := by decide +kernel
theorem iw_X2_mulMod_X2 : ∀ w ∈ wsX20, w ∈ wsX2_mulMod := by decide +kernel
theorem iw_X2_montMod_X1 : ∀ w ∈ wsX10, w ∈ wsX2_montMod := by decide +kernel
theorem iw_X2_montMod_X2 : ∀ w ∈ wsX20, w ∈ wsX2_montMod := by decide +kernel
theorem iw_X2_powMod_X1 : ∀ w ∈ wsX10, w ∈ wsX2_powMod := by decide +kernel
theorem iw_X2_powMod_X2 : ∀ w ∈ wsX20, w ∈ wsX2_powMod := by decide +kernel
theorem iw_X2_invMod_X1 : ∀ w ∈ wsX10, w ∈ wsX2_invMod := by decide +kernel
theorem iw_X2_invMod_X2 : ∀ w ∈ wsX20, w ∈ wsX2_invMod := by decide +kernel
theorem iw_X2_witness_X1 : ∀ w ∈ wsX10, w ∈ wsX2_witness := by decide +kernel
theorem iw_X2_witness_X2 : ∀ w ∈ wsX20, w ∈ wsX2_witness := by decide +kernel
theorem iw_X2_compare_X2 : ∀ w ∈ wsX20, w ∈ wsX2_compare := by decide +kernel
set_option maxHeartbeats 4000000 in
set_option maxRecDepth 100000 in
/-- hasLimb -/
theorem m_hasLimb (l : Launch) (g : qCfg) (hg : g.ok) (σ : qSt) (x : Int32) : qCI l g yX2_hasLimb wsX2_hasLimb 0 0 [.ref (g.P 0), .int x] σ (fun r σ' => σ' = σ ∧ (r = 1 ∧ isR x g.k ∨ r = 0 ∧ ¬ isR x g.k)) := by
  refine q_sZ (cc := cX2_hasLimb) (maxL := 2) (by decide) rfl (Nat.le_of_ble_eq_true rfl) ?_
  intro p e s m args below meth c ls Q S hW hl fin
  obtain ⟨hx, hb, hml, hown, hts, hr, hlocks⟩ := id S
  obtain ⟨hk1, hk8, hn1, hn8⟩ := id hg
  have hl : lv_has ls 2 [(0, .ref (g.P 0)), (1, .int x)] := hl
  refine lv_iload_n hx hb dX2_hasLimb_0 rfl (lv_at hl 1 rfl) ?_
  refine lv_if_lt (tgt := 16) hx hb dX2_hasLimb_1 (by decide) (fun c1 => ?_) (fun c1 => ?_)
  · refine lv_iconst (v := 0) hx hb dX2_hasLimb_16 (by decide) ?_
    exact fin _ _ _ _ _ _ (by decide) hW (⟨rfl, Or.inr ⟨rfl, isR_no hk8 (Or.inl c1)⟩⟩) dX2_hasLimb_17
  · refine lv_iload_n hx hb dX2_hasLimb_4 rfl (lv_at hl 1 rfl) ?_
    refine lv_aload_n hx hb dX2_hasLimb_5 rfl (lv_at hl 0 rfl) ?_
    refine q_get (C := RX2) (T := TX2) (v := .int (nI g.k)) hx hb hts hown (fun _ h9 => iw_X2_hasLimb_X2 _ h9) hW (i := 0) (by decide) rfl rfl 0 (by decide) (hts (.fieldLink RX2 18 "ModEngine" "limbs" "I") (by decide +kernel)) rfl dX2_hasLimb_6 ?_
    refine lv_icmp_ge (tgt := 16) hx hb dX2_hasLimb_9 (by decide) (fun c2 => ?_) (fun c2 => ?_)
    · refine lv_iconst (v := 0) hx hb dX2_hasLimb_16 (by decide) ?_
      exact fin _ _ _ _ _ _ (by decide) hW (⟨rfl, Or.inr ⟨rfl, isR_no hk8 (Or.inr c2)⟩⟩) dX2_hasLimb_17
    · refine lv_iconst (v := 1) hx hb dX2_hasLimb_12 (by decide) ?_
      refine lv_goto (tgt := 17) hx hb dX2_hasLimb_13 (by decide) ?_
      exact fin _ _ _ _ _ _ (by decide) hW (⟨rfl, Or.inl ⟨rfl, isR_yes hk8 c1 c2⟩⟩) dX2_hasLimb_17
set_option maxHeartbeats 4000000 in
set_option maxRecDepth 100000 in
/-- hasRegister -/
theorem m_hasRegister (l : Launch) (g : qCfg) (hg : g.ok) (σ : qSt) (x : Int32) : qCI l g yX2_hasRegister wsX2_hasRegister 0 0 [.ref (g.P 0), .int x] σ (fun r σ' => σ' = σ ∧ (r = 1 ∧ isR x g.n ∨ r = 0 ∧ ¬ isR x g.n)) := by
  refine q_sZ (cc := cX2_hasRegister) (maxL := 2) (by decide) rfl (Nat.le_of_ble_eq_true rfl) ?_
  intro p e s m args below meth c ls Q S hW hl fin
  obtain ⟨hx, hb, hml, hown, hts, hr, hlocks⟩ := id S
  obtain ⟨hk1, hk8, hn1, hn8⟩ := id hg
  have hl : lv_has ls 2 [(0, .ref (g.P 0)), (1, .int x)] := hl
  refine lv_iload_n hx hb dX2_hasRegister_0 rfl (lv_at hl 1 rfl) ?_
  refine lv_if_lt (tgt := 16) hx hb dX2_hasRegister_1 (by decide) (fun c1 => ?_) (fun c1 => ?_)
  · refine lv_iconst (v := 0) hx hb dX2_hasRegister_16 (by decide) ?_
    exact fin _ _ _ _ _ _ (by decide) hW (⟨rfl, Or.inr ⟨rfl, isR_no hn8 (Or.inl c1)⟩⟩) dX2_hasRegister_17
  · refine lv_iload_n hx hb dX2_hasRegister_4 rfl (lv_at hl 1 rfl) ?_
    refine lv_aload_n hx hb dX2_hasRegister_5 rfl (lv_at hl 0 rfl) ?_
    refine q_get (C := RX2) (T := TX2) (v := .int (nI g.n)) hx hb hts hown (fun _ h9 => iw_X2_hasRegister_X2 _ h9) hW (i := 0) (by decide) rfl rfl 1 (by decide) (hts (.fieldLink RX2 22 "ModEngine" "count" "I") (by decide +kernel)) rfl dX2_hasRegister_6 ?_
    refine lv_icmp_ge (tgt := 16) hx hb dX2_hasRegister_9 (by decide) (fun c2 => ?_) (fun c2 => ?_)
    · refine lv_iconst (v := 0) hx hb dX2_hasRegister_16 (by decide) ?_
      exact fin _ _ _ _ _ _ (by decide) hW (⟨rfl, Or.inr ⟨rfl, isR_no hn8 (Or.inr c2)⟩⟩) dX2_hasRegister_17
    · refine lv_iconst (v := 1) hx hb dX2_hasRegister_12 (by decide) ?_
      refine lv_goto (tgt := 17) hx hb dX2_hasRegister_13 (by decide) ?_
      exact fin _ _ _ _ _ _ (by decide) hW (⟨rfl, Or.inl ⟨rfl, isR_yes hn8 c1 c2⟩⟩) dX2_hasRegister_17
set_option maxHeartbeats 4000000 in
set_option maxRecDepth 100000 in
/-- canWork(d, a, b) -/
theorem m_canWork (l : Launch) (g : qCfg) (hg : g.ok) (σ : qSt) (hrd : σ.rd = 0 ∨ σ.rd = 1) (d a b : Int32) : qCI l g yX2_canWork wsX2_canWork 1 21 [.ref (g.P 0), .int d, .int a, .int b] σ (fun r σ' => σ' = σ ∧ (r = 1 ∧ (σ.rd = 1 ∧ isR d g.n ∧ isR a g.n ∧ isR b g.n) ∨ r = 0 ∧ ¬ (σ.rd = 1 ∧ isR d g.n ∧ isR a g.n ∧ isR b g.n))) := by
  refine q_sZ (cc := cX2_canWork) (maxL := 4) (by decide) rfl (Nat.le_of_ble_eq_true rfl) ?_
  intro p e s m args below meth c ls Q S hW hl fin
  obtain ⟨hx, hb, hml, hown, hts, hr, hlocks⟩ := id S
  obtain ⟨hk1, hk8, hn1, hn8⟩ := id hg
  have hl : lv_has ls 4 [(0, .ref (g.P 0)), (1, .int d), (2, .int a), (3, .int b)] := hl
  refine lv_aload_n hx hb dX2_canWork_0 rfl (lv_at hl 0 rfl) ?_
  refine q_get (C := RX2) (T := TX2) (v := .int σ.rd) hx hb hts hown (fun _ h9 => iw_X2_canWork_X2 _ h9) hW (i := 0) (by decide) rfl rfl 4 (by decide) (hts (.fieldLink RX2 39 "ModEngine" "isReady" "Z") (by decide +kernel)) rfl dX2_canWork_1 ?_
  refine lv_if_eq (tgt := 35) hx hb dX2_canWork_4 (by decide) (fun c1 => ?_) (fun c1 => ?_)
  · refine lv_iconst (v := 0) hx hb dX2_canWork_35 (by decide) ?_
    exact fin _ _ _ _ _ _ (by decide) hW (⟨rfl, Or.inr ⟨rfl, fun q => absurd (c1.symm.trans q.1) (by decide)⟩⟩) dX2_canWork_36
  · have h0 : σ.rd = 1 := hrd.resolve_left c1
    refine lv_aload_n hx hb dX2_canWork_7 rfl (lv_at hl 0 rfl) ?_
    refine lv_iload_n hx hb dX2_canWork_8 rfl (lv_at hl 1 rfl) ?_
    refine q_i (q_runV (As := [.int d]) (rest := []) (i := 0) S hW (by decide) rfl rfl (m_hasRegister l g hg σ d) gX2_canWork_X2_hasRegister rfl (nA := 1) ⟨rfl, by decide +kernel, ⟨by decide, by decide⟩⟩ rfl hl.1 rfl (Nat.le_of_ble_eq_true rfl) dX2_canWork_9 ⟨Nat.zero_le _, Nat.zero_le _⟩) hW Ad_hi (fun r_9 σ1 H locs hp hW => ?_)
    obtain ⟨e1, er1⟩ : σ1 = σ ∧ (r_9 = 1 ∧ isR d g.n ∨ r_9 = 0 ∧ ¬ isR d g.n) := hp
    rw [e1] at hW
    refine lv_if_eq (tgt := 35) hx hb dX2_canWork_12 (by decide) (fun cd => ?_) (fun cd => ?_)
    · have hno : ¬ isR d g.n := er1.elim (fun z => absurd (z.1.symm.trans cd) (by decide)) (fun z => z.2)
      refine lv_iconst (v := 0) hx hb dX2_canWork_35 (by decide) ?_
      exact fin _ _ _ _ _ _ (by decide) hW (⟨rfl, Or.inr ⟨rfl, fun q => hno q.2.1⟩⟩) dX2_canWork_36
    · have hd : isR d g.n := er1.elim (fun z => z.2) (fun z => absurd z.1 cd)
      refine lv_aload_n hx hb dX2_canWork_15 rfl (lv_at hl 0 rfl) ?_
      refine lv_iload_n hx hb dX2_canWork_16 rfl (lv_at hl 2 rfl) ?_
      refine q_i (q_runV (As := [.int a]) (rest := []) (i := 0) S hW (by decide) rfl rfl (m_hasRegister l g hg σ a) gX2_canWork_X2_hasRegister rfl (nA := 1) ⟨rfl, by decide +kernel, ⟨by decide, by decide⟩⟩ rfl hl.1 rfl (Nat.le_of_ble_eq_true rfl) dX2_canWork_17 ⟨Nat.zero_le _, Nat.zero_le _⟩) hW Ad_hi (fun r_17 σ2 H locs hp hW => ?_)
      obtain ⟨e2, er2⟩ : σ2 = σ ∧ (r_17 = 1 ∧ isR a g.n ∨ r_17 = 0 ∧ ¬ isR a g.n) := hp
      rw [e2] at hW
      refine lv_if_eq (tgt := 35) hx hb dX2_canWork_20 (by decide) (fun ca => ?_) (fun ca => ?_)
      · have hno : ¬ isR a g.n := er2.elim (fun z => absurd (z.1.symm.trans ca) (by decide)) (fun z => z.2)
        refine lv_iconst (v := 0) hx hb dX2_canWork_35 (by decide) ?_
        exact fin _ _ _ _ _ _ (by decide) hW (⟨rfl, Or.inr ⟨rfl, fun q => hno q.2.2.1⟩⟩) dX2_canWork_36
      · have ha : isR a g.n := er2.elim (fun z => z.2) (fun z => absurd z.1 ca)
        refine lv_aload_n hx hb dX2_canWork_23 rfl (lv_at hl 0 rfl) ?_
        refine lv_iload_n hx hb dX2_canWork_24 rfl (lv_at hl 3 rfl) ?_
        refine q_i (q_runV (As := [.int b]) (rest := []) (i := 0) S hW (by decide) rfl rfl (m_hasRegister l g hg σ b) gX2_canWork_X2_hasRegister rfl (nA := 1) ⟨rfl, by decide +kernel, ⟨by decide, by decide⟩⟩ rfl hl.1 rfl (Nat.le_of_ble_eq_true rfl) dX2_canWork_25 ⟨Nat.zero_le _, Nat.zero_le _⟩) hW Ad_hi (fun r_25 σ3 H locs hp hW => ?_)
        obtain ⟨e3, er3⟩ : σ3 = σ ∧ (r_25 = 1 ∧ isR b g.n ∨ r_25 = 0 ∧ ¬ isR b g.n) := hp
        rw [e3] at hW
        refine lv_if_eq (tgt := 35) hx hb dX2_canWork_28 (by decide) (fun cb => ?_) (fun cb => ?_)
        · have hno : ¬ isR b g.n := er3.elim (fun z => absurd (z.1.symm.trans cb) (by decide)) (fun z => z.2)
          refine lv_iconst (v := 0) hx hb dX2_canWork_35 (by decide) ?_
          exact fin _ _ _ _ _ _ (by decide) hW (⟨rfl, Or.inr ⟨rfl, fun q => hno q.2.2.2⟩⟩) dX2_canWork_36
        · have hb2 : isR b g.n := er3.elim (fun z => z.2) (fun z => absurd z.1 cb)
          refine lv_iconst (v := 1) hx hb dX2_canWork_31 (by decide) ?_
          refine lv_goto (tgt := 36) hx hb dX2_canWork_32 (by decide) ?_
          exact fin _ _ _ _ _ _ (by decide) hW (⟨rfl, Or.inl ⟨rfl, h0, hd, ha, hb2⟩⟩) dX2_canWork_36
set_option maxHeartbeats 4000000 in
set_option maxRecDepth 100000 in
/-- peekMod(i) -/
theorem m_peekMod (l : Launch) (g : qCfg) (hg : g.ok) (σ : qSt) (hc : cInv g σ) {M : Nat} {X : Nat → Nat} (ha : cAbs g σ M X) (x : Int32) : qCI l g yX2_peekMod wsX2_peekMod 1 21 [.ref (g.P 0), .int x] σ (cPost g σ (sPeekMod g.k x M X σ.rd)) := by
  refine q_sI (cc := cX2_peekMod) (maxL := 2) (by decide) rfl (Nat.le_of_ble_eq_true rfl) ?_
  intro p e s m args below meth c ls Q S hW hl fin
  obtain ⟨hx, hb, hml, hown, hts, hr, hlocks⟩ := id S
  obtain ⟨hk1, hk8, hn1, hn8⟩ := id hg
  have hl : lv_has ls 2 [(0, .ref (g.P 0)), (1, .int x)] := hl
  refine lv_aload_n hx hb dX2_peekMod_0 rfl (lv_at hl 0 rfl) ?_
  refine lv_iload_n hx hb dX2_peekMod_1 rfl (lv_at hl 1 rfl) ?_
  refine q_i (q_runV (As := [.int x]) (rest := []) (i := 0) S hW (by decide) rfl rfl (m_hasLimb l g hg σ x) gX2_peekMod_X2_hasLimb rfl (nA := 1) ⟨rfl, by decide +kernel, ⟨by decide, by decide⟩⟩ rfl hl.1 rfl (Nat.le_of_ble_eq_true rfl) dX2_peekMod_2 ⟨Nat.zero_le _, Nat.zero_le _⟩) hW Ad_hi (fun r_2 σ1 H locs hp hW => ?_)
  obtain ⟨e1, er1⟩ : σ1 = σ ∧ (r_2 = 1 ∧ isR x g.k ∨ r_2 = 0 ∧ ¬ isR x g.k) := hp
  rw [e1] at hW
  refine lv_if_eq (tgt := 20) hx hb dX2_peekMod_5 (by decide) (fun c1 => ?_) (fun c1 => ?_)
  · have hno : ¬ isR x g.k := er1.elim (fun z => absurd (z.1.symm.trans c1) (by decide)) (fun z => z.2)
    refine lv_iconst (v := 0) hx hb dX2_peekMod_20 (by decide) ?_
    exact fin _ _ _ _ _ _ hW (⟨⟨rfl, rfl⟩, hc, M, X, ha, ⟨Or.inr ⟨hno, rfl⟩, rfl, rfl, rfl⟩⟩) dX2_peekMod_21
  · obtain ⟨j, hj, ej⟩ : isR x g.k := er1.elim (fun z => z.2) (fun z => absurd z.1 c1)
    refine lv_aload_n hx hb dX2_peekMod_8 rfl (lv_at hl 0 rfl) ?_
    refine q_get (C := RX2) (T := TX2) (v := .ref (g.P 1)) hx hb hts hown (fun _ h9 => iw_X2_peekMod_X2 _ h9) hW (i := 0) (by decide) rfl rfl 3 (by decide) (hts (.fieldLink RX2 35 "ModEngine" "ring" "LModEngine$Ring;") (by decide +kernel)) rfl dX2_peekMod_9 ?_
    refine q_get (C := RX1) (T := TX1) (v := .ref (g.P 12)) hx hb hts hown (fun _ h9 => iw_X2_peekMod_X1 _ h9) hW (i := 1) (by decide) rfl rfl 0 (by decide) (hts (.fieldLink RX2 47 "ModEngine$Ring" "modulus" "[I") (by decide +kernel)) rfl dX2_peekMod_12 ?_
    refine lv_iload_n hx hb dX2_peekMod_15 rfl (lv_at hl 1 rfl) ?_
    refine q_iald hx hb hW (i := 12) (j := j) (rowk (by decide)) (by omega) hk8 ej dX2_peekMod_16 ?_
    refine q_ti (y := σ.F 12 j) rfl ?_
    refine lv_goto (tgt := 21) hx hb dX2_peekMod_17 (by decide) ?_
    exact fin _ _ _ _ _ _ hW (⟨⟨rfl, rfl⟩, hc, M, X, ha, ⟨Or.inl ⟨j, hj, ej, by rw [← ha.1]; unfold qV; rw [dig_rv hj]; exact (nI_uI _).symm⟩, rfl, rfl, rfl⟩⟩) dX2_peekMod_21
set_option maxHeartbeats 4000000 in
set_option maxRecDepth 100000 in
/-- pokeMod(i, w) -/
theorem m_pokeMod (l : Launch) (g : qCfg) (hg : g.ok) (σ : qSt) (hc : cInv g σ) {M : Nat} {X : Nat → Nat} (ha : cAbs g σ M X) (x v : Int32) : qCI l g yX2_pokeMod wsX2_pokeMod 1 21 [.ref (g.P 0), .int x, .int v] σ (cPost g σ (sPokeMod g.k x v M X σ.rd)) := by
  refine q_sZ (cc := cX2_pokeMod) (maxL := 3) (by decide) rfl (Nat.le_of_ble_eq_true rfl) ?_
  intro p e s m args below meth c ls Q S hW hl fin
  obtain ⟨hx, hb, hml, hown, hts, hr, hlocks⟩ := id S
  obtain ⟨hk1, hk8, hn1, hn8⟩ := id hg
  have hl : lv_has ls 3 [(0, .ref (g.P 0)), (1, .int x), (2, .int v)] := hl
  refine lv_aload_n hx hb dX2_pokeMod_0 rfl (lv_at hl 0 rfl) ?_
  refine lv_iload_n hx hb dX2_pokeMod_1 rfl (lv_at hl 1 rfl) ?_
  refine q_i (q_runV (As := [.int x]) (rest := []) (i := 0) S hW (by decide) rfl rfl (m_hasLimb l g hg σ x) gX2_pokeMod_X2_hasLimb rfl (nA := 1) ⟨rfl, by decide +kernel, ⟨by decide, by decide⟩⟩ rfl hl.1 rfl (Nat.le_of_ble_eq_true rfl) dX2_pokeMod_2 ⟨Nat.zero_le _, Nat.zero_le _⟩) hW Ad_hi (fun r_2 σ1 H locs hp hW => ?_)
  obtain ⟨e1, er1⟩ : σ1 = σ ∧ (r_2 = 1 ∧ isR x g.k ∨ r_2 = 0 ∧ ¬ isR x g.k) := hp
  rw [e1] at hW
  refine lv_if_ne (tgt := 10) hx hb dX2_pokeMod_5 (by decide) (fun c1 => ?_) (fun c1 => ?_)
  · obtain ⟨j, hj, ej⟩ : isR x g.k := er1.elim (fun z => z.2) (fun z => absurd z.1 c1)
    refine lv_aload_n hx hb dX2_pokeMod_10 rfl (lv_at hl 0 rfl) ?_
    refine q_get (C := RX2) (T := TX2) (v := .ref (g.P 1)) hx hb hts hown (fun _ h9 => iw_X2_pokeMod_X2 _ h9) hW (i := 0) (by decide) rfl rfl 3 (by decide) (hts (.fieldLink RX2 35 "ModEngine" "ring" "LModEngine$Ring;") (by decide +kernel)) rfl dX2_pokeMod_11 ?_
    refine q_get (C := RX1) (T := TX1) (v := .ref (g.P 12)) hx hb hts hown (fun _ h9 => iw_X2_pokeMod_X1 _ h9) hW (i := 1) (by decide) rfl rfl 0 (by decide) (hts (.fieldLink RX2 47 "ModEngine$Ring" "modulus" "[I") (by decide +kernel)) rfl dX2_pokeMod_14 ?_
    refine lv_iload_n hx hb dX2_pokeMod_17 rfl (lv_at hl 1 rfl) ?_
    refine lv_iload_n hx hb dX2_pokeMod_18 rfl (lv_at hl 2 rfl) ?_
    refine q_iast hx hb hW (i := 12) (j := j) (rowk (by decide)) (by omega) hk8 ej dX2_pokeMod_19 (fun H locs hW => ?_)
    refine lv_aload_n hx hb dX2_pokeMod_20 rfl (lv_at hl 0 rfl) ?_
    refine lv_iconst (v := 0) hx hb dX2_pokeMod_21 (by decide) ?_
    generalize hF1 : va_up σ.F 12 (upd (σ.F 12) j v) = F1 at hW
    have hW : Wo g (Ad g s.heap.size) s H locs (σ.setF F1) := hW
    refine q_put (C := RX2) (T := TX2) hx hb hts hown (fun _ h9 => iw_X2_pokeMod_X2 _ h9) tyX2 tyX2_ok nmX2 hW (i := 0) (by decide) rfl rfl 4 (by decide) (hts (.fieldLink RX2 39 "ModEngine" "isReady" "Z") (by decide +kernel)) rfl (ty := .boolean) (by decide +kernel) rfl rfl (Nat.le_of_ble_eq_true rfl) ((σ.setF F1).setRd 0) rfl cel_rd dX2_pokeMod_22 (fun H locs hW => ?_)
    refine lv_iconst (v := 1) hx hb dX2_pokeMod_25 (by decide) ?_
    have hfr : ∀ r, r ≠ 12 → F1 r = σ.F r := fun r hr => by rw [← hF1, va_up_ne _ _ hr]
    have h12 : qV g F1 12 = setd M j (uI v) := by
      rw [← ha.1, ← hF1]
      unfold qV
      rw [va_up_self]
      exact setd_rv hj
    refine fin _ _ _ _ _ _ (by decide) hW ⟨⟨rfl, rfl⟩, ⟨?_, Or.inl rfl, fun q => absurd (show (0 : Int32) = 1 from q) (by decide)⟩, _, X, ⟨h12, fun r hr => ?_⟩, Or.inl ⟨j, hj, ej, rfl, rfl, rfl, rfl⟩⟩ dX2_pokeMod_26
    · show rv (F1 13) g.k = 1
      rw [hfr 13 (by decide)]
      exact hc.1
    · show rv (F1 (21 + r)) g.k = _
      rw [hfr _ (by omega)]
      exact ha.2 r hr
  · have hno : ¬ isR x g.k := er1.elim (fun z => absurd (z.1.symm.trans c1) (by decide)) (fun z => z.2)
    refine lv_iconst (v := 0) hx hb dX2_pokeMod_8 (by decide) ?_
    exact fin _ _ _ _ _ _ (by decide) hW (⟨⟨rfl, rfl⟩, hc, M, X, ha, Or.inr ⟨hno, rfl, rfl, rfl, rfl⟩⟩) dX2_pokeMod_9
set_option maxHeartbeats 4000000 in
set_option maxRecDepth 100000 in
/-- ready() -/
theorem m_ready (l : Launch) (g : qCfg) (hg : g.ok) (σ : qSt) (hc : cInv g σ) {M : Nat} {X : Nat → Nat} (ha : cAbs g σ M X)  : qCI l g yX2_ready wsX2_ready 0 0 [.ref (g.P 0)] σ (cPost g σ (sReady M X σ.rd)) := by
  refine q_sZ (cc := cX2_ready) (maxL := 1) (by decide) rfl (Nat.le_of_ble_eq_true rfl) ?_
  intro p e s m args below meth c ls Q S hW hl fin
  obtain ⟨hx, hb, hml, hown, hts, hr, hlocks⟩ := id S
  obtain ⟨hk1, hk8, hn1, hn8⟩ := id hg
  have hl : lv_has ls 1 [(0, .ref (g.P 0))] := hl
  refine lv_aload_n hx hb dX2_ready_0 rfl (lv_at hl 0 rfl) ?_
  refine q_get (C := RX2) (T := TX2) (v := .int σ.rd) hx hb hts hown (fun _ h9 => iw_X2_ready_X2 _ h9) hW (i := 0) (by decide) rfl rfl 4 (by decide) (hts (.fieldLink RX2 39 "ModEngine" "isReady" "Z") (by decide +kernel)) rfl dX2_ready_1 ?_
  exact fin _ _ _ _ _ _ hc.2.1 hW (⟨⟨rfl, rfl⟩, hc, M, X, ha, ⟨rfl, rfl, rfl, rfl⟩⟩) dX2_ready_4
set_option maxHeartbeats 4000000 in
set_option maxRecDepth 100000 in
/-- init() -/
theorem m_init (l : Launch) (g : qCfg) (hg : g.ok) (σ : qSt) (hc : cInv g σ) {M : Nat} {X : Nat → Nat} (ha : cAbs g σ M X)  : qCI l g yX2_init_ wsX2_init_ 5 116 [.ref (g.P 0)] σ (cPost g σ (sInit M X σ.rd)) := by
  refine q_sI (cc := cX2_init_) (maxL := 1) (by decide) rfl (Nat.le_of_ble_eq_true rfl) ?_
  intro p e s m args below meth c ls Q S hW hl fin
  obtain ⟨hx, hb, hml, hown, hts, hr, hlocks⟩ := id S
  obtain ⟨hk1, hk8, hn1, hn8⟩ := id hg
  have hl : lv_has ls 1 [(0, .ref (g.P 0))] := hl
  refine lv_aload_n hx hb dX2_init__0 rfl (lv_at hl 0 rfl) ?_
  refine q_get (C := RX2) (T := TX2) (v := .ref (g.P 1)) hx hb hts hown (fun _ h9 => iw_X2_init__X2 _ h9) hW (i := 0) (by decide) rfl rfl 3 (by decide) (hts (.fieldLink RX2 35 "ModEngine" "ring" "LModEngine$Ring;") (by decide +kernel)) rfl dX2_init__1 ?_
  refine q_i (q_runV (As := []) (rest := []) (i := 1) S hW (by decide) rfl rfl (r_hasFitModulus l g hg σ) gX2_init__X1_hasFitModulus rfl (nA := 0) ⟨rfl, by decide +kernel, ⟨by decide, by decide⟩⟩ rfl hl.1 rfl (Nat.le_of_ble_eq_true rfl) dX2_init__4 ⟨Nat.zero_le _, Nat.zero_le _⟩) hW Ad_hi (fun r_4 σ1 H locs hp hW => ?_)
  obtain ⟨e1, er1⟩ : σ1 = σ ∧ r_4 = if qV g σ.F 12 % 2 = 1 ∧ qV g σ.F 12 ≠ 1 then 1 else 0 := hp
  rw [e1] at hW
  rw [ha.1] at er1
  refine lv_if_ne (tgt := 12) hx hb dX2_init__7 (by decide) (fun c1 => ?_) (fun c1 => ?_)
  · have h1 := (fa_boolp er1).2.mp c1
    have h3 : 3 ≤ M := by omega
    refine lv_aload_n hx hb dX2_init__12 rfl (lv_at hl 0 rfl) ?_
    refine q_get (C := RX2) (T := TX2) (v := .ref (g.P 1)) hx hb hts hown (fun _ h9 => iw_X2_init__X2 _ h9) hW (i := 0) (by decide) rfl rfl 3 (by decide) (hts (.fieldLink RX2 35 "ModEngine" "ring" "LModEngine$Ring;") (by decide +kernel)) rfl dX2_init__13 ?_
    refine q_v (q_runV (As := []) (rest := []) (i := 1) S hW (by decide) rfl rfl (r_prepare l g hg σ (by rw [ha.1]; exact h1.1) (by rw [ha.1]; exact h3) hc.1) gX2_init__X1_prepare rfl (nA := 0) ⟨rfl, by decide +kernel, ⟨by decide, by decide⟩⟩ rfl hl.1 rfl (Nat.le_of_ble_eq_true rfl) dX2_init__16 ⟨Nat.zero_le _, Nat.zero_le _⟩) hW Ad_hi (fun σ2 H locs hp hW => ?_)
    obtain ⟨F2, v, e2, hf2, pp⟩ := hp
    rw [e2] at hW
    refine lv_aload_n hx hb dX2_init__19 rfl (lv_at hl 0 rfl) ?_
    refine lv_iconst (v := 1) hx hb dX2_init__20 (by decide) ?_
    refine q_put (C := RX2) (T := TX2) hx hb hts hown (fun _ h9 => iw_X2_init__X2 _ h9) tyX2 tyX2_ok nmX2 hW (i := 0) (by decide) rfl rfl 4 (by decide) (hts (.fieldLink RX2 39 "ModEngine" "isReady" "Z") (by decide +kernel)) rfl (ty := .boolean) (by decide +kernel) rfl rfl (Nat.le_of_ble_eq_true rfl) (((σ.setMi v).setF F2).setRd 1) rfl cel_rd dX2_init__21 (fun H locs hW => ?_)
    refine lv_iconst (v := 0) hx hb dX2_init__24 (by decide) ?_
    have hk2 := cAbs_keep ha hf2 (by decide)
    exact fin _ _ _ _ _ _ hW (⟨⟨rfl, rfl⟩, ⟨pp.2.2.1, Or.inr rfl, fun _ => pp⟩, M, X, hk2, rfl, rfl, Or.inl ⟨h1.1, h3, rfl, rfl⟩⟩) dX2_init__25
  · have h1 := (fa_boolp er1).1.mp c1
    refine lv_iconst (v := 1) hx hb dX2_init__10 (by decide) ?_
    exact fin _ _ _ _ _ _ hW (⟨⟨rfl, rfl⟩, hc, M, X, ha, ⟨rfl, rfl, Or.inr ⟨fun q => h1 ⟨q.1, by omega⟩, rfl, rfl⟩⟩⟩) dX2_init__11
set_option maxHeartbeats 4000000 in
set_option maxRecDepth 100000 in
/-- poke(r, i, w) -/
theorem m_poke (l : Launch) (g : qCfg) (hg : g.ok) (σ : qSt) (hc : cInv g σ) {M : Nat} {X : Nat → Nat} (ha : cAbs g σ M X) (d x v : Int32) : qCI l g yX2_poke wsX2_poke 1 21 [.ref (g.P 0), .int d, .int x, .int v] σ (cPost g σ (sPoke g.n g.k d x v M X σ.rd)) := by
  refine q_sZ (cc := cX2_poke) (maxL := 4) (by decide) rfl (Nat.le_of_ble_eq_true rfl) ?_
  intro p e s m args below meth c ls Q S hW hl fin
  obtain ⟨hx, hb, hml, hown, hts, hr, hlocks⟩ := id S
  obtain ⟨hk1, hk8, hn1, hn8⟩ := id hg
  have hl : lv_has ls 4 [(0, .ref (g.P 0)), (1, .int d), (2, .int x), (3, .int v)] := hl
  refine lv_aload_n hx hb dX2_poke_0 rfl (lv_at hl 0 rfl) ?_
  refine lv_iload_n hx hb dX2_poke_1 rfl (lv_at hl 1 rfl) ?_
  refine q_i (q_runV (As := [.int d]) (rest := []) (i := 0) S hW (by decide) rfl rfl (m_hasRegister l g hg σ d) gX2_poke_X2_hasRegister rfl (nA := 1) ⟨rfl, by decide +kernel, ⟨by decide, by decide⟩⟩ rfl hl.1 rfl (Nat.le_of_ble_eq_true rfl) dX2_poke_2 ⟨Nat.zero_le _, Nat.zero_le _⟩) hW Ad_hi (fun r_2 σ1 H locs hp hW => ?_)
  obtain ⟨e1, er1⟩ : σ1 = σ ∧ (r_2 = 1 ∧ isR d g.n ∨ r_2 = 0 ∧ ¬ isR d g.n) := hp
  rw [e1] at hW
  refine lv_if_eq (tgt := 16) hx hb dX2_poke_5 (by decide) (fun c1 => ?_) (fun c1 => ?_)
  · have hno : ¬ isR d g.n := er1.elim (fun z => absurd (z.1.symm.trans c1) (by decide)) (fun z => z.2)
    refine lv_iconst (v := 0) hx hb dX2_poke_16 (by decide) ?_
    exact fin _ _ _ _ _ _ (by decide) hW (⟨⟨rfl, rfl⟩, hc, M, X, ha, ⟨Or.inr ⟨fun q => hno q.1, rfl, rfl⟩, rfl, rfl⟩⟩) dX2_poke_17
  · obtain ⟨y, hy, ey⟩ : isR d g.n := er1.elim (fun z => z.2) (fun z => absurd z.1 c1)
    refine lv_aload_n hx hb dX2_poke_8 rfl (lv_at hl 0 rfl) ?_
    refine lv_iload_n hx hb dX2_poke_9 rfl (lv_at hl 2 rfl) ?_
    refine q_i (q_runV (As := [.int x]) (rest := []) (i := 0) S hW (by decide) rfl rfl (m_hasLimb l g hg σ x) gX2_poke_X2_hasLimb rfl (nA := 1) ⟨rfl, by decide +kernel, ⟨by decide, by decide⟩⟩ rfl hl.1 rfl (Nat.le_of_ble_eq_true rfl) dX2_poke_10 ⟨Nat.zero_le _, Nat.zero_le _⟩) hW Ad_hi (fun r_10 σ2 H locs hp hW => ?_)
    obtain ⟨e2, er2⟩ : σ2 = σ ∧ (r_10 = 1 ∧ isR x g.k ∨ r_10 = 0 ∧ ¬ isR x g.k) := hp
    rw [e2] at hW
    refine lv_if_ne (tgt := 18) hx hb dX2_poke_13 (by decide) (fun c2 => ?_) (fun c2 => ?_)
    · obtain ⟨j, hj, ej⟩ : isR x g.k := er2.elim (fun z => z.2) (fun z => absurd z.1 c2)
      refine lv_aload_n hx hb dX2_poke_18 rfl (lv_at hl 0 rfl) ?_
      refine q_get (C := RX2) (T := TX2) (v := .ref (g.P 2)) hx hb hts hown (fun _ h9 => iw_X2_poke_X2 _ h9) hW (i := 0) (by decide) rfl rfl 2 (by decide) (hts (.fieldLink RX2 27 "ModEngine" "registers" "[[I") (by decide +kernel)) rfl dX2_poke_19 ?_
      refine lv_iload_n hx hb dX2_poke_22 rfl (lv_at hl 1 rfl) ?_
      refine q_regs hx hb hW (j := y) (by omega) hn8 ey dX2_poke_23 ?_
      refine lv_iload_n hx hb dX2_poke_24 rfl (lv_at hl 2 rfl) ?_
      refine lv_iload_n hx hb dX2_poke_25 rfl (lv_at hl 3 rfl) ?_
      refine q_iast hx hb hW (i := (21 + y)) (j := j) (rowr hy) (by omega) hk8 ej dX2_poke_26 (fun H locs hW => ?_)
      refine lv_iconst (v := 1) hx hb dX2_poke_27 (by decide) ?_
      have h12 : qV g (va_up σ.F (21 + y) (upd (σ.F (21 + y)) j v)) (21 + y) = setd (X y) j (uI v) := by
        rw [← ha.2 y hy]
        unfold qV
        rw [va_up_self]
        exact setd_rv hj
      have hfr : Fr σ.F (va_up σ.F (21 + y) (upd (σ.F (21 + y)) j v)) [21 + y] := fun r hr => va_up_ne _ _ (by simpa using hr)
      exact fin _ _ _ _ _ _ (by decide) hW (⟨⟨rfl, rfl⟩, cInv_keep hc hfr (fun r hr => by simp at hr; omega), M, _, cAbs_up ha hfr (fun r hr => Or.inr (by simpa using hr)) h12, Or.inl ⟨y, j, hy, hj, ey, ej, rfl, rfl⟩, rfl, rfl⟩) dX2_poke_28
    · have hno : ¬ isR x g.k := er2.elim (fun z => absurd (z.1.symm.trans c2) (by decide)) (fun z => z.2)
      refine lv_iconst (v := 0) hx hb dX2_poke_16 (by decide) ?_
      exact fin _ _ _ _ _ _ (by decide) hW (⟨⟨rfl, rfl⟩, hc, M, X, ha, ⟨Or.inr ⟨fun q => hno q.2, rfl, rfl⟩, rfl, rfl⟩⟩) dX2_poke_17
set_option maxHeartbeats 4000000 in
set_option maxRecDepth 100000 in
/-- peek(r, i) -/
theorem m_peek (l : Launch) (g : qCfg) (hg : g.ok) (σ : qSt) (hc : cInv g σ) {M : Nat} {X : Nat → Nat} (ha : cAbs g σ M X) (d x : Int32) : qCI l g yX2_peek wsX2_peek 1 21 [.ref (g.P 0), .int d, .int x] σ (cPost g σ (sPeek g.n g.k d x M X σ.rd)) := by
  refine q_sI (cc := cX2_peek) (maxL := 3) (by decide) rfl (Nat.le_of_ble_eq_true rfl) ?_
  intro p e s m args below meth c ls Q S hW hl fin
  obtain ⟨hx, hb, hml, hown, hts, hr, hlocks⟩ := id S
  obtain ⟨hk1, hk8, hn1, hn8⟩ := id hg
  have hl : lv_has ls 3 [(0, .ref (g.P 0)), (1, .int d), (2, .int x)] := hl
  refine lv_aload_n hx hb dX2_peek_0 rfl (lv_at hl 0 rfl) ?_
  refine lv_iload_n hx hb dX2_peek_1 rfl (lv_at hl 1 rfl) ?_
  refine q_i (q_runV (As := [.int d]) (rest := []) (i := 0) S hW (by decide) rfl rfl (m_hasRegister l g hg σ d) gX2_peek_X2_hasRegister rfl (nA := 1) ⟨rfl, by decide +kernel, ⟨by decide, by decide⟩⟩ rfl hl.1 rfl (Nat.le_of_ble_eq_true rfl) dX2_peek_2 ⟨Nat.zero_le _, Nat.zero_le _⟩) hW Ad_hi (fun r_2 σ1 H locs hp hW => ?_)
  obtain ⟨e1, er1⟩ : σ1 = σ ∧ (r_2 = 1 ∧ isR d g.n ∨ r_2 = 0 ∧ ¬ isR d g.n) := hp
  rw [e1] at hW
  refine lv_if_eq (tgt := 27) hx hb dX2_peek_5 (by decide) (fun c1 => ?_) (fun c1 => ?_)
  · have hno : ¬ isR d g.n := er1.elim (fun z => absurd (z.1.symm.trans c1) (by decide)) (fun z => z.2)
    refine lv_iconst (v := 0) hx hb dX2_peek_27 (by decide) ?_
    exact fin _ _ _ _ _ _ hW (⟨⟨rfl, rfl⟩, hc, M, X, ha, ⟨Or.inr ⟨fun q => hno q.1, rfl⟩, rfl, rfl, rfl⟩⟩) dX2_peek_28
  · obtain ⟨y, hy, ey⟩ : isR d g.n := er1.elim (fun z => z.2) (fun z => absurd z.1 c1)
    refine lv_aload_n hx hb dX2_peek_8 rfl (lv_at hl 0 rfl) ?_
    refine lv_iload_n hx hb dX2_peek_9 rfl (lv_at hl 2 rfl) ?_
    refine q_i (q_runV (As := [.int x]) (rest := []) (i := 0) S hW (by decide) rfl rfl (m_hasLimb l g hg σ x) gX2_peek_X2_hasLimb rfl (nA := 1) ⟨rfl, by decide +kernel, ⟨by decide, by decide⟩⟩ rfl hl.1 rfl (Nat.le_of_ble_eq_true rfl) dX2_peek_10 ⟨Nat.zero_le _, Nat.zero_le _⟩) hW Ad_hi (fun r_10 σ2 H locs hp hW => ?_)
    obtain ⟨e2, er2⟩ : σ2 = σ ∧ (r_10 = 1 ∧ isR x g.k ∨ r_10 = 0 ∧ ¬ isR x g.k) := hp
    rw [e2] at hW
    refine lv_if_eq (tgt := 27) hx hb dX2_peek_13 (by decide) (fun c2 => ?_) (fun c2 => ?_)
    · have hno : ¬ isR x g.k := er2.elim (fun z => absurd (z.1.symm.trans c2) (by decide)) (fun z => z.2)
      refine lv_iconst (v := 0) hx hb dX2_peek_27 (by decide) ?_
      exact fin _ _ _ _ _ _ hW (⟨⟨rfl, rfl⟩, hc, M, X, ha, ⟨Or.inr ⟨fun q => hno q.2, rfl⟩, rfl, rfl, rfl⟩⟩) dX2_peek_28
    · obtain ⟨j, hj, ej⟩ : isR x g.k := er2.elim (fun z => z.2) (fun z => absurd z.1 c2)
      refine lv_aload_n hx hb dX2_peek_16 rfl (lv_at hl 0 rfl) ?_
      refine q_get (C := RX2) (T := TX2) (v := .ref (g.P 2)) hx hb hts hown (fun _ h9 => iw_X2_peek_X2 _ h9) hW (i := 0) (by decide) rfl rfl 2 (by decide) (hts (.fieldLink RX2 27 "ModEngine" "registers" "[[I") (by decide +kernel)) rfl dX2_peek_17 ?_
      refine lv_iload_n hx hb dX2_peek_20 rfl (lv_at hl 1 rfl) ?_
      refine q_regs hx hb hW (j := y) (by omega) hn8 ey dX2_peek_21 ?_
      refine lv_iload_n hx hb dX2_peek_22 rfl (lv_at hl 2 rfl) ?_
      refine q_iald hx hb hW (i := (21 + y)) (j := j) (rowr hy) (by omega) hk8 ej dX2_peek_23 ?_
      refine q_ti (y := σ.F (21 + y) j) rfl ?_
      refine lv_goto (tgt := 28) hx hb dX2_peek_24 (by decide) ?_
      exact fin _ _ _ _ _ _ hW (⟨⟨rfl, rfl⟩, hc, M, X, ha, ⟨Or.inl ⟨y, j, hy, hj, ey, ej, by rw [← ha.2 y hy]; unfold qV; rw [dig_rv hj]; exact (nI_uI _).symm⟩, rfl, rfl, rfl⟩⟩) dX2_peek_28
set_option maxHeartbeats 4000000 in
set_option maxRecDepth 100000 in
/-- reduce(r) -/
theorem m_reduce (l : Launch) (g : qCfg) (hg : g.ok) (σ : qSt) (hc : cInv g σ) {M : Nat} {X : Nat → Nat} (ha : cAbs g σ M X) (d : Int32) : qCI l g yX2_reduce wsX2_reduce 4 97 [.ref (g.P 0), .int d] σ (cPost g σ (sReg g.n pRes d d d M X σ.rd)) := by
  refine q_sZ (cc := cX2_reduce) (maxL := 2) (by decide) rfl (Nat.le_of_ble_eq_true rfl) ?_
  intro p e s m args below meth c ls Q S hW hl fin
  obtain ⟨hx, hb, hml, hown, hts, hr, hlocks⟩ := id S
  obtain ⟨hk1, hk8, hn1, hn8⟩ := id hg
  have hl : lv_has ls 2 [(0, .ref (g.P 0)), (1, .int d)] := hl
  refine lv_aload_n hx hb dX2_reduce_0 rfl (lv_at hl 0 rfl) ?_
  refine q_get (C := RX2) (T := TX2) (v := .int σ.rd) hx hb hts hown (fun _ h9 => iw_X2_reduce_X2 _ h9) hW (i := 0) (by decide) rfl rfl 4 (by decide) (hts (.fieldLink RX2 39 "ModEngine" "isReady" "Z") (by decide +kernel)) rfl dX2_reduce_1 ?_
  refine lv_if_eq (tgt := 15) hx hb dX2_reduce_4 (by decide) (fun c0 => ?_) (fun c0 => ?_)
  · refine lv_iconst (v := 0) hx hb dX2_reduce_15 (by decide) ?_
    exact fin _ _ _ _ _ _ (by decide) hW (⟨⟨rfl, rfl⟩, hc, M, X, ha, ⟨Or.inr ⟨fun q => absurd (c0.symm.trans q.1) (by decide), rfl, rfl⟩, rfl, rfl⟩⟩) dX2_reduce_16
  · have h0 : σ.rd = 1 := hc.2.1.resolve_left c0
    have p0 := hc.2.2 h0
    refine lv_aload_n hx hb dX2_reduce_7 rfl (lv_at hl 0 rfl) ?_
    refine lv_iload_n hx hb dX2_reduce_8 rfl (lv_at hl 1 rfl) ?_
    refine q_i (q_runV (As := [.int d]) (rest := []) (i := 0) S hW (by decide) rfl rfl (m_hasRegister l g hg σ d) gX2_reduce_X2_hasRegister rfl (nA := 1) ⟨rfl, by decide +kernel, ⟨by decide, by decide⟩⟩ rfl hl.1 rfl (Nat.le_of_ble_eq_true rfl) dX2_reduce_9 ⟨Nat.zero_le _, Nat.zero_le _⟩) hW Ad_hi (fun r_9 σ1 H locs hp hW => ?_)
    obtain ⟨e1, er1⟩ : σ1 = σ ∧ (r_9 = 1 ∧ isR d g.n ∨ r_9 = 0 ∧ ¬ isR d g.n) := hp
    rw [e1] at hW
    refine lv_if_ne (tgt := 17) hx hb dX2_reduce_12 (by decide) (fun c1 => ?_) (fun c1 => ?_)
    · obtain ⟨y, hy, ey⟩ : isR d g.n := er1.elim (fun z => z.2) (fun z => absurd z.1 c1)
      refine lv_aload_n hx hb dX2_reduce_17 rfl (lv_at hl 0 rfl) ?_
      refine q_get (C := RX2) (T := TX2) (v := .ref (g.P 1)) hx hb hts hown (fun _ h9 => iw_X2_reduce_X2 _ h9) hW (i := 0) (by decide) rfl rfl 3 (by decide) (hts (.fieldLink RX2 35 "ModEngine" "ring" "LModEngine$Ring;") (by decide +kernel)) rfl dX2_reduce_18 ?_
      refine lv_aload_n hx hb dX2_reduce_21 rfl (lv_at hl 0 rfl) ?_
      refine q_get (C := RX2) (T := TX2) (v := .ref (g.P 2)) hx hb hts hown (fun _ h9 => iw_X2_reduce_X2 _ h9) hW (i := 0) (by decide) rfl rfl 2 (by decide) (hts (.fieldLink RX2 27 "ModEngine" "registers" "[[I") (by decide +kernel)) rfl dX2_reduce_22 ?_
      refine lv_iload_n hx hb dX2_reduce_25 rfl (lv_at hl 1 rfl) ?_
      refine q_regs hx hb hW (j := y) (by omega) hn8 ey dX2_reduce_26 ?_
      refine lv_aload_n hx hb dX2_reduce_27 rfl (lv_at hl 0 rfl) ?_
      refine q_get (C := RX2) (T := TX2) (v := .ref (g.P 2)) hx hb hts hown (fun _ h9 => iw_X2_reduce_X2 _ h9) hW (i := 0) (by decide) rfl rfl 2 (by decide) (hts (.fieldLink RX2 27 "ModEngine" "registers" "[[I") (by decide +kernel)) rfl dX2_reduce_28 ?_
      refine lv_iload_n hx hb dX2_reduce_31 rfl (lv_at hl 1 rfl) ?_
      refine q_regs hx hb hW (j := y) (by omega) hn8 ey dX2_reduce_32 ?_
      refine q_v (q_runV (As := [.ref (g.P (21 + y)), .ref (g.P (21 + y))]) (rest := []) (i := 1) S hW (by decide) rfl rfl (r_residue l g hg σ (rowr hy) (rowr hy) (by omega) (by omega) p0) gX2_reduce_X1_residue rfl (nA := 2) ⟨rfl, by decide +kernel, ⟨by decide, by decide⟩⟩ rfl hl.1 rfl (Nat.le_of_ble_eq_true rfl) dX2_reduce_33 ⟨Nat.zero_le _, Nat.zero_le _⟩) hW Ad_hi (fun σ2 H locs hp hW => ?_)
      obtain ⟨F2, e2, hf2, hv2⟩ : ∃ F', σ2 = σ.setF F' ∧ Fr σ.F F' [16, 21 + y] ∧ qV g F' (21 + y) = qV g σ.F (21 + y) % qV g σ.F 12 := hp
      rw [e2] at hW
      rw [ha.1, ha.2 y hy] at hv2
      refine lv_iconst (v := 1) hx hb dX2_reduce_36 (by decide) ?_
      exact fin _ _ _ _ _ _ (by decide) hW (⟨⟨rfl, rfl⟩, cInv_keep hc hf2 (fun r hr => by simp at hr; omega), M, _, cAbs_up ha hf2 (fun r hr => by simp at hr; omega) hv2, Or.inl ⟨y, y, y, _, hy, hy, hy, ey, ey, ey, h0, rfl, rfl, rfl⟩, rfl, rfl⟩) dX2_reduce_37
    · have hno : ¬ isR d g.n := er1.elim (fun z => absurd (z.1.symm.trans c1) (by decide)) (fun z => z.2)
      refine lv_iconst (v := 0) hx hb dX2_reduce_15 (by decide) ?_
      exact fin _ _ _ _ _ _ (by decide) hW (⟨⟨rfl, rfl⟩, hc, M, X, ha, ⟨Or.inr ⟨fun q => hno q.2.1, rfl, rfl⟩, rfl, rfl⟩⟩) dX2_reduce_16
set_option maxHeartbeats 4000000 in
set_option maxRecDepth 100000 in
/-- addMod(d, a, b) -/
theorem m_addMod (l : Launch) (g : qCfg) (hg : g.ok) (σ : qSt) (hc : cInv g σ) {M : Nat} {X : Nat → Nat} (ha : cAbs g σ M X) (d a b : Int32) : qCI l g yX2_addMod wsX2_addMod 5 120 [.ref (g.P 0), .int d, .int a, .int b] σ (cPost g σ (sReg g.n pAdd d a b M X σ.rd)) := by
  refine q_sZ (cc := cX2_addMod) (maxL := 4) (by decide) rfl (Nat.le_of_ble_eq_true rfl) ?_
  intro p e s m args below meth c ls Q S hW hl fin
  obtain ⟨hx, hb, hml, hown, hts, hr, hlocks⟩ := id S
  obtain ⟨hk1, hk8, hn1, hn8⟩ := id hg
  have hl : lv_has ls 4 [(0, .ref (g.P 0)), (1, .int d), (2, .int a), (3, .int b)] := hl
  refine lv_aload_n hx hb dX2_addMod_0 rfl (lv_at hl 0 rfl) ?_
  refine lv_iload_n hx hb dX2_addMod_1 rfl (lv_at hl 1 rfl) ?_
  refine lv_iload_n hx hb dX2_addMod_2 rfl (lv_at hl 2 rfl) ?_
  refine lv_iload_n hx hb dX2_addMod_3 rfl (lv_at hl 3 rfl) ?_
  refine q_i (q_runV (As := [.int d, .int a, .int b]) (rest := []) (i := 0) S hW (by decide) rfl rfl (m_canWork l g hg σ hc.2.1 d a b) gX2_addMod_X2_canWork rfl (nA := 3) ⟨rfl, by decide +kernel, ⟨by decide, by decide⟩⟩ rfl hl.1 rfl (Nat.le_of_ble_eq_true rfl) dX2_addMod_4 ⟨Nat.zero_le _, Nat.zero_le _⟩) hW Ad_hi (fun r_4 σ1 H locs hp hW => ?_)
  obtain ⟨e1, er1⟩ : σ1 = σ ∧ (r_4 = 1 ∧ (σ.rd = 1 ∧ isR d g.n ∧ isR a g.n ∧ isR b g.n) ∨ r_4 = 0 ∧ ¬ (σ.rd = 1 ∧ isR d g.n ∧ isR a g.n ∧ isR b g.n)) := hp
  rw [e1] at hW
  refine lv_if_ne (tgt := 12) hx hb dX2_addMod_7 (by decide) (fun c1 => ?_) (fun c1 => ?_)
  · obtain ⟨h0, ⟨d1, hd1, ed1⟩, ⟨y, hy, ey⟩, ⟨z, hz, ez⟩⟩ : (σ.rd = 1 ∧ isR d g.n ∧ isR a g.n ∧ isR b g.n) := er1.elim (fun z => z.2) (fun z => absurd z.1 c1)
    have p0 := hc.2.2 h0
    refine lv_aload_n hx hb dX2_addMod_12 rfl (lv_at hl 0 rfl) ?_
    refine q_get (C := RX2) (T := TX2) (v := .ref (g.P 1)) hx hb hts hown (fun _ h9 => iw_X2_addMod_X2 _ h9) hW (i := 0) (by decide) rfl rfl 3 (by decide) (hts (.fieldLink RX2 35 "ModEngine" "ring" "LModEngine$Ring;") (by decide +kernel)) rfl dX2_addMod_13 ?_
    refine lv_aload_n hx hb dX2_addMod_16 rfl (lv_at hl 0 rfl) ?_
    refine q_get (C := RX2) (T := TX2) (v := .ref (g.P 2)) hx hb hts hown (fun _ h9 => iw_X2_addMod_X2 _ h9) hW (i := 0) (by decide) rfl rfl 2 (by decide) (hts (.fieldLink RX2 27 "ModEngine" "registers" "[[I") (by decide +kernel)) rfl dX2_addMod_17 ?_
    refine lv_iload_n hx hb dX2_addMod_20 rfl (lv_at hl 1 rfl) ?_
    refine q_regs hx hb hW (j := d1) (by omega) hn8 ed1 dX2_addMod_21 ?_
    refine lv_aload_n hx hb dX2_addMod_22 rfl (lv_at hl 0 rfl) ?_
    refine q_get (C := RX2) (T := TX2) (v := .ref (g.P 2)) hx hb hts hown (fun _ h9 => iw_X2_addMod_X2 _ h9) hW (i := 0) (by decide) rfl rfl 2 (by decide) (hts (.fieldLink RX2 27 "ModEngine" "registers" "[[I") (by decide +kernel)) rfl dX2_addMod_23 ?_
    refine lv_iload_n hx hb dX2_addMod_26 rfl (lv_at hl 2 rfl) ?_
    refine q_regs hx hb hW (j := y) (by omega) hn8 ey dX2_addMod_27 ?_
    refine lv_aload_n hx hb dX2_addMod_28 rfl (lv_at hl 0 rfl) ?_
    refine q_get (C := RX2) (T := TX2) (v := .ref (g.P 2)) hx hb hts hown (fun _ h9 => iw_X2_addMod_X2 _ h9) hW (i := 0) (by decide) rfl rfl 2 (by decide) (hts (.fieldLink RX2 27 "ModEngine" "registers" "[[I") (by decide +kernel)) rfl dX2_addMod_29 ?_
    refine lv_iload_n hx hb dX2_addMod_32 rfl (lv_at hl 3 rfl) ?_
    refine q_regs hx hb hW (j := z) (by omega) hn8 ez dX2_addMod_33 ?_
    refine q_v (q_runV (As := [.ref (g.P (21 + d1)), .ref (g.P (21 + y)), .ref (g.P (21 + z))]) (rest := []) (i := 1) S hW (by decide) rfl rfl (r_sum l g hg σ (rowr hd1) (rowr hy) (rowr hz) (by omega) (by omega) (by omega) p0) gX2_addMod_X1_sum rfl (nA := 3) ⟨rfl, by decide +kernel, ⟨by decide, by decide⟩⟩ rfl hl.1 rfl (Nat.le_of_ble_eq_true rfl) dX2_addMod_34 ⟨Nat.zero_le _, Nat.zero_le _⟩) hW Ad_hi (fun σ2 H locs hp hW => ?_)
    obtain ⟨F2, e2, hf2, hv2⟩ : ∃ F', σ2 = σ.setF F' ∧ Fr σ.F F' [16, 17, 18, 21 + d1] ∧ qV g F' (21 + d1) = (qV g σ.F (21 + y) % qV g σ.F 12 + qV g σ.F (21 + z) % qV g σ.F 12) % qV g σ.F 12 := hp
    rw [e2] at hW
    rw [ha.1, ha.2 y hy, ha.2 z hz] at hv2
    refine lv_iconst (v := 1) hx hb dX2_addMod_37 (by decide) ?_
    exact fin _ _ _ _ _ _ (by decide) hW (⟨⟨rfl, rfl⟩, cInv_keep hc hf2 (fun r hr => by simp at hr; omega), M, _, cAbs_up ha hf2 (fun r hr => by simp at hr; omega) hv2, Or.inl ⟨d1, y, z, _, hd1, hy, hz, ed1, ey, ez, h0, rfl, rfl, rfl⟩, rfl, rfl⟩) dX2_addMod_38
  · have hno : ¬ (σ.rd = 1 ∧ isR d g.n ∧ isR a g.n ∧ isR b g.n) := er1.elim (fun z => absurd (z.1.symm.trans c1) (by decide)) (fun z => z.2)
    refine lv_iconst (v := 0) hx hb dX2_addMod_10 (by decide) ?_
    exact fin _ _ _ _ _ _ (by decide) hW (⟨⟨rfl, rfl⟩, hc, M, X, ha, ⟨Or.inr ⟨hno, rfl, rfl⟩, rfl, rfl⟩⟩) dX2_addMod_11
set_option maxHeartbeats 4000000 in
set_option maxRecDepth 100000 in
/-- subMod(d, a, b) -/
theorem m_subMod (l : Launch) (g : qCfg) (hg : g.ok) (σ : qSt) (hc : cInv g σ) {M : Nat} {X : Nat → Nat} (ha : cAbs g σ M X) (d a b : Int32) : qCI l g yX2_subMod wsX2_subMod 5 120 [.ref (g.P 0), .int d, .int a, .int b] σ (cPost g σ (sReg g.n pSub d a b M X σ.rd)) := by
  refine q_sZ (cc := cX2_subMod) (maxL := 4) (by decide) rfl (Nat.le_of_ble_eq_true rfl) ?_
  intro p e s m args below meth c ls Q S hW hl fin
  obtain ⟨hx, hb, hml, hown, hts, hr, hlocks⟩ := id S
  obtain ⟨hk1, hk8, hn1, hn8⟩ := id hg
  have hl : lv_has ls 4 [(0, .ref (g.P 0)), (1, .int d), (2, .int a), (3, .int b)] := hl
  refine lv_aload_n hx hb dX2_subMod_0 rfl (lv_at hl 0 rfl) ?_
  refine lv_iload_n hx hb dX2_subMod_1 rfl (lv_at hl 1 rfl) ?_
  refine lv_iload_n hx hb dX2_subMod_2 rfl (lv_at hl 2 rfl) ?_
  refine lv_iload_n hx hb dX2_subMod_3 rfl (lv_at hl 3 rfl) ?_
  refine q_i (q_runV (As := [.int d, .int a, .int b]) (rest := []) (i := 0) S hW (by decide) rfl rfl (m_canWork l g hg σ hc.2.1 d a b) gX2_subMod_X2_canWork rfl (nA := 3) ⟨rfl, by decide +kernel, ⟨by decide, by decide⟩⟩ rfl hl.1 rfl (Nat.le_of_ble_eq_true rfl) dX2_subMod_4 ⟨Nat.zero_le _, Nat.zero_le _⟩) hW Ad_hi (fun r_4 σ1 H locs hp hW => ?_)
  obtain ⟨e1, er1⟩ : σ1 = σ ∧ (r_4 = 1 ∧ (σ.rd = 1 ∧ isR d g.n ∧ isR a g.n ∧ isR b g.n) ∨ r_4 = 0 ∧ ¬ (σ.rd = 1 ∧ isR d g.n ∧ isR a g.n ∧ isR b g.n)) := hp
  rw [e1] at hW
  refine lv_if_ne (tgt := 12) hx hb dX2_subMod_7 (by decide) (fun c1 => ?_) (fun c1 => ?_)
  · obtain ⟨h0, ⟨d1, hd1, ed1⟩, ⟨y, hy, ey⟩, ⟨z, hz, ez⟩⟩ : (σ.rd = 1 ∧ isR d g.n ∧ isR a g.n ∧ isR b g.n) := er1.elim (fun z => z.2) (fun z => absurd z.1 c1)
    have p0 := hc.2.2 h0
    refine lv_aload_n hx hb dX2_subMod_12 rfl (lv_at hl 0 rfl) ?_
    refine q_get (C := RX2) (T := TX2) (v := .ref (g.P 1)) hx hb hts hown (fun _ h9 => iw_X2_subMod_X2 _ h9) hW (i := 0) (by decide) rfl rfl 3 (by decide) (hts (.fieldLink RX2 35 "ModEngine" "ring" "LModEngine$Ring;") (by decide +kernel)) rfl dX2_subMod_13 ?_
    refine lv_aload_n hx hb dX2_subMod_16 rfl (lv_at hl 0 rfl) ?_
    refine q_get (C := RX2) (T := TX2) (v := .ref (g.P 2)) hx hb hts hown (fun _ h9 => iw_X2_subMod_X2 _ h9) hW (i := 0) (by decide) rfl rfl 2 (by decide) (hts (.fieldLink RX2 27 "ModEngine" "registers" "[[I") (by decide +kernel)) rfl dX2_subMod_17 ?_
    refine lv_iload_n hx hb dX2_subMod_20 rfl (lv_at hl 1 rfl) ?_
    refine q_regs hx hb hW (j := d1) (by omega) hn8 ed1 dX2_subMod_21 ?_
    refine lv_aload_n hx hb dX2_subMod_22 rfl (lv_at hl 0 rfl) ?_
    refine q_get (C := RX2) (T := TX2) (v := .ref (g.P 2)) hx hb hts hown (fun _ h9 => iw_X2_subMod_X2 _ h9) hW (i := 0) (by decide) rfl rfl 2 (by decide) (hts (.fieldLink RX2 27 "ModEngine" "registers" "[[I") (by decide +kernel)) rfl dX2_subMod_23 ?_
    refine lv_iload_n hx hb dX2_subMod_26 rfl (lv_at hl 2 rfl) ?_
    refine q_regs hx hb hW (j := y) (by omega) hn8 ey dX2_subMod_27 ?_
    refine lv_aload_n hx hb dX2_subMod_28 rfl (lv_at hl 0 rfl) ?_
    refine q_get (C := RX2) (T := TX2) (v := .ref (g.P 2)) hx hb hts hown (fun _ h9 => iw_X2_subMod_X2 _ h9) hW (i := 0) (by decide) rfl rfl 2 (by decide) (hts (.fieldLink RX2 27 "ModEngine" "registers" "[[I") (by decide +kernel)) rfl dX2_subMod_29 ?_
    refine lv_iload_n hx hb dX2_subMod_32 rfl (lv_at hl 3 rfl) ?_
    refine q_regs hx hb hW (j := z) (by omega) hn8 ez dX2_subMod_33 ?_
    refine q_v (q_runV (As := [.ref (g.P (21 + d1)), .ref (g.P (21 + y)), .ref (g.P (21 + z))]) (rest := []) (i := 1) S hW (by decide) rfl rfl (r_difference l g hg σ (rowr hd1) (rowr hy) (rowr hz) (by omega) (by omega) (by omega) p0) gX2_subMod_X1_difference rfl (nA := 3) ⟨rfl, by decide +kernel, ⟨by decide, by decide⟩⟩ rfl hl.1 rfl (Nat.le_of_ble_eq_true rfl) dX2_subMod_34 ⟨Nat.zero_le _, Nat.zero_le _⟩) hW Ad_hi (fun σ2 H locs hp hW => ?_)
    obtain ⟨F2, e2, hf2, hv2⟩ : ∃ F', σ2 = σ.setF F' ∧ Fr σ.F F' [16, 17, 18, 21 + d1] ∧ qV g F' (21 + d1) = dfm (qV g σ.F 12) (qV g σ.F (21 + y) % qV g σ.F 12) (qV g σ.F (21 + z) % qV g σ.F 12) := hp
    rw [e2] at hW
    rw [ha.1, ha.2 y hy, ha.2 z hz] at hv2
    refine lv_iconst (v := 1) hx hb dX2_subMod_37 (by decide) ?_
    exact fin _ _ _ _ _ _ (by decide) hW (⟨⟨rfl, rfl⟩, cInv_keep hc hf2 (fun r hr => by simp at hr; omega), M, _, cAbs_up ha hf2 (fun r hr => by simp at hr; omega) hv2, Or.inl ⟨d1, y, z, _, hd1, hy, hz, ed1, ey, ez, h0, rfl, rfl, rfl⟩, rfl, rfl⟩) dX2_subMod_38
  · have hno : ¬ (σ.rd = 1 ∧ isR d g.n ∧ isR a g.n ∧ isR b g.n) := er1.elim (fun z => absurd (z.1.symm.trans c1) (by decide)) (fun z => z.2)
    refine lv_iconst (v := 0) hx hb dX2_subMod_10 (by decide) ?_
    exact fin _ _ _ _ _ _ (by decide) hW (⟨⟨rfl, rfl⟩, hc, M, X, ha, ⟨Or.inr ⟨hno, rfl, rfl⟩, rfl, rfl⟩⟩) dX2_subMod_11
set_option maxHeartbeats 4000000 in
set_option maxRecDepth 100000 in
/-- mulMod(d, a, b) -/
theorem m_mulMod (l : Launch) (g : qCfg) (hg : g.ok) (σ : qSt) (hc : cInv g σ) {M : Nat} {X : Nat → Nat} (ha : cAbs g σ M X) (d a b : Int32) : qCI l g yX2_mulMod wsX2_mulMod 4 98 [.ref (g.P 0), .int d, .int a, .int b] σ (cPost g σ (sReg g.n pMul d a b M X σ.rd)) := by
  refine q_sZ (cc := cX2_mulMod) (maxL := 4) (by decide) rfl (Nat.le_of_ble_eq_true rfl) ?_
  intro p e s m args below meth c ls Q S hW hl fin
  obtain ⟨hx, hb, hml, hown, hts, hr, hlocks⟩ := id S
  obtain ⟨hk1, hk8, hn1, hn8⟩ := id hg
  have hl : lv_has ls 4 [(0, .ref (g.P 0)), (1, .int d), (2, .int a), (3, .int b)] := hl
  refine lv_aload_n hx hb dX2_mulMod_0 rfl (lv_at hl 0 rfl) ?_
  refine lv_iload_n hx hb dX2_mulMod_1 rfl (lv_at hl 1 rfl) ?_
  refine lv_iload_n hx hb dX2_mulMod_2 rfl (lv_at hl 2 rfl) ?_
  refine lv_iload_n hx hb dX2_mulMod_3 rfl (lv_at hl 3 rfl) ?_
  refine q_i (q_runV (As := [.int d, .int a, .int b]) (rest := []) (i := 0) S hW (by decide) rfl rfl (m_canWork l g hg σ hc.2.1 d a b) gX2_mulMod_X2_canWork rfl (nA := 3) ⟨rfl, by decide +kernel, ⟨by decide, by decide⟩⟩ rfl hl.1 rfl (Nat.le_of_ble_eq_true rfl) dX2_mulMod_4 ⟨Nat.zero_le _, Nat.zero_le _⟩) hW Ad_hi (fun r_4 σ1 H locs hp hW => ?_)
  obtain ⟨e1, er1⟩ : σ1 = σ ∧ (r_4 = 1 ∧ (σ.rd = 1 ∧ isR d g.n ∧ isR a g.n ∧ isR b g.n) ∨ r_4 = 0 ∧ ¬ (σ.rd = 1 ∧ isR d g.n ∧ isR a g.n ∧ isR b g.n)) := hp
  rw [e1] at hW
  refine lv_if_ne (tgt := 12) hx hb dX2_mulMod_7 (by decide) (fun c1 => ?_) (fun c1 => ?_)
  · obtain ⟨h0, ⟨d1, hd1, ed1⟩, ⟨y, hy, ey⟩, ⟨z, hz, ez⟩⟩ : (σ.rd = 1 ∧ isR d g.n ∧ isR a g.n ∧ isR b g.n) := er1.elim (fun z => z.2) (fun z => absurd z.1 c1)
    have p0 := hc.2.2 h0
    refine lv_aload_n hx hb dX2_mulMod_12 rfl (lv_at hl 0 rfl) ?_
    refine q_get (C := RX2) (T := TX2) (v := .ref (g.P 1)) hx hb hts hown (fun _ h9 => iw_X2_mulMod_X2 _ h9) hW (i := 0) (by decide) rfl rfl 3 (by decide) (hts (.fieldLink RX2 35 "ModEngine" "ring" "LModEngine$Ring;") (by decide +kernel)) rfl dX2_mulMod_13 ?_
    refine lv_aload_n hx hb dX2_mulMod_16 rfl (lv_at hl 0 rfl) ?_
    refine q_get (C := RX2) (T := TX2) (v := .ref (g.P 2)) hx hb hts hown (fun _ h9 => iw_X2_mulMod_X2 _ h9) hW (i := 0) (by decide) rfl rfl 2 (by decide) (hts (.fieldLink RX2 27 "ModEngine" "registers" "[[I") (by decide +kernel)) rfl dX2_mulMod_17 ?_
    refine lv_iload_n hx hb dX2_mulMod_20 rfl (lv_at hl 1 rfl) ?_
    refine q_regs hx hb hW (j := d1) (by omega) hn8 ed1 dX2_mulMod_21 ?_
    refine lv_aload_n hx hb dX2_mulMod_22 rfl (lv_at hl 0 rfl) ?_
    refine q_get (C := RX2) (T := TX2) (v := .ref (g.P 2)) hx hb hts hown (fun _ h9 => iw_X2_mulMod_X2 _ h9) hW (i := 0) (by decide) rfl rfl 2 (by decide) (hts (.fieldLink RX2 27 "ModEngine" "registers" "[[I") (by decide +kernel)) rfl dX2_mulMod_23 ?_
    refine lv_iload_n hx hb dX2_mulMod_26 rfl (lv_at hl 2 rfl) ?_
    refine q_regs hx hb hW (j := y) (by omega) hn8 ey dX2_mulMod_27 ?_
    refine lv_aload_n hx hb dX2_mulMod_28 rfl (lv_at hl 0 rfl) ?_
    refine q_get (C := RX2) (T := TX2) (v := .ref (g.P 2)) hx hb hts hown (fun _ h9 => iw_X2_mulMod_X2 _ h9) hW (i := 0) (by decide) rfl rfl 2 (by decide) (hts (.fieldLink RX2 27 "ModEngine" "registers" "[[I") (by decide +kernel)) rfl dX2_mulMod_29 ?_
    refine lv_iload_n hx hb dX2_mulMod_32 rfl (lv_at hl 3 rfl) ?_
    refine q_regs hx hb hW (j := z) (by omega) hn8 ez dX2_mulMod_33 ?_
    refine q_v (q_runV (As := [.ref (g.P (21 + d1)), .ref (g.P (21 + y)), .ref (g.P (21 + z))]) (rest := []) (i := 1) S hW (by decide) rfl rfl (r_product l g hg σ (rowr hd1) (rowr hy) (rowr hz) (by omega) (by omega) (by omega) p0) gX2_mulMod_X1_product rfl (nA := 3) ⟨rfl, by decide +kernel, ⟨by decide, by decide⟩⟩ rfl hl.1 rfl (Nat.le_of_ble_eq_true rfl) dX2_mulMod_34 ⟨Nat.zero_le _, Nat.zero_le _⟩) hW Ad_hi (fun σ2 H locs hp hW => ?_)
    obtain ⟨F2, e2, hf2, hv2⟩ : ∃ F', σ2 = σ.setF F' ∧ Fr σ.F F' [16, 17, 21 + d1] ∧ qV g F' (21 + d1) = qV g σ.F (21 + y) * qV g σ.F (21 + z) % qV g σ.F 12 := hp
    rw [e2] at hW
    rw [ha.1, ha.2 y hy, ha.2 z hz] at hv2
    refine lv_iconst (v := 1) hx hb dX2_mulMod_37 (by decide) ?_
    exact fin _ _ _ _ _ _ (by decide) hW (⟨⟨rfl, rfl⟩, cInv_keep hc hf2 (fun r hr => by simp at hr; omega), M, _, cAbs_up ha hf2 (fun r hr => by simp at hr; omega) hv2, Or.inl ⟨d1, y, z, _, hd1, hy, hz, ed1, ey, ez, h0, rfl, rfl, rfl⟩, rfl, rfl⟩) dX2_mulMod_38
  · have hno : ¬ (σ.rd = 1 ∧ isR d g.n ∧ isR a g.n ∧ isR b g.n) := er1.elim (fun z => absurd (z.1.symm.trans c1) (by decide)) (fun z => z.2)
    refine lv_iconst (v := 0) hx hb dX2_mulMod_10 (by decide) ?_
    exact fin _ _ _ _ _ _ (by decide) hW (⟨⟨rfl, rfl⟩, hc, M, X, ha, ⟨Or.inr ⟨hno, rfl, rfl⟩, rfl, rfl⟩⟩) dX2_mulMod_11
set_option maxHeartbeats 4000000 in
set_option maxRecDepth 100000 in
/-- montMod(d, a, b) -/
theorem m_montMod (l : Launch) (g : qCfg) (hg : g.ok) (σ : qSt) (hc : cInv g σ) {M : Nat} {X : Nat → Nat} (ha : cAbs g σ M X) (d a b : Int32) : qCI l g yX2_montMod wsX2_montMod 5 121 [.ref (g.P 0), .int d, .int a, .int b] σ (cPost g σ (sReg g.n (pMon g.k) d a b M X σ.rd)) := by
  refine q_sZ (cc := cX2_montMod) (maxL := 4) (by decide) rfl (Nat.le_of_ble_eq_true rfl) ?_
  intro p e s m args below meth c ls Q S hW hl fin
  obtain ⟨hx, hb, hml, hown, hts, hr, hlocks⟩ := id S
  obtain ⟨hk1, hk8, hn1, hn8⟩ := id hg
  have hl : lv_has ls 4 [(0, .ref (g.P 0)), (1, .int d), (2, .int a), (3, .int b)] := hl
  refine lv_aload_n hx hb dX2_montMod_0 rfl (lv_at hl 0 rfl) ?_
  refine lv_iload_n hx hb dX2_montMod_1 rfl (lv_at hl 1 rfl) ?_
  refine lv_iload_n hx hb dX2_montMod_2 rfl (lv_at hl 2 rfl) ?_
  refine lv_iload_n hx hb dX2_montMod_3 rfl (lv_at hl 3 rfl) ?_
  refine q_i (q_runV (As := [.int d, .int a, .int b]) (rest := []) (i := 0) S hW (by decide) rfl rfl (m_canWork l g hg σ hc.2.1 d a b) gX2_montMod_X2_canWork rfl (nA := 3) ⟨rfl, by decide +kernel, ⟨by decide, by decide⟩⟩ rfl hl.1 rfl (Nat.le_of_ble_eq_true rfl) dX2_montMod_4 ⟨Nat.zero_le _, Nat.zero_le _⟩) hW Ad_hi (fun r_4 σ1 H locs hp hW => ?_)
  obtain ⟨e1, er1⟩ : σ1 = σ ∧ (r_4 = 1 ∧ (σ.rd = 1 ∧ isR d g.n ∧ isR a g.n ∧ isR b g.n) ∨ r_4 = 0 ∧ ¬ (σ.rd = 1 ∧ isR d g.n ∧ isR a g.n ∧ isR b g.n)) := hp
  rw [e1] at hW
  refine lv_if_ne (tgt := 12) hx hb dX2_montMod_7 (by decide) (fun c1 => ?_) (fun c1 => ?_)
  · obtain ⟨h0, ⟨d1, hd1, ed1⟩, ⟨y, hy, ey⟩, ⟨z, hz, ez⟩⟩ : (σ.rd = 1 ∧ isR d g.n ∧ isR a g.n ∧ isR b g.n) := er1.elim (fun z => z.2) (fun z => absurd z.1 c1)
    have p0 := hc.2.2 h0
    refine lv_aload_n hx hb dX2_montMod_12 rfl (lv_at hl 0 rfl) ?_
    refine q_get (C := RX2) (T := TX2) (v := .ref (g.P 1)) hx hb hts hown (fun _ h9 => iw_X2_montMod_X2 _ h9) hW (i := 0) (by decide) rfl rfl 3 (by decide) (hts (.fieldLink RX2 35 "ModEngine" "ring" "LModEngine$Ring;") (by decide +kernel)) rfl dX2_montMod_13 ?_
    refine lv_aload_n hx hb dX2_montMod_16 rfl (lv_at hl 0 rfl) ?_
    refine q_get (C := RX2) (T := TX2) (v := .ref (g.P 2)) hx hb hts hown (fun _ h9 => iw_X2_montMod_X2 _ h9) hW (i := 0) (by decide) rfl rfl 2 (by decide) (hts (.fieldLink RX2 27 "ModEngine" "registers" "[[I") (by decide +kernel)) rfl dX2_montMod_17 ?_
    refine lv_iload_n hx hb dX2_montMod_20 rfl (lv_at hl 1 rfl) ?_
    refine q_regs hx hb hW (j := d1) (by omega) hn8 ed1 dX2_montMod_21 ?_
    refine lv_aload_n hx hb dX2_montMod_22 rfl (lv_at hl 0 rfl) ?_
    refine q_get (C := RX2) (T := TX2) (v := .ref (g.P 2)) hx hb hts hown (fun _ h9 => iw_X2_montMod_X2 _ h9) hW (i := 0) (by decide) rfl rfl 2 (by decide) (hts (.fieldLink RX2 27 "ModEngine" "registers" "[[I") (by decide +kernel)) rfl dX2_montMod_23 ?_
    refine lv_iload_n hx hb dX2_montMod_26 rfl (lv_at hl 2 rfl) ?_
    refine q_regs hx hb hW (j := y) (by omega) hn8 ey dX2_montMod_27 ?_
    refine lv_aload_n hx hb dX2_montMod_28 rfl (lv_at hl 0 rfl) ?_
    refine q_get (C := RX2) (T := TX2) (v := .ref (g.P 2)) hx hb hts hown (fun _ h9 => iw_X2_montMod_X2 _ h9) hW (i := 0) (by decide) rfl rfl 2 (by decide) (hts (.fieldLink RX2 27 "ModEngine" "registers" "[[I") (by decide +kernel)) rfl dX2_montMod_29 ?_
    refine lv_iload_n hx hb dX2_montMod_32 rfl (lv_at hl 3 rfl) ?_
    refine q_regs hx hb hW (j := z) (by omega) hn8 ez dX2_montMod_33 ?_
    refine q_v (q_runV (As := [.ref (g.P (21 + d1)), .ref (g.P (21 + y)), .ref (g.P (21 + z))]) (rest := []) (i := 1) S hW (by decide) rfl rfl (r_productByR l g hg σ (rowr hd1) (rowr hy) (rowr hz) (by omega) (by omega) (by omega) p0) gX2_montMod_X1_productByR rfl (nA := 3) ⟨rfl, by decide +kernel, ⟨by decide, by decide⟩⟩ rfl hl.1 rfl (Nat.le_of_ble_eq_true rfl) dX2_montMod_34 ⟨Nat.zero_le _, Nat.zero_le _⟩) hW Ad_hi (fun σ2 H locs hp hW => ?_)
    obtain ⟨F2, e2, hf2, hl2, hv2⟩ : ∃ F', σ2 = σ.setF F' ∧ Fr σ.F F' [16, 17, 21 + d1] ∧ qV g F' (21 + d1) < qV g σ.F 12 ∧ qV g F' (21 + d1) * 2 ^ (32 * g.k) % qV g σ.F 12 = qV g σ.F (21 + y) * qV g σ.F (21 + z) % qV g σ.F 12 := hp
    rw [e2] at hW
    rw [ha.1, ha.2 y hy, ha.2 z hz] at hv2
    rw [ha.1] at hl2
    refine lv_iconst (v := 1) hx hb dX2_montMod_37 (by decide) ?_
    exact fin _ _ _ _ _ _ (by decide) hW (⟨⟨rfl, rfl⟩, cInv_keep hc hf2 (fun r hr => by simp at hr; omega), M, _, cAbs_up ha hf2 (fun r hr => by simp at hr; omega) rfl, Or.inl ⟨d1, y, z, qV g F2 (21 + d1), hd1, hy, hz, ed1, ey, ez, h0, rfl, ⟨by rw [← ha.1]; exact p0.1, hl2, hv2⟩, rfl⟩, rfl, rfl⟩) dX2_montMod_38
  · have hno : ¬ (σ.rd = 1 ∧ isR d g.n ∧ isR a g.n ∧ isR b g.n) := er1.elim (fun z => absurd (z.1.symm.trans c1) (by decide)) (fun z => z.2)
    refine lv_iconst (v := 0) hx hb dX2_montMod_10 (by decide) ?_
    exact fin _ _ _ _ _ _ (by decide) hW (⟨⟨rfl, rfl⟩, hc, M, X, ha, ⟨Or.inr ⟨hno, rfl, rfl⟩, rfl, rfl⟩⟩) dX2_montMod_11
set_option maxHeartbeats 4000000 in
set_option maxRecDepth 100000 in
/-- powMod(d, a, b) -/
theorem m_powMod (l : Launch) (g : qCfg) (hg : g.ok) (σ : qSt) (hc : cInv g σ) {M : Nat} {X : Nat → Nat} (ha : cAbs g σ M X) (d a b : Int32) : qCI l g yX2_powMod wsX2_powMod 5 123 [.ref (g.P 0), .int d, .int a, .int b] σ (cPost g σ (sReg g.n pPow d a b M X σ.rd)) := by
  refine q_sZ (cc := cX2_powMod) (maxL := 4) (by decide) rfl (Nat.le_of_ble_eq_true rfl) ?_
  intro p e s m args below meth c ls Q S hW hl fin
  obtain ⟨hx, hb, hml, hown, hts, hr, hlocks⟩ := id S
  obtain ⟨hk1, hk8, hn1, hn8⟩ := id hg
  have hl : lv_has ls 4 [(0, .ref (g.P 0)), (1, .int d), (2, .int a), (3, .int b)] := hl
  refine lv_aload_n hx hb dX2_powMod_0 rfl (lv_at hl 0 rfl) ?_
  refine lv_iload_n hx hb dX2_powMod_1 rfl (lv_at hl 1 rfl) ?_
  refine lv_iload_n hx hb dX2_powMod_2 rfl (lv_at hl 2 rfl) ?_
  refine lv_iload_n hx hb dX2_powMod_3 rfl (lv_at hl 3 rfl) ?_
  refine q_i (q_runV (As := [.int d, .int a, .int b]) (rest := []) (i := 0) S hW (by decide) rfl rfl (m_canWork l g hg σ hc.2.1 d a b) gX2_powMod_X2_canWork rfl (nA := 3) ⟨rfl, by decide +kernel, ⟨by decide, by decide⟩⟩ rfl hl.1 rfl (Nat.le_of_ble_eq_true rfl) dX2_powMod_4 ⟨Nat.zero_le _, Nat.zero_le _⟩) hW Ad_hi (fun r_4 σ1 H locs hp hW => ?_)
  obtain ⟨e1, er1⟩ : σ1 = σ ∧ (r_4 = 1 ∧ (σ.rd = 1 ∧ isR d g.n ∧ isR a g.n ∧ isR b g.n) ∨ r_4 = 0 ∧ ¬ (σ.rd = 1 ∧ isR d g.n ∧ isR a g.n ∧ isR b g.n)) := hp
  rw [e1] at hW
  refine lv_if_ne (tgt := 12) hx hb dX2_powMod_7 (by decide) (fun c1 => ?_) (fun c1 => ?_)
  · obtain ⟨h0, ⟨d1, hd1, ed1⟩, ⟨y, hy, ey⟩, ⟨z, hz, ez⟩⟩ : (σ.rd = 1 ∧ isR d g.n ∧ isR a g.n ∧ isR b g.n) := er1.elim (fun z => z.2) (fun z => absurd z.1 c1)
    have p0 := hc.2.2 h0
    refine lv_aload_n hx hb dX2_powMod_12 rfl (lv_at hl 0 rfl) ?_
    refine q_get (C := RX2) (T := TX2) (v := .ref (g.P 1)) hx hb hts hown (fun _ h9 => iw_X2_powMod_X2 _ h9) hW (i := 0) (by decide) rfl rfl 3 (by decide) (hts (.fieldLink RX2 35 "ModEngine" "ring" "LModEngine$Ring;") (by decide +kernel)) rfl dX2_powMod_13 ?_
    refine lv_aload_n hx hb dX2_powMod_16 rfl (lv_at hl 0 rfl) ?_
    refine q_get (C := RX2) (T := TX2) (v := .ref (g.P 2)) hx hb hts hown (fun _ h9 => iw_X2_powMod_X2 _ h9) hW (i := 0) (by decide) rfl rfl 2 (by decide) (hts (.fieldLink RX2 27 "ModEngine" "registers" "[[I") (by decide +kernel)) rfl dX2_powMod_17 ?_
    refine lv_iload_n hx hb dX2_powMod_20 rfl (lv_at hl 1 rfl) ?_
    refine q_regs hx hb hW (j := d1) (by omega) hn8 ed1 dX2_powMod_21 ?_
    refine lv_aload_n hx hb dX2_powMod_22 rfl (lv_at hl 0 rfl) ?_
    refine q_get (C := RX2) (T := TX2) (v := .ref (g.P 2)) hx hb hts hown (fun _ h9 => iw_X2_powMod_X2 _ h9) hW (i := 0) (by decide) rfl rfl 2 (by decide) (hts (.fieldLink RX2 27 "ModEngine" "registers" "[[I") (by decide +kernel)) rfl dX2_powMod_23 ?_
    refine lv_iload_n hx hb dX2_powMod_26 rfl (lv_at hl 2 rfl) ?_
    refine q_regs hx hb hW (j := y) (by omega) hn8 ey dX2_powMod_27 ?_
    refine lv_aload_n hx hb dX2_powMod_28 rfl (lv_at hl 0 rfl) ?_
    refine q_get (C := RX2) (T := TX2) (v := .ref (g.P 2)) hx hb hts hown (fun _ h9 => iw_X2_powMod_X2 _ h9) hW (i := 0) (by decide) rfl rfl 2 (by decide) (hts (.fieldLink RX2 27 "ModEngine" "registers" "[[I") (by decide +kernel)) rfl dX2_powMod_29 ?_
    refine lv_iload_n hx hb dX2_powMod_32 rfl (lv_at hl 3 rfl) ?_
    refine q_regs hx hb hW (j := z) (by omega) hn8 ez dX2_powMod_33 ?_
    refine q_v (q_runV (As := [.ref (g.P (21 + d1)), .ref (g.P (21 + y)), .ref (g.P (21 + z))]) (rest := []) (i := 1) S hW (by decide) rfl rfl (r_power l g hg σ (rowr hd1) (rowr hy) (rowr hz) (by omega) (by omega) (by omega) p0) gX2_powMod_X1_power rfl (nA := 3) ⟨rfl, by decide +kernel, ⟨by decide, by decide⟩⟩ rfl hl.1 rfl (Nat.le_of_ble_eq_true rfl) dX2_powMod_34 ⟨Nat.zero_le _, Nat.zero_le _⟩) hW Ad_hi (fun σ2 H locs hp hW => ?_)
    obtain ⟨F2, e2, hf2, hv2⟩ : ∃ F', σ2 = σ.setF F' ∧ Fr σ.F F' [16, 17, 18, 21 + d1] ∧ qV g F' (21 + d1) = qV g σ.F (21 + y) ^ qV g σ.F (21 + z) % qV g σ.F 12 := hp
    rw [e2] at hW
    rw [ha.1, ha.2 y hy, ha.2 z hz] at hv2
    refine lv_iconst (v := 1) hx hb dX2_powMod_37 (by decide) ?_
    exact fin _ _ _ _ _ _ (by decide) hW (⟨⟨rfl, rfl⟩, cInv_keep hc hf2 (fun r hr => by simp at hr; omega), M, _, cAbs_up ha hf2 (fun r hr => by simp at hr; omega) hv2, Or.inl ⟨d1, y, z, _, hd1, hy, hz, ed1, ey, ez, h0, rfl, rfl, rfl⟩, rfl, rfl⟩) dX2_powMod_38
  · have hno : ¬ (σ.rd = 1 ∧ isR d g.n ∧ isR a g.n ∧ isR b g.n) := er1.elim (fun z => absurd (z.1.symm.trans c1) (by decide)) (fun z => z.2)
    refine lv_iconst (v := 0) hx hb dX2_powMod_10 (by decide) ?_
    exact fin _ _ _ _ _ _ (by decide) hW (⟨⟨rfl, rfl⟩, hc, M, X, ha, ⟨Or.inr ⟨hno, rfl, rfl⟩, rfl, rfl⟩⟩) dX2_powMod_11
set_option maxHeartbeats 4000000 in
set_option maxRecDepth 100000 in
/-- invMod(d, a) -/
theorem m_invMod (l : Launch) (g : qCfg) (hg : g.ok) (σ : qSt) (hc : cInv g σ) {M : Nat} {X : Nat → Nat} (ha : cAbs g σ M X) (d a : Int32) : qCI l g yX2_invMod wsX2_invMod 5 121 [.ref (g.P 0), .int d, .int a] σ (cPost g σ (sInv g.n d a M X σ.rd)) := by
  refine q_sI (cc := cX2_invMod) (maxL := 3) (by decide) rfl (Nat.le_of_ble_eq_true rfl) ?_
  intro p e s m args below meth c ls Q S hW hl fin
  obtain ⟨hx, hb, hml, hown, hts, hr, hlocks⟩ := id S
  obtain ⟨hk1, hk8, hn1, hn8⟩ := id hg
  have hl : lv_has ls 3 [(0, .ref (g.P 0)), (1, .int d), (2, .int a)] := hl
  refine lv_aload_n hx hb dX2_invMod_0 rfl (lv_at hl 0 rfl) ?_
  refine lv_iload_n hx hb dX2_invMod_1 rfl (lv_at hl 1 rfl) ?_
  refine lv_iload_n hx hb dX2_invMod_2 rfl (lv_at hl 2 rfl) ?_
  refine lv_iload_n hx hb dX2_invMod_3 rfl (lv_at hl 2 rfl) ?_
  refine q_i (q_runV (As := [.int d, .int a, .int a]) (rest := []) (i := 0) S hW (by decide) rfl rfl (m_canWork l g hg σ hc.2.1 d a a) gX2_invMod_X2_canWork rfl (nA := 3) ⟨rfl, by decide +kernel, ⟨by decide, by decide⟩⟩ rfl hl.1 rfl (Nat.le_of_ble_eq_true rfl) dX2_invMod_4 ⟨Nat.zero_le _, Nat.zero_le _⟩) hW Ad_hi (fun r_4 σ1 H locs hp hW => ?_)
  obtain ⟨e1, er1⟩ : σ1 = σ ∧ (r_4 = 1 ∧ (σ.rd = 1 ∧ isR d g.n ∧ isR a g.n ∧ isR a g.n) ∨ r_4 = 0 ∧ ¬ (σ.rd = 1 ∧ isR d g.n ∧ isR a g.n ∧ isR a g.n)) := hp
  rw [e1] at hW
  refine lv_if_ne (tgt := 12) hx hb dX2_invMod_7 (by decide) (fun c1 => ?_) (fun c1 => ?_)
  · obtain ⟨h0, ⟨d1, hd1, ed1⟩, ⟨y, hy, ey⟩, -⟩ : (σ.rd = 1 ∧ isR d g.n ∧ isR a g.n ∧ isR a g.n) := er1.elim (fun z => z.2) (fun z => absurd z.1 c1)
    have p0 := hc.2.2 h0
    refine lv_aload_n hx hb dX2_invMod_12 rfl (lv_at hl 0 rfl) ?_
    refine q_get (C := RX2) (T := TX2) (v := .ref (g.P 1)) hx hb hts hown (fun _ h9 => iw_X2_invMod_X2 _ h9) hW (i := 0) (by decide) rfl rfl 3 (by decide) (hts (.fieldLink RX2 35 "ModEngine" "ring" "LModEngine$Ring;") (by decide +kernel)) rfl dX2_invMod_13 ?_
    refine lv_aload_n hx hb dX2_invMod_16 rfl (lv_at hl 0 rfl) ?_
    refine q_get (C := RX2) (T := TX2) (v := .ref (g.P 2)) hx hb hts hown (fun _ h9 => iw_X2_invMod_X2 _ h9) hW (i := 0) (by decide) rfl rfl 2 (by decide) (hts (.fieldLink RX2 27 "ModEngine" "registers" "[[I") (by decide +kernel)) rfl dX2_invMod_17 ?_
    refine lv_iload_n hx hb dX2_invMod_20 rfl (lv_at hl 1 rfl) ?_
    refine q_regs hx hb hW (j := d1) (by omega) hn8 ed1 dX2_invMod_21 ?_
    refine lv_aload_n hx hb dX2_invMod_22 rfl (lv_at hl 0 rfl) ?_
    refine q_get (C := RX2) (T := TX2) (v := .ref (g.P 2)) hx hb hts hown (fun _ h9 => iw_X2_invMod_X2 _ h9) hW (i := 0) (by decide) rfl rfl 2 (by decide) (hts (.fieldLink RX2 27 "ModEngine" "registers" "[[I") (by decide +kernel)) rfl dX2_invMod_23 ?_
    refine lv_iload_n hx hb dX2_invMod_26 rfl (lv_at hl 2 rfl) ?_
    refine q_regs hx hb hW (j := y) (by omega) hn8 ey dX2_invMod_27 ?_
    refine q_i (q_runV (As := [.ref (g.P (21 + d1)), .ref (g.P (21 + y))]) (rest := []) (i := 1) S hW (by decide) rfl rfl (r_invert l g hg σ (rowr hd1) (rowr hy) (by omega) (by omega) p0) gX2_invMod_X1_invert rfl (nA := 2) ⟨rfl, by decide +kernel, ⟨by decide, by decide⟩⟩ rfl hl.1 rfl (Nat.le_of_ble_eq_true rfl) dX2_invMod_28 ⟨Nat.zero_le _, Nat.zero_le _⟩) hW Ad_hi (fun r_28 σ2 H locs hp hW => ?_)
    obtain ⟨F2, e2, hcase⟩ := hp
    rw [e2] at hW
    rw [ha.1, ha.2 y hy] at hcase
    refine lv_if_eq (tgt := 38) hx hb dX2_invMod_31 (by decide) (fun c2 => ?_) (fun c2 => ?_)
    · obtain ⟨hg0, hf2⟩ := (hcase.resolve_left (fun z => absurd (z.1.symm.trans c2) (by decide))).2
      refine lv_iconst (v := 1) hx hb dX2_invMod_38 (by decide) ?_
      exact fin _ _ _ _ _ _ hW (⟨⟨rfl, rfl⟩, cInv_keep hc hf2 (by decide), M, X, cAbs_keep ha hf2 (by decide), Or.inl ⟨d1, y, hd1, hy, ed1, ey, h0, Or.inr ⟨rfl, hg0, rfl⟩⟩, rfl, rfl⟩) dX2_invMod_39
    · obtain ⟨hg0, hf2, hl2, hv2⟩ := (hcase.resolve_right (fun z => absurd z.1 c2)).2
      refine lv_iconst (v := 0) hx hb dX2_invMod_34 (by decide) ?_
      refine lv_goto (tgt := 39) hx hb dX2_invMod_35 (by decide) ?_
      exact fin _ _ _ _ _ _ hW (⟨⟨rfl, rfl⟩, cInv_keep hc hf2 (fun r hr => by simp at hr; omega), M, _, cAbs_up ha hf2 (fun r hr => by simp at hr; omega) rfl, Or.inl ⟨d1, y, hd1, hy, ed1, ey, h0, Or.inl ⟨_, rfl, hg0, by omega, hl2, hv2, rfl⟩⟩, rfl, rfl⟩) dX2_invMod_39
  · have hno : ¬ (σ.rd = 1 ∧ isR d g.n ∧ isR a g.n ∧ isR a g.n) := er1.elim (fun z => absurd (z.1.symm.trans c1) (by decide)) (fun z => z.2)
    refine lv_iconst (v := 2) hx hb dX2_invMod_10 (by decide) ?_
    exact fin _ _ _ _ _ _ hW (⟨⟨rfl, rfl⟩, hc, M, X, ha, ⟨Or.inr ⟨fun q => hno ⟨q.1, q.2.1, q.2.2, q.2.2⟩, rfl, rfl⟩, rfl, rfl⟩⟩) dX2_invMod_11
set_option maxHeartbeats 4000000 in
set_option maxRecDepth 100000 in
/-- witness(a) -/
theorem m_witness (l : Launch) (g : qCfg) (hg : g.ok) (σ : qSt) (hc : cInv g σ) {M : Nat} {X : Nat → Nat} (ha : cAbs g σ M X) (d : Int32) : qCI l g yX2_witness wsX2_witness 5 124 [.ref (g.P 0), .int d] σ (cPost g σ (sWit g.n d M X σ.rd)) := by
  refine q_sI (cc := cX2_witness) (maxL := 2) (by decide) rfl (Nat.le_of_ble_eq_true rfl) ?_
  intro p e s m args below meth c ls Q S hW hl fin
  obtain ⟨hx, hb, hml, hown, hts, hr, hlocks⟩ := id S
  obtain ⟨hk1, hk8, hn1, hn8⟩ := id hg
  have hl : lv_has ls 2 [(0, .ref (g.P 0)), (1, .int d)] := hl
  refine lv_aload_n hx hb dX2_witness_0 rfl (lv_at hl 0 rfl) ?_
  refine q_get (C := RX2) (T := TX2) (v := .int σ.rd) hx hb hts hown (fun _ h9 => iw_X2_witness_X2 _ h9) hW (i := 0) (by decide) rfl rfl 4 (by decide) (hts (.fieldLink RX2 39 "ModEngine" "isReady" "Z") (by decide +kernel)) rfl dX2_witness_1 ?_
  refine lv_if_eq (tgt := 15) hx hb dX2_witness_4 (by decide) (fun c0 => ?_) (fun c0 => ?_)
  · refine lv_iconst (v := 2) hx hb dX2_witness_15 (by decide) ?_
    exact fin _ _ _ _ _ _ hW (⟨⟨rfl, rfl⟩, hc, M, X, ha, ⟨Or.inr ⟨fun q => absurd (c0.symm.trans q.1) (by decide), rfl⟩, rfl, rfl, rfl⟩⟩) dX2_witness_16
  · have h0 : σ.rd = 1 := hc.2.1.resolve_left c0
    have p0 := hc.2.2 h0
    refine lv_aload_n hx hb dX2_witness_7 rfl (lv_at hl 0 rfl) ?_
    refine lv_iload_n hx hb dX2_witness_8 rfl (lv_at hl 1 rfl) ?_
    refine q_i (q_runV (As := [.int d]) (rest := []) (i := 0) S hW (by decide) rfl rfl (m_hasRegister l g hg σ d) gX2_witness_X2_hasRegister rfl (nA := 1) ⟨rfl, by decide +kernel, ⟨by decide, by decide⟩⟩ rfl hl.1 rfl (Nat.le_of_ble_eq_true rfl) dX2_witness_9 ⟨Nat.zero_le _, Nat.zero_le _⟩) hW Ad_hi (fun r_9 σ1 H locs hp hW => ?_)
    obtain ⟨e1, er1⟩ : σ1 = σ ∧ (r_9 = 1 ∧ isR d g.n ∨ r_9 = 0 ∧ ¬ isR d g.n) := hp
    rw [e1] at hW
    refine lv_if_ne (tgt := 17) hx hb dX2_witness_12 (by decide) (fun c1 => ?_) (fun c1 => ?_)
    · obtain ⟨y, hy, ey⟩ : isR d g.n := er1.elim (fun z => z.2) (fun z => absurd z.1 c1)
      refine lv_aload_n hx hb dX2_witness_17 rfl (lv_at hl 0 rfl) ?_
      refine q_get (C := RX2) (T := TX2) (v := .ref (g.P 1)) hx hb hts hown (fun _ h9 => iw_X2_witness_X2 _ h9) hW (i := 0) (by decide) rfl rfl 3 (by decide) (hts (.fieldLink RX2 35 "ModEngine" "ring" "LModEngine$Ring;") (by decide +kernel)) rfl dX2_witness_18 ?_
      refine lv_aload_n hx hb dX2_witness_21 rfl (lv_at hl 0 rfl) ?_
      refine q_get (C := RX2) (T := TX2) (v := .ref (g.P 2)) hx hb hts hown (fun _ h9 => iw_X2_witness_X2 _ h9) hW (i := 0) (by decide) rfl rfl 2 (by decide) (hts (.fieldLink RX2 27 "ModEngine" "registers" "[[I") (by decide +kernel)) rfl dX2_witness_22 ?_
      refine lv_iload_n hx hb dX2_witness_25 rfl (lv_at hl 1 rfl) ?_
      refine q_regs hx hb hW (j := y) (by omega) hn8 ey dX2_witness_26 ?_
      refine q_i (q_runV (As := [.ref (g.P (21 + y))]) (rest := []) (i := 1) S hW (by decide) rfl rfl (r_witness l g hg σ (rowr hy) (by omega) p0) gX2_witness_X1_isProvedCompositeBy rfl (nA := 1) ⟨rfl, by decide +kernel, ⟨by decide, by decide⟩⟩ rfl hl.1 rfl (Nat.le_of_ble_eq_true rfl) dX2_witness_27 ⟨Nat.zero_le _, Nat.zero_le _⟩) hW Ad_hi (fun r_27 σ2 H locs hp hW => ?_)
      obtain ⟨F2, e2, hf2, u, htw, hcase⟩ := hp
      rw [e2] at hW
      rw [ha.1, ha.2 y hy] at hcase
      rw [ha.1] at htw
      refine lv_if_eq (tgt := 37) hx hb dX2_witness_30 (by decide) (fun c2 => ?_) (fun c2 => ?_)
      · have hw := (hcase.resolve_left (fun z => absurd (z.1.symm.trans c2) (by decide))).2
        refine lv_iconst (v := 0) hx hb dX2_witness_37 (by decide) ?_
        exact fin _ _ _ _ _ _ hW (⟨⟨rfl, rfl⟩, cInv_keep hc hf2 (by decide), M, X, cAbs_keep ha hf2 (by decide), Or.inl ⟨y, u, hy, ey, h0, htw, Or.inr ⟨rfl, hw⟩⟩, rfl, rfl, rfl⟩) dX2_witness_38
      · have hw := (hcase.resolve_right (fun z => absurd z.1 c2)).2
        refine lv_iconst (v := 1) hx hb dX2_witness_33 (by decide) ?_
        refine lv_goto (tgt := 38) hx hb dX2_witness_34 (by decide) ?_
        exact fin _ _ _ _ _ _ hW (⟨⟨rfl, rfl⟩, cInv_keep hc hf2 (by decide), M, X, cAbs_keep ha hf2 (by decide), Or.inl ⟨y, u, hy, ey, h0, htw, Or.inl ⟨rfl, hw⟩⟩, rfl, rfl, rfl⟩) dX2_witness_38
    · have hno : ¬ isR d g.n := er1.elim (fun z => absurd (z.1.symm.trans c1) (by decide)) (fun z => z.2)
      refine lv_iconst (v := 2) hx hb dX2_witness_15 (by decide) ?_
      exact fin _ _ _ _ _ _ hW (⟨⟨rfl, rfl⟩, hc, M, X, ha, ⟨Or.inr ⟨fun q => hno q.2, rfl⟩, rfl, rfl, rfl⟩⟩) dX2_witness_16
set_option maxHeartbeats 4000000 in
set_option maxRecDepth 100000 in
/-- compare(a, b) -/
theorem m_compare (l : Launch) (g : qCfg) (hg : g.ok) (σ : qSt) (hc : cInv g σ) {M : Nat} {X : Nat → Nat} (ha : cAbs g σ M X) (d a : Int32) : qCI l g yX2_compare wsX2_compare 1 23 [.ref (g.P 0), .int d, .int a] σ (cPost g σ (sCmp g.n d a M X σ.rd)) := by
  refine q_sI (cc := cX2_compare) (maxL := 3) (by decide) rfl (Nat.le_of_ble_eq_true rfl) ?_
  intro p e s m args below meth c ls Q S hW hl fin
  obtain ⟨hx, hb, hml, hown, hts, hr, hlocks⟩ := id S
  obtain ⟨hk1, hk8, hn1, hn8⟩ := id hg
  have hl : lv_has ls 3 [(0, .ref (g.P 0)), (1, .int d), (2, .int a)] := hl
  refine lv_aload_n hx hb dX2_compare_0 rfl (lv_at hl 0 rfl) ?_
  refine lv_iload_n hx hb dX2_compare_1 rfl (lv_at hl 1 rfl) ?_
  refine q_i (q_runV (As := [.int d]) (rest := []) (i := 0) S hW (by decide) rfl rfl (m_hasRegister l g hg σ d) gX2_compare_X2_hasRegister rfl (nA := 1) ⟨rfl, by decide +kernel, ⟨by decide, by decide⟩⟩ rfl hl.1 rfl (Nat.le_of_ble_eq_true rfl) dX2_compare_2 ⟨Nat.zero_le _, Nat.zero_le _⟩) hW Ad_hi (fun r_2 σ1 H locs hp hW => ?_)
  obtain ⟨e1, er1⟩ : σ1 = σ ∧ (r_2 = 1 ∧ isR d g.n ∨ r_2 = 0 ∧ ¬ isR d g.n) := hp
  rw [e1] at hW
  refine lv_if_eq (tgt := 16) hx hb dX2_compare_5 (by decide) (fun c1 => ?_) (fun c1 => ?_)
  · have hno : ¬ isR d g.n := er1.elim (fun z => absurd (z.1.symm.trans c1) (by decide)) (fun z => z.2)
    refine lv_iconst (v := 2) hx hb dX2_compare_16 (by decide) ?_
    exact fin _ _ _ _ _ _ hW (⟨⟨rfl, rfl⟩, hc, M, X, ha, ⟨Or.inr ⟨fun q => hno q.1, rfl⟩, rfl, rfl, rfl⟩⟩) dX2_compare_17
  · obtain ⟨y, hy, ey⟩ : isR d g.n := er1.elim (fun z => z.2) (fun z => absurd z.1 c1)
    refine lv_aload_n hx hb dX2_compare_8 rfl (lv_at hl 0 rfl) ?_
    refine lv_iload_n hx hb dX2_compare_9 rfl (lv_at hl 2 rfl) ?_
    refine q_i (q_runV (As := [.int a]) (rest := []) (i := 0) S hW (by decide) rfl rfl (m_hasRegister l g hg σ a) gX2_compare_X2_hasRegister rfl (nA := 1) ⟨rfl, by decide +kernel, ⟨by decide, by decide⟩⟩ rfl hl.1 rfl (Nat.le_of_ble_eq_true rfl) dX2_compare_10 ⟨Nat.zero_le _, Nat.zero_le _⟩) hW Ad_hi (fun r_10 σ2 H locs hp hW => ?_)
    obtain ⟨e2, er2⟩ : σ2 = σ ∧ (r_10 = 1 ∧ isR a g.n ∨ r_10 = 0 ∧ ¬ isR a g.n) := hp
    rw [e2] at hW
    refine lv_if_ne (tgt := 18) hx hb dX2_compare_13 (by decide) (fun c2 => ?_) (fun c2 => ?_)
    · obtain ⟨z, hz, ez⟩ : isR a g.n := er2.elim (fun z => z.2) (fun z => absurd z.1 c2)
      refine lv_aload_n hx hb dX2_compare_18 rfl (lv_at hl 0 rfl) ?_
      refine q_get (C := RX2) (T := TX2) (v := .ref (g.P 2)) hx hb hts hown (fun _ h9 => iw_X2_compare_X2 _ h9) hW (i := 0) (by decide) rfl rfl 2 (by decide) (hts (.fieldLink RX2 27 "ModEngine" "registers" "[[I") (by decide +kernel)) rfl dX2_compare_19 ?_
      refine lv_iload_n hx hb dX2_compare_22 rfl (lv_at hl 1 rfl) ?_
      refine q_regs hx hb hW (j := y) (by omega) hn8 ey dX2_compare_23 ?_
      refine lv_aload_n hx hb dX2_compare_24 rfl (lv_at hl 0 rfl) ?_
      refine q_get (C := RX2) (T := TX2) (v := .ref (g.P 2)) hx hb hts hown (fun _ h9 => iw_X2_compare_X2 _ h9) hW (i := 0) (by decide) rfl rfl 2 (by decide) (hts (.fieldLink RX2 27 "ModEngine" "registers" "[[I") (by decide +kernel)) rfl dX2_compare_25 ?_
      refine lv_iload_n hx hb dX2_compare_28 rfl (lv_at hl 2 rfl) ?_
      refine q_regs hx hb hW (j := z) (by omega) hn8 ez dX2_compare_29 ?_
      refine lv_aload_n hx hb dX2_compare_30 rfl (lv_at hl 0 rfl) ?_
      refine q_get (C := RX2) (T := TX2) (v := .int (nI g.k)) hx hb hts hown (fun _ h9 => iw_X2_compare_X2 _ h9) hW (i := 0) (by decide) rfl rfl 0 (by decide) (hts (.fieldLink RX2 18 "ModEngine" "limbs" "I") (by decide +kernel)) rfl dX2_compare_31 ?_
      refine q_i (q_runS (As := [.ref (g.P (21 + y)), .ref (g.P (21 + z)), .int (nI g.k)]) (rest := []) S hW (k_order l g hg σ (rowr hy) (rowr hz)) gX2_compare_X0_order (nA := 3) ⟨rfl, by decide +kernel, ⟨by decide, by decide⟩⟩ rfl hl.1 rfl (Nat.le_of_ble_eq_true rfl) dX2_compare_34 ⟨Nat.zero_le _, Nat.zero_le _⟩) hW Ad_hi (fun r_34 σ3 H locs hp hW => ?_)
      obtain ⟨e3, er3⟩ : σ3 = σ ∧ r_34 = if qV g σ.F (21 + y) < qV g σ.F (21 + z) then -1 else if qV g σ.F (21 + y) = qV g σ.F (21 + z) then 0 else 1 := hp
      rw [e3] at hW
      rw [ha.2 y hy, ha.2 z hz] at er3
      exact fin _ _ _ _ _ _ hW (⟨⟨rfl, rfl⟩, hc, M, X, ha, ⟨Or.inl ⟨y, z, hy, hz, ey, ez, er3⟩, rfl, rfl, rfl⟩⟩) dX2_compare_37
    · have hno : ¬ isR a g.n := er2.elim (fun z => absurd (z.1.symm.trans c2) (by decide)) (fun z => z.2)
      refine lv_iconst (v := 2) hx hb dX2_compare_16 (by decide) ?_
      exact fin _ _ _ _ _ _ hW (⟨⟨rfl, rfl⟩, hc, M, X, ha, ⟨Or.inr ⟨fun q => hno q.2, rfl⟩, rfl, rfl, rfl⟩⟩) dX2_compare_17
