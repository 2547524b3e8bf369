set_option maxHeartbeats 4000000 in
set_option maxRecDepth 100000 in
/-- reference: witness(a) -/
theorem n_witness (l : Launch) (g : qCfg) (hg : g.ok) (σ : qSt) {M : Nat} {X : Nat → Nat} (ha : mAbs g σ M X) (hc : mInv σ M) (d : Int32) : qCI l g yX3_witness wsX3_witness 4 93 [.ref (g.P 3), .int d] σ (mPost g σ (sWit g.n d M X σ.rm)) := by
  refine q_sI (cc := cX3_witness) (maxL := 4) (by decide) rfl (Nat.le_of_ble_eq_true rfl) ?_
  intro p e s m args below meth c ls Q S hW hl fin
  obtain ⟨hx, hb, hml, hown, hts, hr, hlocks⟩ := id S
  obtain ⟨hk1, hk8, hn1, hn8⟩ := id hg
  have hl : lv_has ls 4 [(0, .ref (g.P 3)), (1, .int d)] := hl
  refine lv_aload_n hx hb dX3_witness_0 rfl (lv_at hl 0 rfl) ?_
  refine lv_iload_n hx hb dX3_witness_1 rfl (lv_at hl 1 rfl) ?_
  refine lv_iload_n hx hb dX3_witness_2 rfl (lv_at hl 1 rfl) ?_
  refine lv_iload_n hx hb dX3_witness_3 rfl (lv_at hl 1 rfl) ?_
  refine q_i (q_runV (As := [.int d, .int d, .int d]) (rest := []) (i := 3) S hW (by decide) rfl rfl (n_isAsked l g hg σ hc.1 d d d) gX3_witness_X3_isAsked rfl (nA := 3) ⟨rfl, by decide +kernel, ⟨by decide, by decide⟩⟩ rfl hl.1 rfl (Nat.le_of_ble_eq_true rfl) dX3_witness_4 ⟨Nat.zero_le _, Nat.zero_le _⟩) hW Ad_hi (fun r_4 σ1 H locs hp hW => ?_)
  obtain ⟨e1, er1⟩ : σ1 = σ ∧ (r_4 = 1 ∧ (σ.rm = 1 ∧ isR d g.n ∧ isR d g.n ∧ isR d g.n) ∨ r_4 = 0 ∧ ¬ (σ.rm = 1 ∧ isR d g.n ∧ isR d g.n ∧ isR d g.n)) := hp
  rw [e1] at hW
  refine lv_if_ne (tgt := 12) hx hb dX3_witness_7 (by decide) (fun c1 => ?_) (fun c1 => ?_)
  · obtain ⟨h0, ⟨y, hy, ey⟩, -, -⟩ : (σ.rm = 1 ∧ isR d g.n ∧ isR d g.n ∧ isR d g.n) := er1.elim (fun z => z.2) (fun z => absurd z.1 c1)
    obtain ⟨hM1, hM3⟩ := hc.2 h0
    have hM0 : 0 < M := by omega
    have hM8 := lt256 hk8 ha.2.1
    refine lv_aload_n hx hb dX3_witness_12 rfl (lv_at hl 0 rfl) ?_
    refine lv_iload_n hx hb dX3_witness_13 rfl (lv_at hl 1 rfl) ?_
    refine lv_iload_n hx hb dX3_witness_14 rfl (lv_at hl 1 rfl) ?_
    refine q_v (q_runV (As := [.int d, .int d]) (rest := []) (i := 3) S hW (by decide) rfl rfl (n_takes l g hg σ (ea := y) (eb := y) hM0 hM8 ha.1 (by omega) (by omega) ey ey (ha.2.2 y hy).1 (ha.2.2 y hy).1 (ha.2.2 y hy).2 (ha.2.2 y hy).2) gX3_witness_X3_takes rfl (nA := 2) ⟨rfl, by decide +kernel, ⟨by decide, by decide⟩⟩ rfl hl.1 rfl (Nat.le_of_ble_eq_true rfl) dX3_witness_15 ⟨Nat.zero_le _, Nat.zero_le _⟩) hW Ad_hi (fun σ2 H locs hp hW => ?_)
    obtain ⟨J2, e2, hg2, hm2, hx2, hy2⟩ : ∃ J', σ2 = σ.setJ J' ∧ Gr σ.J J' [5, 6, 8, 9] ∧ Nb J' 5 M ∧ Nb J' 6 (X y % M) ∧ Nb J' 8 (X y % M) := hp
    rw [e2] at hW
    have hA2 := mAbs_keep ha hg2 (by decide)
    have lx := Nat.mod_lt (X y) hM0
    refine lv_aload_n hx hb dX3_witness_18 rfl (lv_at hl 0 rfl) ?_
    refine q_get (C := RX3) (T := TX3) (v := .ref (g.P 6)) hx hb hts hown (fun _ h9 => iw_X3_witness_X3 _ h9) hW (i := 3) (by decide) rfl rfl 5 (by decide) (hts (.fieldLink RX3 16 "ModEngineModel" "first" "[J") (by decide +kernel)) rfl dX3_witness_19 ?_
    refine q_i (q_runS (As := [.ref (g.P 6)]) (rest := []) S hW (n_isNought l g hg (σ.setJ J2) (by decide) hx2) gX3_witness_X3_isNought (nA := 1) ⟨rfl, by decide +kernel, ⟨by decide, by decide⟩⟩ rfl hl.1 rfl (Nat.le_of_ble_eq_true rfl) dX3_witness_22 ⟨Nat.zero_le _, Nat.zero_le _⟩) hW Ad_hi (fun r_22 σ3 H locs hp hW => ?_)
    obtain ⟨e3, er3⟩ : σ3 = σ.setJ J2 ∧ r_22 = if (X y % M) = 0 then 1 else 0 := hp
    rw [e3] at hW
    refine lv_if_eq (tgt := 30) hx hb dX3_witness_25 (by decide) (fun c2 => ?_) (fun c2 => ?_)
    · have hn0 := (fa_boolp er3).1.mp c2
      refine lv_aload_n hx hb dX3_witness_30 rfl (lv_at hl 0 rfl) ?_
      refine q_get (C := RX3) (T := TX3) (v := .ref (g.P 11)) hx hb hts hown (fun _ h9 => iw_X3_witness_X3 _ h9) hW (i := 3) (by decide) rfl rfl 10 (by decide) (hts (.fieldLink RX3 31 "ModEngineModel" "power" "[J") (by decide +kernel)) rfl dX3_witness_31 ?_
      refine lv_aload_n hx hb dX3_witness_34 rfl (lv_at hl 0 rfl) ?_
      refine q_get (C := RX3) (T := TX3) (v := .ref (g.P 5)) hx hb hts hown (fun _ h9 => iw_X3_witness_X3 _ h9) hW (i := 3) (by decide) rfl rfl 4 (by decide) (hts (.fieldLink RX3 13 "ModEngineModel" "modulus" "[J") (by decide +kernel)) rfl dX3_witness_35 ?_
      refine q_v (q_runS (As := [.ref (g.P 11), .ref (g.P 5)]) (rest := []) S hW (n_copy l g hg (σ.setJ J2) (by decide) (by decide)) gX3_witness_X3_copy (nA := 2) ⟨rfl, by decide +kernel, ⟨by decide, by decide⟩⟩ rfl hl.1 rfl (Nat.le_of_ble_eq_true rfl) dX3_witness_38 ⟨Nat.zero_le _, Nat.zero_le _⟩) hW Ad_hi (fun σ4 H locs hp hW => ?_)
      obtain ⟨J4, e4, hg4, hcp4⟩ : ∃ J', σ4 = σ.setJ J' ∧ Gr J2 J' [11] ∧ ∀ x, x < 9 → J' 11 x = J2 5 x := hp
      rw [e4] at hW
      have hn4 : Nb J4 11 M := Nb.cp hm2 hcp4
      have n5_4 := hg4.N (by decide) hm2
      have n6_4 := hg4.N (by decide) hx2
      have n8_4 := hg4.N (by decide) hy2
      have hA4 : mAbs g (σ.setJ J4) M X := mAbs_keep (σ := σ.setJ J2) hA2 hg4 (by decide)
      have hod : uL (J4 11 0) % 2 = 1 := by
        have h7 := dv_mod2 (d := fun x => uL (J4 11 x)) (k := 9) (by decide)
        rw [hn4.2, hM1] at h7
        exact h7.symm
      have hb8 : uL (J4 11 0) < 4294967296 := hn4.1 0 (by decide)
      refine lv_aload_n hx hb dX3_witness_41 rfl (lv_at hl 0 rfl) ?_
      refine q_get (C := RX3) (T := TX3) (v := .ref (g.P 11)) hx hb hts hown (fun _ h9 => iw_X3_witness_X3 _ h9) hW (i := 3) (by decide) rfl rfl 10 (by decide) (hts (.fieldLink RX3 31 "ModEngineModel" "power" "[J") (by decide +kernel)) rfl dX3_witness_42 ?_
      refine lv_iconst (v := 0) hx hb dX3_witness_45 (by decide) ?_
      refine lv_dup2_11 hx hb dX3_witness_46 rfl rfl ?_
      refine q_lald hx hb hW (i := 11) (j := 0) (by decide) (by decide) rfl dX3_witness_47 ?_
      refine q_tl (y := lN (uL (J4 11 0))) ((lN_uL _).symm) ?_
      refine lv_lconst (v := 1) hx hb dX3_witness_48 (by decide) ?_
      refine lv_lsub hx hb dX3_witness_49 ?_
      refine q_tl (y := lN (uL (J4 11 0) - 1)) (lN_sub (b := 1) (by omega)) ?_
      refine q_lastJ (i := 11) (J := J4) hx hb hW (j := 0) (by decide) (by decide) rfl dX3_witness_50 (fun H locs hW => ?_)
      generalize hJd : va_up J4 11 (va_up (J4 11) 0 (lN (uL (J4 11 0) - 1))) = Jd at hW
      have hgd : Gr J4 Jd [11] := fun r hr => by rw [← hJd]; exact va_up_ne _ _ (by simpa using hr)
      have hnd : Nb Jd 11 (M - 1) := by
        rw [← hJd]
        exact Nb_dec hn4 (by omega)
      have nd5 := hgd.N (by decide) n5_4
      have nd6 := hgd.N (by decide) n6_4
      have hAd : mAbs g (σ.setJ Jd) M X := mAbs_keep (σ := σ.setJ J4) hA4 hgd (by decide)
      refine lv_aload_n hx hb dX3_witness_51 rfl (lv_at hl 0 rfl) ?_
      refine q_get (C := RX3) (T := TX3) (v := .ref (g.P 8)) hx hb hts hown (fun _ h9 => iw_X3_witness_X3 _ h9) hW (i := 3) (by decide) rfl rfl 7 (by decide) (hts (.fieldLink RX3 22 "ModEngineModel" "result" "[J") (by decide +kernel)) rfl dX3_witness_52 ?_
      refine lv_aload_n hx hb dX3_witness_55 rfl (lv_at hl 0 rfl) ?_
      refine q_get (C := RX3) (T := TX3) (v := .ref (g.P 11)) hx hb hts hown (fun _ h9 => iw_X3_witness_X3 _ h9) hW (i := 3) (by decide) rfl rfl 10 (by decide) (hts (.fieldLink RX3 31 "ModEngineModel" "power" "[J") (by decide +kernel)) rfl dX3_witness_56 ?_
      refine q_v (q_runS (As := [.ref (g.P 8), .ref (g.P 11)]) (rest := []) S hW (n_copy l g hg (σ.setJ Jd) (by decide) (by decide)) gX3_witness_X3_copy (nA := 2) ⟨rfl, by decide +kernel, ⟨by decide, by decide⟩⟩ rfl hl.1 rfl (Nat.le_of_ble_eq_true rfl) dX3_witness_59 ⟨Nat.zero_le _, Nat.zero_le _⟩) hW Ad_hi (fun σ5 H locs hp hW => ?_)
      obtain ⟨J5, e5, hg5, hcp5⟩ : ∃ J', σ5 = σ.setJ J' ∧ Gr Jd J' [8] ∧ ∀ x, x < 9 → J' 8 x = Jd 11 x := hp
      rw [e5] at hW
      have hn5 : Nb J5 8 (M - 1) := Nb.cp hnd hcp5
      have n5_5 := hg5.N (by decide) nd5
      have n6_5 := hg5.N (by decide) nd6
      have n11_5 := hg5.N (by decide) hnd
      have hA5 : mAbs g (σ.setJ J5) M X := mAbs_keep (σ := σ.setJ Jd) hAd hg5 (by decide)
      refine lv_iconst (v := 0) hx hb dX3_witness_62 (by decide) ?_
      refine lv_istore_n (lv' := [(2, .int 0), (0, .ref (g.P 3)), (1, .int d)]) hx hb dX3_witness_63 rfl hl (by decide) rfl (fun ls hl => ?_)
      have loop : ∀ (n u p9 : Nat) (J : Nat → Nat → Int64), p9 < n → 0 < p9 → M = 1 + 2 ^ u * p9 → mAbs g (σ.setJ J) M X → Nb J 5 M → Nb J 6 (X y % M) → Nb J 8 (M - 1) → Nb J 11 p9 → ∀ (H : Heap) (locs : List Loc) (ls : Array Slot), Wo g (Ad g s.heap.size) s H locs (σ.setJ J) → lv_has ls 4 [(2, .int (nI u)), (0, .ref (g.P 3)), (1, .int d)] → W p l e (rmm 4 93) s m args below meth c H locs 0 0 Q (F0 m 64 ls []) := by
        intro n
        induction n with
        | zero => intro u p9 J h1; exact absurd h1 (by omega)
        | succ n ih =>
          intro u p9 J hn hp hMu hA h5 h6 h8 h11 H locs ls hW hl
          refine lv_aload_n hx hb dX3_witness_64 rfl (lv_at hl 1 rfl) ?_
          refine q_get (C := RX3) (T := TX3) (v := .ref (g.P 11)) hx hb hts hown (fun _ h9 => iw_X3_witness_X3 _ h9) hW (i := 3) (by decide) rfl rfl 10 (by decide) (hts (.fieldLink RX3 31 "ModEngineModel" "power" "[J") (by decide +kernel)) rfl dX3_witness_65 ?_
          refine lv_iconst (v := 0) hx hb dX3_witness_68 (by decide) ?_
          refine q_i (q_runS (As := [.ref (g.P 11), .int 0]) (rest := []) S hW (n_bit l g hg (σ.setJ J) (b := 0) (by decide) h11 (by decide)) gX3_witness_X3_bit (nA := 2) ⟨rfl, by decide +kernel, ⟨by decide, by decide⟩⟩ rfl hl.1 rfl (Nat.le_of_ble_eq_true rfl) dX3_witness_69 ⟨Nat.zero_le _, Nat.zero_le _⟩) hW Ad_hi (fun r_69 σ30 H locs hp hW => ?_)
          obtain ⟨e30, er30⟩ : σ30 = σ.setJ J ∧ r_69 = if p9.testBit 0 = true then 1 else 0 := hp
          rw [e30] at hW
          rw [show p9.testBit 0 = decide (p9 % 2 = 1) from Nat.testBit_zero p9] at er30
          refine lv_if_ne (tgt := 88) hx hb dX3_witness_72 (by decide) (fun c3 => ?_) (fun c3 => ?_)
          · have ho : p9 % 2 = 1 := by simpa using (fa_boolp er30).2.mp c3
            have hu1 : 1 ≤ u := by
              rcases Nat.eq_zero_or_pos u with z | z
              · rw [z, Nat.pow_zero, Nat.one_mul] at hMu
                omega
              · exact z
            obtain ⟨htw, hdiv⟩ := tw_odd hMu hu1 ho
            have hu2 := tw_lt hMu hp hM8
            have hpk : p9 < 2 ^ (32 * g.k) := by
              have h7 : 1 * p9 ≤ 2 ^ u * p9 := Nat.mul_le_mul_right _ (Nat.one_le_two_pow)
              have h8 := ha.2.1
              omega
            refine lv_aload_n hx hb dX3_witness_88 rfl (lv_at hl 1 rfl) ?_
            refine lv_aload_n hx hb dX3_witness_89 rfl (lv_at hl 1 rfl) ?_
            refine q_get (C := RX3) (T := TX3) (v := .ref (g.P 6)) hx hb hts hown (fun _ h9 => iw_X3_witness_X3 _ h9) hW (i := 3) (by decide) rfl rfl 5 (by decide) (hts (.fieldLink RX3 16 "ModEngineModel" "first" "[J") (by decide +kernel)) rfl dX3_witness_90 ?_
            refine q_v (q_runV (As := [.ref (g.P 6)]) (rest := []) (i := 3) S hW (by decide) rfl rfl (n_raise l g hg (σ.setJ J) hM0 hM8 h5 (by omega) ha.2.1 h6 lx h11 hpk) gX3_witness_X3_raise rfl (nA := 1) ⟨rfl, by decide +kernel, ⟨by decide, by decide⟩⟩ rfl hl.1 rfl (Nat.le_of_ble_eq_true rfl) dX3_witness_93 ⟨Nat.zero_le _, Nat.zero_le _⟩) hW Ad_hi (fun σ31 H locs hp hW => ?_)
            obtain ⟨J31, e31, hg31, hn31⟩ : ∃ J', σ31 = σ.setJ J' ∧ Gr J J' [6, 7, 9, 10] ∧ Nb J' 6 ((X y % M) ^ p9 % M) := hp
            rw [e31] at hW
            have n5_31 := hg31.N (by decide) h5
            have n8_31 := hg31.N (by decide) h8
            have n11_31 := hg31.N (by decide) h11
            have hA31 : mAbs g (σ.setJ J31) M X := mAbs_keep (σ := σ.setJ J) hA hg31 (by decide)
            rw [← Nat.pow_mod, ← hdiv] at hn31
            refine lv_aload_n hx hb dX3_witness_96 rfl (lv_at hl 1 rfl) ?_
            refine q_get (C := RX3) (T := TX3) (v := .ref (g.P 6)) hx hb hts hown (fun _ h9 => iw_X3_witness_X3 _ h9) hW (i := 3) (by decide) rfl rfl 5 (by decide) (hts (.fieldLink RX3 16 "ModEngineModel" "first" "[J") (by decide +kernel)) rfl dX3_witness_97 ?_
            refine q_i (q_runS (As := [.ref (g.P 6)]) (rest := []) S hW (n_isOne l g hg (σ.setJ J31) (by decide) hn31) gX3_witness_X3_isOne (nA := 1) ⟨rfl, by decide +kernel, ⟨by decide, by decide⟩⟩ rfl hl.1 rfl (Nat.le_of_ble_eq_true rfl) dX3_witness_100 ⟨Nat.zero_le _, Nat.zero_le _⟩) hW Ad_hi (fun r_100 σ32 H locs hp hW => ?_)
            obtain ⟨e32, er32⟩ : σ32 = σ.setJ J31 ∧ r_100 = if (X y ^ (M / 2 ^ u) % M) = 1 then 1 else 0 := hp
            rw [e32] at hW
            refine lv_if_ne (tgt := 120) hx hb dX3_witness_103 (by decide) (fun c4 => ?_) (fun c4 => ?_)
            · have h1 := (fa_boolp er32).2.mp c4
              refine lv_iconst (v := 0) hx hb dX3_witness_120 (by decide) ?_
              exact fin _ _ _ _ _ _ hW (⟨⟨rfl, rfl, rfl⟩, M, X, hA31, hc, Or.inl ⟨y, u, hy, ey, h0, htw, Or.inr ⟨rfl, fun z => z.2.1 h1⟩⟩, rfl, rfl, rfl⟩) dX3_witness_121
            · have h1 := (fa_boolp er32).1.mp c4
              refine lv_aload_n hx hb dX3_witness_106 rfl (lv_at hl 1 rfl) ?_
              refine q_get (C := RX3) (T := TX3) (v := .ref (g.P 6)) hx hb hts hown (fun _ h9 => iw_X3_witness_X3 _ h9) hW (i := 3) (by decide) rfl rfl 5 (by decide) (hts (.fieldLink RX3 16 "ModEngineModel" "first" "[J") (by decide +kernel)) rfl dX3_witness_107 ?_
              refine lv_aload_n hx hb dX3_witness_110 rfl (lv_at hl 1 rfl) ?_
              refine q_get (C := RX3) (T := TX3) (v := .ref (g.P 8)) hx hb hts hown (fun _ h9 => iw_X3_witness_X3 _ h9) hW (i := 3) (by decide) rfl rfl 7 (by decide) (hts (.fieldLink RX3 22 "ModEngineModel" "result" "[J") (by decide +kernel)) rfl dX3_witness_111 ?_
              refine q_i (q_runS (As := [.ref (g.P 6), .ref (g.P 8)]) (rest := []) S hW (n_compared l g hg (σ.setJ J31) (by decide) (by decide) hn31 n8_31) gX3_witness_X3_compared (nA := 2) ⟨rfl, by decide +kernel, ⟨by decide, by decide⟩⟩ rfl hl.1 rfl (Nat.le_of_ble_eq_true rfl) dX3_witness_114 ⟨Nat.zero_le _, Nat.zero_le _⟩) hW Ad_hi (fun r_114 σ33 H locs hp hW => ?_)
              obtain ⟨e33, er33⟩ : σ33 = σ.setJ J31 ∧ r_114 = if (X y ^ (M / 2 ^ u) % M) < (M - 1) then -1 else if (X y ^ (M / 2 ^ u) % M) = (M - 1) then 0 else 1 := hp
              rw [e33] at hW
              refine lv_if_ne (tgt := 122) hx hb dX3_witness_117 (by decide) (fun c5 => ?_) (fun c5 => ?_)
              · have hne : ¬ X y ^ (M / 2 ^ u) % M = M - 1 := fun z => c5 ((ord_eq er33).mpr z)
                refine lv_iconst (v := 1) hx hb dX3_witness_122 (by decide) ?_
                refine lv_istore_n (lv' := [(3, .int 1), (2, .int (nI u)), (0, .ref (g.P 3)), (1, .int d)]) hx hb dX3_witness_123 rfl hl (by decide) rfl (fun ls hl => ?_)
                have loop2 : ∀ (n2 i : Nat) (J : Nat → Nat → Int64), 1 ≤ i → i ≤ u → u + 1 ≤ i + n2 → mAbs g (σ.setJ J) M X → Nb J 5 M → Nb J 6 (X y ^ (M / 2 ^ u * 2 ^ (i - 1)) % M) → Nb J 8 (M - 1) → (∀ z, z < i → ¬ X y ^ (M / 2 ^ u * 2 ^ z) % M = M - 1) → ∀ (H : Heap) (locs : List Loc) (ls : Array Slot), Wo g (Ad g s.heap.size) s H locs (σ.setJ J) → lv_has ls 4 [(3, .int (nI i)), (2, .int (nI u)), (0, .ref (g.P 3)), (1, .int d)] → W p l e (rmm 4 93) s m args below meth c H locs 0 0 Q (F0 m 124 ls []) := by
                  intro n2
                  induction n2 with
                  | zero => intro i J h1 h2 h3; exact absurd h3 (by omega)
                  | succ n2 ih2 =>
                    intro i J hi1 hiu hin hA h5 h6 h8 hall H locs ls hW hl
                    have lw := Nat.mod_lt (X y ^ (M / 2 ^ u * 2 ^ (i - 1))) hM0
                    refine lv_iload_n hx hb dX3_witness_124 rfl (lv_at hl 0 rfl) ?_
                    refine lv_iload_n hx hb dX3_witness_125 rfl (lv_at hl 1 rfl) ?_
                    refine lv_icmp_ge (tgt := 163) hx hb dX3_witness_126 (by decide) (fun c6 => ?_) (fun c6 => ?_)
                    · have hx3 := nle c6 (by omega) (by omega)
                      refine lv_iconst (v := 1) hx hb dX3_witness_163 (by decide) ?_
                      exact fin _ _ _ _ _ _ hW (⟨⟨rfl, rfl, rfl⟩, M, X, hA, hc, Or.inl ⟨y, u, hy, ey, h0, htw, Or.inl ⟨rfl, hn0, h1, fun z hz => hall z (by omega)⟩⟩, rfl, rfl, rfl⟩) dX3_witness_164
                    · have hx3 := nge c6 (by omega)
                      refine lv_aload_n hx hb dX3_witness_129 rfl (lv_at hl 2 rfl) ?_
                      refine lv_aload_n hx hb dX3_witness_130 rfl (lv_at hl 2 rfl) ?_
                      refine q_get (C := RX3) (T := TX3) (v := .ref (g.P 6)) hx hb hts hown (fun _ h9 => iw_X3_witness_X3 _ h9) hW (i := 3) (by decide) rfl rfl 5 (by decide) (hts (.fieldLink RX3 16 "ModEngineModel" "first" "[J") (by decide +kernel)) rfl dX3_witness_131 ?_
                      refine lv_aload_n hx hb dX3_witness_134 rfl (lv_at hl 2 rfl) ?_
                      refine q_get (C := RX3) (T := TX3) (v := .ref (g.P 6)) hx hb hts hown (fun _ h9 => iw_X3_witness_X3 _ h9) hW (i := 3) (by decide) rfl rfl 5 (by decide) (hts (.fieldLink RX3 16 "ModEngineModel" "first" "[J") (by decide +kernel)) rfl dX3_witness_135 ?_
                      refine q_v (q_runV (As := [.ref (g.P 6), .ref (g.P 6)]) (rest := []) (i := 3) S hW (by decide) rfl rfl (n_product l g hg (σ.setJ J) hM0 hM8 h5 (by decide) (by decide) (by decide) (by decide) (by decide) (by decide) h6 h6 lw (Nat.lt_trans lw ha.2.1)) gX3_witness_X3_product rfl (nA := 2) ⟨rfl, by decide +kernel, ⟨by decide, by decide⟩⟩ rfl hl.1 rfl (Nat.le_of_ble_eq_true rfl) dX3_witness_138 ⟨Nat.zero_le _, Nat.zero_le _⟩) hW Ad_hi (fun σ50 H locs hp hW => ?_)
                      obtain ⟨J50, e50, hg50, hn50⟩ : ∃ J', σ50 = σ.setJ J' ∧ Gr J J' [7, 9, 6] ∧ Nb J' 6 (X y ^ (M / 2 ^ u * 2 ^ (i - 1)) % M * (X y ^ (M / 2 ^ u * 2 ^ (i - 1)) % M) % M) := hp
                      rw [e50] at hW
                      have n5_50 := hg50.N (by decide) h5
                      have n8_50 := hg50.N (by decide) h8
                      have hA50 : mAbs g (σ.setJ J50) M X := mAbs_keep (σ := σ.setJ J) hA hg50 (by decide)
                      rw [← Nat.mul_mod, ← Nat.pow_add, ← Nat.mul_two, Nat.mul_assoc, ← Nat.pow_succ, show (i - 1).succ = i by omega] at hn50
                      refine lv_aload_n hx hb dX3_witness_141 rfl (lv_at hl 2 rfl) ?_
                      refine q_get (C := RX3) (T := TX3) (v := .ref (g.P 6)) hx hb hts hown (fun _ h9 => iw_X3_witness_X3 _ h9) hW (i := 3) (by decide) rfl rfl 5 (by decide) (hts (.fieldLink RX3 16 "ModEngineModel" "first" "[J") (by decide +kernel)) rfl dX3_witness_142 ?_
                      refine lv_aload_n hx hb dX3_witness_145 rfl (lv_at hl 2 rfl) ?_
                      refine q_get (C := RX3) (T := TX3) (v := .ref (g.P 8)) hx hb hts hown (fun _ h9 => iw_X3_witness_X3 _ h9) hW (i := 3) (by decide) rfl rfl 7 (by decide) (hts (.fieldLink RX3 22 "ModEngineModel" "result" "[J") (by decide +kernel)) rfl dX3_witness_146 ?_
                      refine q_i (q_runS (As := [.ref (g.P 6), .ref (g.P 8)]) (rest := []) S hW (n_compared l g hg (σ.setJ J50) (by decide) (by decide) hn50 n8_50) gX3_witness_X3_compared (nA := 2) ⟨rfl, by decide +kernel, ⟨by decide, by decide⟩⟩ rfl hl.1 rfl (Nat.le_of_ble_eq_true rfl) dX3_witness_149 ⟨Nat.zero_le _, Nat.zero_le _⟩) hW Ad_hi (fun r_149 σ51 H locs hp hW => ?_)
                      obtain ⟨e51, er51⟩ : σ51 = σ.setJ J50 ∧ r_149 = if (X y ^ (M / 2 ^ u * 2 ^ i) % M) < (M - 1) then -1 else if (X y ^ (M / 2 ^ u * 2 ^ i) % M) = (M - 1) then 0 else 1 := hp
                      rw [e51] at hW
                      refine lv_if_ne (tgt := 157) hx hb dX3_witness_152 (by decide) (fun c7 => ?_) (fun c7 => ?_)
                      · have hne2 : ¬ X y ^ (M / 2 ^ u * 2 ^ i) % M = M - 1 := fun z => c7 ((ord_eq er51).mpr z)
                        refine lv_iinc (v := nI (i + 1)) (lv' := [(3, .int (nI (i + 1))), (2, .int (nI u)), (0, .ref (g.P 3)), (1, .int d)]) hx hb dX3_witness_157 hl (k := 0) rfl (nI_1 _) (by decide) rfl (fun ls hl => ?_)
                        refine lv_goto (tgt := 124) hx hb dX3_witness_160 (by decide) ?_
                        exact ih2 (i + 1) J50 (by omega) (by omega) (by omega) hA50 n5_50 (by rw [show i + 1 - 1 = i by omega]; exact hn50) n8_50 (fun z hz => by
                          by_cases zi : z = i
                          · rw [zi]; exact hne2
                          · exact hall z (by omega)) H locs ls hW (lv_sub hl [0, 1, 2, 3] rfl)
                      · have heq := (ord_eq er51).mp c7
                        refine lv_iconst (v := 0) hx hb dX3_witness_155 (by decide) ?_
                        exact fin _ _ _ _ _ _ hW (⟨⟨rfl, rfl, rfl⟩, M, X, hA50, hc, Or.inl ⟨y, u, hy, ey, h0, htw, Or.inr ⟨rfl, fun z => z.2.2 i hx3 heq⟩⟩, rfl, rfl, rfl⟩) dX3_witness_156
                exact loop2 (u + 1) 1 J31 (by omega) (by omega) (by omega) hA31 n5_31 (by rw [show 1 - 1 = 0 from rfl, Nat.pow_zero, Nat.mul_one]; exact hn31) n8_31 (fun z hz => by rw [show z = 0 by omega, Nat.pow_zero, Nat.mul_one]; exact hne) _ _ ls hW (lv_sub hl [0, 1, 2, 3] rfl)
              · have heq := (ord_eq er33).mp c5
                refine lv_iconst (v := 0) hx hb dX3_witness_120 (by decide) ?_
                exact fin _ _ _ _ _ _ hW (⟨⟨rfl, rfl, rfl⟩, M, X, hA31, hc, Or.inl ⟨y, u, hy, ey, h0, htw, Or.inr ⟨rfl, fun z => z.2.2 0 (by omega) (by rw [Nat.pow_zero, Nat.mul_one]; exact heq)⟩⟩, rfl, rfl, rfl⟩) dX3_witness_121
          · have ho : p9 % 2 = 0 := by
              have : ¬ p9 % 2 = 1 := fun z => (fa_boolp er30).1.mp c3 (by simp [z])
              omega
            refine lv_aload_n hx hb dX3_witness_75 rfl (lv_at hl 1 rfl) ?_
            refine q_get (C := RX3) (T := TX3) (v := .ref (g.P 11)) hx hb hts hown (fun _ h9 => iw_X3_witness_X3 _ h9) hW (i := 3) (by decide) rfl rfl 10 (by decide) (hts (.fieldLink RX3 31 "ModEngineModel" "power" "[J") (by decide +kernel)) rfl dX3_witness_76 ?_
            refine q_v (q_runS (As := [.ref (g.P 11)]) (rest := []) S hW (n_half l g hg (σ.setJ J) (by decide) h11) gX3_witness_X3_half (nA := 1) ⟨rfl, by decide +kernel, ⟨by decide, by decide⟩⟩ rfl hl.1 rfl (Nat.le_of_ble_eq_true rfl) dX3_witness_79 ⟨Nat.zero_le _, Nat.zero_le _⟩) hW Ad_hi (fun σ31 H locs hp hW => ?_)
            obtain ⟨J31, e31, hg31, hn31⟩ : ∃ J', σ31 = σ.setJ J' ∧ Gr J J' [11] ∧ Nb J' 11 (p9 / 2) := hp
            rw [e31] at hW
            have n5_31 := hg31.N (by decide) h5
            have n6_31 := hg31.N (by decide) h6
            have n8_31 := hg31.N (by decide) h8
            have hA31 : mAbs g (σ.setJ J31) M X := mAbs_keep (σ := σ.setJ J) hA hg31 (by decide)
            refine lv_iinc (v := nI (u + 1)) (lv' := [(2, .int (nI (u + 1))), (0, .ref (g.P 3)), (1, .int d)]) hx hb dX3_witness_82 hl (k := 0) rfl (nI_1 _) (by decide) rfl (fun ls hl => ?_)
            refine lv_goto (tgt := 64) hx hb dX3_witness_85 (by decide) ?_
            exact ih (u + 1) (p9 / 2) J31 (by omega) (by omega) (by rw [hMu, Nat.pow_succ, Nat.mul_assoc, show 2 * (p9 / 2) = p9 by omega]) hA31 n5_31 n6_31 n8_31 hn31 H locs ls hW (lv_sub hl [0, 1, 2] rfl)
      exact loop M 0 (M - 1) J5 (by omega) (by omega) (by rw [Nat.pow_zero, Nat.one_mul]; omega) hA5 n5_5 n6_5 hn5 n11_5 _ _ ls hW (lv_sub hl [0, 1, 2] rfl)
    · have hn0 := (fa_boolp er3).2.mp c2
      obtain ⟨u, htw⟩ := twos_ex hM1 hM3
      refine lv_iconst (v := 0) hx hb dX3_witness_28 (by decide) ?_
      exact fin _ _ _ _ _ _ hW (⟨⟨rfl, rfl, rfl⟩, M, X, hA2, hc, Or.inl ⟨y, u, hy, ey, h0, htw, Or.inr ⟨rfl, fun z => z.1 hn0⟩⟩, rfl, rfl, rfl⟩) dX3_witness_29
  · have hno : ¬ (σ.rm = 1 ∧ isR d g.n ∧ isR d g.n ∧ isR d g.n) := er1.elim (fun z => absurd (z.1.symm.trans c1) (by decide)) (fun z => z.2)
    refine lv_iconst (v := 2) hx hb dX3_witness_10 (by decide) ?_
    exact fin _ _ _ _ _ _ hW (⟨⟨rfl, rfl, rfl⟩, M, X, ha, hc, ⟨Or.inr ⟨fun z => hno ⟨z.1, z.2, z.2, z.2⟩, rfl⟩, rfl, rfl, rfl⟩⟩) dX3_witness_11
