set_option maxHeartbeats 4000000 in
set_option maxRecDepth 100000 in
/-- Limbs.add(into, a, b, k): the sum, and what is carried -/
theorem k_add (l : Launch) (g : qCfg) (hg : g.ok) (σ : qSt) {i j r : Nat} (hi : 12 ≤ i ∧ i < g.N)(hj : 12 ≤ j ∧ j < g.N)(hrr : 12 ≤ r ∧ r < g.N) : qCL l g yX0_add wsX0_add 0 0 [.ref (g.P i), .ref (g.P j), .ref (g.P r), .int (nI g.k)] σ (fun z σ' => ∃ F' c, σ' = σ.setF F' ∧ Fr σ.F F' [i] ∧ c ≤ 1 ∧ z = lN c ∧ qV g F' i + c * 2 ^ (32 * g.k) = qV g σ.F j + qV g σ.F r) := by
  refine q_sL (cc := cX0_add) (maxL := 7) (by decide) rfl (Nat.le_of_ble_eq_true rfl) ?_
  intro p e s m args below meth c ls Q S hW hl fin
  obtain ⟨hx, hb, hml, hown, hts, hr, hlocks⟩ := id S
  obtain ⟨hk1, hk8, hn1, hn8⟩ := id hg
  have hl : lv_has ls 7 [(0, .ref (g.P i)), (1, .ref (g.P j)), (2, .ref (g.P r)), (3, .int (nI g.k))] := hl
  have loop : ∀ (n x : Nat) (c0 : Nat) (F : Nat → Nat → Int32), x ≤ g.k → g.k + 1 ≤ x + n → Ru σ.F F i x → c0 ≤ 1 → rv (F i) x + c0 * 2 ^ (32 * x) = rv (σ.F j) x + rv (σ.F r) x → ∀ (H : Heap) (locs : List Loc) (ls : Array Slot), Wo g (Ad g s.heap.size) s H locs (σ.setF F) → lv_has ls 7 [(6, .int (nI x)), (4, .long (lN c0)), (0, .ref (g.P i)), (1, .ref (g.P j)), (2, .ref (g.P r)), (3, .int (nI g.k))] → W p l e (rmm 0 0) s m args below meth c H locs 0 0 Q (F0 m 6 ls []) := by
    intro n
    induction n with
    | zero => intro x c0 F h1 h2; exact absurd h2 (by omega)
    | succ n ih =>
      intro x c0 F hx1 hx2 hR hc hv H locs ls hW hl
      refine lv_iload hx hb dX0_add_6 (lv_at hl 0 rfl) ?_
      refine lv_iload_n hx hb dX0_add_8 rfl (lv_at hl 5 rfl) ?_
      refine lv_icmp_ge (tgt := 56) hx hb dX0_add_9 (by decide) (fun c1 => ?_) (fun c1 => ?_)
      · have hx3 := nle c1 (by omega) (by omega)
        have hx4 : x = g.k := by omega
        rw [hx4] at hv
        refine lv_lload hx hb dX0_add_56 (lv_at hl 1 rfl) ?_
        exact fin _ _ _ _ _ _ hW (⟨F, c0, rfl, hR.fr, hc, rfl, hv⟩) dX0_add_58
      · have hx3 := nge c1 (by omega)
        have hb1 := uI_lt (σ.F j x)
        have hb2 := uI_lt (σ.F r x)
        refine lv_lload hx hb dX0_add_12 (lv_at hl 1 rfl) ?_
        refine lv_aload_n hx hb dX0_add_14 rfl (lv_at hl 3 rfl) ?_
        refine lv_iload hx hb dX0_add_15 (lv_at hl 0 rfl) ?_
        refine q_iald hx hb hW (i := j) (j := x) hj (by omega) hk8 rfl dX0_add_17 ?_
        refine q_ti (y := σ.F j x) (hR.rd _) ?_
        refine lv_i2l hx hb dX0_add_18 rfl ?_
        refine lv_ldc2 (v := 4294967295) hx hb hown (hts (.constantLong RX0 15 (4294967295)) (by decide +kernel)) dX0_add_19 ?_
        refine lv_land hx hb dX0_add_22 ?_
        refine q_tl (y := lN (uI (σ.F j x))) (m32 _) ?_
        refine lv_aload_n hx hb dX0_add_23 rfl (lv_at hl 4 rfl) ?_
        refine lv_iload hx hb dX0_add_24 (lv_at hl 0 rfl) ?_
        refine q_iald hx hb hW (i := r) (j := x) hrr (by omega) hk8 rfl dX0_add_26 ?_
        refine q_ti (y := σ.F r x) (hR.rd _) ?_
        refine lv_i2l hx hb dX0_add_27 rfl ?_
        refine lv_ldc2 (v := 4294967295) hx hb hown (hts (.constantLong RX0 15 (4294967295)) (by decide +kernel)) dX0_add_28 ?_
        refine lv_land hx hb dX0_add_31 ?_
        refine q_tl (y := lN (uI (σ.F r x))) (m32 _) ?_
        refine lv_ladd hx hb dX0_add_32 ?_
        refine q_tl (y := lN ((uI (σ.F j x)) + (uI (σ.F r x)))) (lN_add _ _) ?_
        refine lv_ladd hx hb dX0_add_33 ?_
        refine q_tl (y := lN (c0 + ((uI (σ.F j x)) + (uI (σ.F r x))))) (lN_add _ _) ?_
        generalize hT : c0 + (uI (σ.F j x) + uI (σ.F r x)) = T
        refine lv_lstore (lv' := [(4, .long (lN T)), (6, .int (nI x)), (0, .ref (g.P i)), (1, .ref (g.P j)), (2, .ref (g.P r)), (3, .int (nI g.k))]) hx hb dX0_add_34 hl (by decide) rfl (fun ls hl => ?_)
        refine lv_aload_n hx hb dX0_add_36 rfl (lv_at hl 2 rfl) ?_
        refine lv_iload hx hb dX0_add_37 (lv_at hl 1 rfl) ?_
        refine lv_lload hx hb dX0_add_39 (lv_at hl 0 rfl) ?_
        refine lv_l2i hx hb dX0_add_41 rfl ?_
        refine q_ti (y := nI T) (lN_i _) ?_
        refine q_iastF (i := i) (F := F) hx hb hW (j := x) hi (by omega) hk8 rfl dX0_add_42 (fun H locs hW => ?_)
        refine lv_lload hx hb dX0_add_43 (lv_at hl 0 rfl) ?_
        refine lv_bipush (v := 32) hx hb dX0_add_45 (by decide) ?_
        refine lv_lushr hx hb dX0_add_47 rfl ?_
        refine q_tl (y := lN (T / 4294967296)) (lN_ushr32 (by omega)) ?_
        refine lv_lstore (lv' := [(4, .long (lN (T / 4294967296))), (6, .int (nI x)), (0, .ref (g.P i)), (1, .ref (g.P j)), (2, .ref (g.P r)), (3, .int (nI g.k))]) hx hb dX0_add_48 hl (by decide) rfl (fun ls hl => ?_)
        refine lv_iinc (v := nI (x + 1)) (lv' := [(6, .int (nI (x + 1))), (4, .long (lN (T / 4294967296))), (0, .ref (g.P i)), (1, .ref (g.P j)), (2, .ref (g.P r)), (3, .int (nI g.k))]) hx hb dX0_add_50 hl (k := 1) rfl (nI_1 _) (by decide) rfl (fun ls hl => ?_)
        refine lv_goto (tgt := 6) hx hb dX0_add_53 (by decide) ?_
        refine ih (x + 1) _ _ (by omega) (by omega) (hR.st _) (by omega) ?_ H locs ls hW (lv_sub hl [0, 1, 2, 3, 4, 5] rfl)
        rw [Ru.num, rv_succ, rv_succ, p32, uI_nI]
        exact st_add (by omega) hv
  refine lv_lconst (v := 0) hx hb dX0_add_0 (by decide) ?_
  refine lv_lstore (lv' := [(4, .long 0), (0, .ref (g.P i)), (1, .ref (g.P j)), (2, .ref (g.P r)), (3, .int (nI g.k))]) hx hb dX0_add_1 hl (by decide) rfl (fun ls hl => ?_)
  refine lv_iconst (v := 0) hx hb dX0_add_3 (by decide) ?_
  refine lv_istore (lv' := [(6, .int 0), (4, .long 0), (0, .ref (g.P i)), (1, .ref (g.P j)), (2, .ref (g.P r)), (3, .int (nI g.k))]) hx hb dX0_add_4 hl (by decide) rfl (fun ls hl => ?_)
  exact loop (g.k + 1) 0 0 σ.F (by omega) (by omega) Ru.rf (by omega) rfl _ _ ls hW (lv_sub hl [0, 1, 2, 3, 4, 5] rfl)
set_option maxHeartbeats 4000000 in
set_option maxRecDepth 100000 in
/-- Limbs.subtract(into, a, b, k): the difference, and whether it went below 0 -/
theorem k_subtract (l : Launch) (g : qCfg) (hg : g.ok) (σ : qSt) {i j r : Nat} (hi : 12 ≤ i ∧ i < g.N)(hj : 12 ≤ j ∧ j < g.N)(hrr : 12 ≤ r ∧ r < g.N) : qCI l g yX0_subtract wsX0_subtract 0 0 [.ref (g.P i), .ref (g.P j), .ref (g.P r), .int (nI g.k)] σ (fun z σ' => ∃ F' c, σ' = σ.setF F' ∧ Fr σ.F F' [i] ∧ c ≤ 1 ∧ z = nI c ∧ qV g F' i + qV g σ.F r = qV g σ.F j + c * 2 ^ (32 * g.k)) := by
  refine q_sZ (cc := cX0_subtract) (maxL := 7) (by decide) rfl (Nat.le_of_ble_eq_true rfl) ?_
  intro p e s m args below meth c ls Q S hW hl fin
  obtain ⟨hx, hb, hml, hown, hts, hr, hlocks⟩ := id S
  obtain ⟨hk1, hk8, hn1, hn8⟩ := id hg
  have hl : lv_has ls 7 [(0, .ref (g.P i)), (1, .ref (g.P j)), (2, .ref (g.P r)), (3, .int (nI g.k))] := hl
  have loop : ∀ (n x : Nat) (c0 : Nat) (F : Nat → Nat → Int32), x ≤ g.k → g.k + 1 ≤ x + n → Ru σ.F F i x → c0 ≤ 1 → rv (F i) x + rv (σ.F r) x = rv (σ.F j) x + c0 * 2 ^ (32 * x) → ∀ (H : Heap) (locs : List Loc) (ls : Array Slot), Wo g (Ad g s.heap.size) s H locs (σ.setF F) → lv_has ls 7 [(6, .int (nI x)), (4, .long (if c0 = 0 then (0 : Int64) else -1)), (0, .ref (g.P i)), (1, .ref (g.P j)), (2, .ref (g.P r)), (3, .int (nI g.k))] → W p l e (rmm 0 0) s m args below meth c H locs 0 0 Q (F0 m 6 ls []) := by
    intro n
    induction n with
    | zero => intro x c0 F h1 h2; exact absurd h2 (by omega)
    | succ n ih =>
      intro x c0 F hx1 hx2 hR hc hv H locs ls hW hl
      refine lv_iload hx hb dX0_subtract_6 (lv_at hl 0 rfl) ?_
      refine lv_iload_n hx hb dX0_subtract_8 rfl (lv_at hl 5 rfl) ?_
      refine lv_icmp_ge (tgt := 56) hx hb dX0_subtract_9 (by decide) (fun c1 => ?_) (fun c1 => ?_)
      · have hx3 := nle c1 (by omega) (by omega)
        have hx4 : x = g.k := by omega
        rw [hx4] at hv
        refine lv_lload hx hb dX0_subtract_56 (lv_at hl 1 rfl) ?_
        refine lv_lconst (v := 0) hx hb dX0_subtract_58 (by decide) ?_
        refine W.lcmp hx hb dX0_subtract_59 ?_
        refine lv_if_eq (tgt := 67) hx hb dX0_subtract_60 (by decide) (fun c2 => ?_) (fun c2 => ?_)
        · refine lv_iconst (v := 0) hx hb dX0_subtract_67 (by decide) ?_
          have h0 : c0 = 0 := by
            by_cases q : c0 = 0
            · exact q
            · rw [if_neg q] at c2
              exact absurd c2 (by decide)
          exact fin _ _ _ _ _ _ (by decide) hW (⟨F, c0, rfl, hR.fr, hc, by rw [h0]; rfl, hv⟩) dX0_subtract_68
        · refine lv_iconst (v := 1) hx hb dX0_subtract_63 (by decide) ?_
          refine lv_goto (tgt := 68) hx hb dX0_subtract_64 (by decide) ?_
          have h0 : c0 = 1 := by
            by_cases q : c0 = 0
            · rw [if_pos q] at c2
              exact absurd (by decide) c2
            · omega
          exact fin _ _ _ _ _ _ (by decide) hW (⟨F, c0, rfl, hR.fr, hc, by rw [h0]; rfl, hv⟩) dX0_subtract_68
      · have hx3 := nge c1 (by omega)
        obtain ⟨v, c2, hv2, hc2, hs2, hi2, hl2⟩ := sub_limb (uI_lt (σ.F j x)) (uI_lt (σ.F r x)) hc
        refine lv_lload hx hb dX0_subtract_12 (lv_at hl 1 rfl) ?_
        refine lv_aload_n hx hb dX0_subtract_14 rfl (lv_at hl 3 rfl) ?_
        refine lv_iload hx hb dX0_subtract_15 (lv_at hl 0 rfl) ?_
        refine q_iald hx hb hW (i := j) (j := x) hj (by omega) hk8 rfl dX0_subtract_17 ?_
        refine q_ti (y := σ.F j x) (hR.rd _) ?_
        refine lv_i2l hx hb dX0_subtract_18 rfl ?_
        refine lv_ldc2 (v := 4294967295) hx hb hown (hts (.constantLong RX0 15 (4294967295)) (by decide +kernel)) dX0_subtract_19 ?_
        refine lv_land hx hb dX0_subtract_22 ?_
        refine q_tl (y := lN (uI (σ.F j x))) (m32 _) ?_
        refine lv_aload_n hx hb dX0_subtract_23 rfl (lv_at hl 4 rfl) ?_
        refine lv_iload hx hb dX0_subtract_24 (lv_at hl 0 rfl) ?_
        refine q_iald hx hb hW (i := r) (j := x) hrr (by omega) hk8 rfl dX0_subtract_26 ?_
        refine q_ti (y := σ.F r x) (hR.rd _) ?_
        refine lv_i2l hx hb dX0_subtract_27 rfl ?_
        refine lv_ldc2 (v := 4294967295) hx hb hown (hts (.constantLong RX0 15 (4294967295)) (by decide +kernel)) dX0_subtract_28 ?_
        refine lv_land hx hb dX0_subtract_31 ?_
        refine q_tl (y := lN (uI (σ.F r x))) (m32 _) ?_
        refine lv_lsub hx hb dX0_subtract_32 ?_
        refine lv_ladd hx hb dX0_subtract_33 ?_
        generalize hT : (if c0 = 0 then (0 : Int64) else -1) + (lN (uI (σ.F j x)) - lN (uI (σ.F r x))) = T at hi2 hl2 ⊢
        refine lv_lstore (lv' := [(4, .long T), (6, .int (nI x)), (0, .ref (g.P i)), (1, .ref (g.P j)), (2, .ref (g.P r)), (3, .int (nI g.k))]) hx hb dX0_subtract_34 hl (by decide) rfl (fun ls hl => ?_)
        refine lv_aload_n hx hb dX0_subtract_36 rfl (lv_at hl 2 rfl) ?_
        refine lv_iload hx hb dX0_subtract_37 (lv_at hl 1 rfl) ?_
        refine lv_lload hx hb dX0_subtract_39 (lv_at hl 0 rfl) ?_
        refine lv_l2i hx hb dX0_subtract_41 rfl ?_
        refine q_ti (y := nI v) hi2 ?_
        refine q_iastF (i := i) (F := F) hx hb hW (j := x) hi (by omega) hk8 rfl dX0_subtract_42 (fun H locs hW => ?_)
        refine lv_lload hx hb dX0_subtract_43 (lv_at hl 0 rfl) ?_
        refine lv_bipush (v := 32) hx hb dX0_subtract_45 (by decide) ?_
        refine lv_lshr hx hb dX0_subtract_47 rfl ?_
        refine q_tl (y := if c2 = 0 then (0 : Int64) else -1) hl2 ?_
        refine lv_lstore (lv' := [(4, .long (if c2 = 0 then (0 : Int64) else -1)), (6, .int (nI x)), (0, .ref (g.P i)), (1, .ref (g.P j)), (2, .ref (g.P r)), (3, .int (nI g.k))]) hx hb dX0_subtract_48 hl (by decide) rfl (fun ls hl => ?_)
        refine lv_iinc (v := nI (x + 1)) (lv' := [(6, .int (nI (x + 1))), (4, .long (if c2 = 0 then (0 : Int64) else -1)), (0, .ref (g.P i)), (1, .ref (g.P j)), (2, .ref (g.P r)), (3, .int (nI g.k))]) hx hb dX0_subtract_50 hl (k := 1) rfl (nI_1 _) (by decide) rfl (fun ls hl => ?_)
        refine lv_goto (tgt := 6) hx hb dX0_subtract_53 (by decide) ?_
        refine ih (x + 1) _ _ (by omega) (by omega) (hR.st _) hc2 ?_ H locs ls hW (lv_sub hl [0, 1, 2, 3, 4, 5] rfl)
        rw [Ru.num, rv_succ, rv_succ, p32, uI_nI' hv2]
        exact st_sub hs2 hv
  refine lv_lconst (v := 0) hx hb dX0_subtract_0 (by decide) ?_
  refine q_tl (y := if 0 = 0 then (0 : Int64) else -1) (by decide) ?_
  refine lv_lstore (lv' := [(4, .long (if 0 = 0 then (0 : Int64) else -1)), (0, .ref (g.P i)), (1, .ref (g.P j)), (2, .ref (g.P r)), (3, .int (nI g.k))]) hx hb dX0_subtract_1 hl (by decide) rfl (fun ls hl => ?_)
  refine lv_iconst (v := 0) hx hb dX0_subtract_3 (by decide) ?_
  refine lv_istore (lv' := [(6, .int 0), (4, .long (if 0 = 0 then (0 : Int64) else -1)), (0, .ref (g.P i)), (1, .ref (g.P j)), (2, .ref (g.P r)), (3, .int (nI g.k))]) hx hb dX0_subtract_4 hl (by decide) rfl (fun ls hl => ?_)
  exact loop (g.k + 1) 0 0 σ.F (by omega) (by omega) Ru.rf (by omega) rfl _ _ ls hW (lv_sub hl [0, 1, 2, 3, 4, 5] rfl)
set_option maxHeartbeats 4000000 in
set_option maxRecDepth 100000 in
/-- Limbs.addMultiple(row, other, factor, k) -/
theorem k_addMultiple (l : Launch) (g : qCfg) (hg : g.ok) (σ : qSt) {i j : Nat} (hi : 12 ≤ i ∧ i < g.N)(hj : 12 ≤ j ∧ j < g.N)(v : Int32) : qCL l g yX0_addMultiple wsX0_addMultiple 0 0 [.ref (g.P i), .ref (g.P j), .int v, .int (nI g.k)] σ (fun z σ' => ∃ F' c, σ' = σ.setF F' ∧ Fr σ.F F' [i] ∧ c < 4294967296 ∧ z = lN c ∧ qV g F' i + c * 2 ^ (32 * g.k) = qV g σ.F i + uI v * qV g σ.F j) := by
  refine q_sL (cc := cX0_addMultiple) (maxL := 9) (by decide) rfl (Nat.le_of_ble_eq_true rfl) ?_
  intro p e s m args below meth c ls Q S hW hl fin
  obtain ⟨hx, hb, hml, hown, hts, hr, hlocks⟩ := id S
  obtain ⟨hk1, hk8, hn1, hn8⟩ := id hg
  have hl : lv_has ls 9 [(0, .ref (g.P i)), (1, .ref (g.P j)), (2, .int v), (3, .int (nI g.k))] := hl
  have hbv := uI_lt v
  have loop : ∀ (n x : Nat) (c0 : Nat) (F : Nat → Nat → Int32), x ≤ g.k → g.k + 1 ≤ x + n → Ru σ.F F i x → c0 < 4294967296 → rv (F i) x + c0 * 2 ^ (32 * x) = rv (σ.F i) x + uI v * rv (σ.F j) x → ∀ (H : Heap) (locs : List Loc) (ls : Array Slot), Wo g (Ad g s.heap.size) s H locs (σ.setF F) → lv_has ls 9 [(8, .int (nI x)), (6, .long (lN c0)), (4, .long (lN (uI v))), (0, .ref (g.P i)), (1, .ref (g.P j)), (2, .int v), (3, .int (nI g.k))] → W p l e (rmm 0 0) s m args below meth c H locs 0 0 Q (F0 m 14 ls []) := by
    intro n
    induction n with
    | zero => intro x c0 F h1 h2; exact absurd h2 (by omega)
    | succ n ih =>
      intro x c0 F hx1 hx2 hR hc hv H locs ls hW hl
      refine lv_iload hx hb dX0_addMultiple_14 (lv_at hl 0 rfl) ?_
      refine lv_iload_n hx hb dX0_addMultiple_16 rfl (lv_at hl 6 rfl) ?_
      refine lv_icmp_ge (tgt := 67) hx hb dX0_addMultiple_17 (by decide) (fun c1 => ?_) (fun c1 => ?_)
      · have hx3 := nle c1 (by omega) (by omega)
        have hx4 : x = g.k := by omega
        rw [hx4] at hv
        refine lv_lload hx hb dX0_addMultiple_67 (lv_at hl 1 rfl) ?_
        exact fin _ _ _ _ _ _ hW (⟨F, c0, rfl, hR.fr, hc, rfl, hv⟩) dX0_addMultiple_69
      · have hx3 := nge c1 (by omega)
        have hb1 := uI_lt (σ.F j x)
        have hb2 := uI_lt (σ.F i x)
        have hb3 : uI v * uI (σ.F j x) ≤ 4294967295 * 4294967295 := Nat.mul_le_mul (by omega) (by omega)
        refine lv_lload hx hb dX0_addMultiple_20 (lv_at hl 1 rfl) ?_
        refine lv_lload hx hb dX0_addMultiple_22 (lv_at hl 2 rfl) ?_
        refine lv_aload_n hx hb dX0_addMultiple_24 rfl (lv_at hl 4 rfl) ?_
        refine lv_iload hx hb dX0_addMultiple_25 (lv_at hl 0 rfl) ?_
        refine q_iald hx hb hW (i := j) (j := x) hj (by omega) hk8 rfl dX0_addMultiple_27 ?_
        refine q_ti (y := σ.F j x) (hR.rd _) ?_
        refine lv_i2l hx hb dX0_addMultiple_28 rfl ?_
        refine lv_ldc2 (v := 4294967295) hx hb hown (hts (.constantLong RX0 15 (4294967295)) (by decide +kernel)) dX0_addMultiple_29 ?_
        refine lv_land hx hb dX0_addMultiple_32 ?_
        refine q_tl (y := lN (uI (σ.F j x))) (m32 _) ?_
        refine lv_lmul hx hb dX0_addMultiple_33 ?_
        refine q_tl (y := lN ((uI v) * (uI (σ.F j x)))) (lN_mul _ _) ?_
        refine lv_aload_n hx hb dX0_addMultiple_34 rfl (lv_at hl 3 rfl) ?_
        refine lv_iload hx hb dX0_addMultiple_35 (lv_at hl 0 rfl) ?_
        refine q_iald hx hb hW (i := i) (j := x) hi (by omega) hk8 rfl dX0_addMultiple_37 ?_
        refine q_ti (y := σ.F i x) (hR.rd _) ?_
        refine lv_i2l hx hb dX0_addMultiple_38 rfl ?_
        refine lv_ldc2 (v := 4294967295) hx hb hown (hts (.constantLong RX0 15 (4294967295)) (by decide +kernel)) dX0_addMultiple_39 ?_
        refine lv_land hx hb dX0_addMultiple_42 ?_
        refine q_tl (y := lN (uI (σ.F i x))) (m32 _) ?_
        refine lv_ladd hx hb dX0_addMultiple_43 ?_
        refine q_tl (y := lN (((uI v) * (uI (σ.F j x))) + (uI (σ.F i x)))) (lN_add _ _) ?_
        refine lv_ladd hx hb dX0_addMultiple_44 ?_
        refine q_tl (y := lN (c0 + (((uI v) * (uI (σ.F j x))) + (uI (σ.F i x))))) (lN_add _ _) ?_
        generalize hT : c0 + (uI v * uI (σ.F j x) + uI (σ.F i x)) = T
        have hTb : T < 18446744073709551616 := by omega
        refine lv_lstore (lv' := [(6, .long (lN T)), (8, .int (nI x)), (4, .long (lN (uI v))), (0, .ref (g.P i)), (1, .ref (g.P j)), (2, .int v), (3, .int (nI g.k))]) hx hb dX0_addMultiple_45 hl (by decide) rfl (fun ls hl => ?_)
        refine lv_aload_n hx hb dX0_addMultiple_47 rfl (lv_at hl 3 rfl) ?_
        refine lv_iload hx hb dX0_addMultiple_48 (lv_at hl 1 rfl) ?_
        refine lv_lload hx hb dX0_addMultiple_50 (lv_at hl 0 rfl) ?_
        refine lv_l2i hx hb dX0_addMultiple_52 rfl ?_
        refine q_ti (y := nI T) (lN_i _) ?_
        refine q_iastF (i := i) (F := F) hx hb hW (j := x) hi (by omega) hk8 rfl dX0_addMultiple_53 (fun H locs hW => ?_)
        refine lv_lload hx hb dX0_addMultiple_54 (lv_at hl 0 rfl) ?_
        refine lv_bipush (v := 32) hx hb dX0_addMultiple_56 (by decide) ?_
        refine lv_lushr hx hb dX0_addMultiple_58 rfl ?_
        refine q_tl (y := lN (T / 4294967296)) (lN_ushr32 hTb) ?_
        refine lv_lstore (lv' := [(6, .long (lN (T / 4294967296))), (8, .int (nI x)), (4, .long (lN (uI v))), (0, .ref (g.P i)), (1, .ref (g.P j)), (2, .int v), (3, .int (nI g.k))]) hx hb dX0_addMultiple_59 hl (by decide) rfl (fun ls hl => ?_)
        refine lv_iinc (v := nI (x + 1)) (lv' := [(8, .int (nI (x + 1))), (6, .long (lN (T / 4294967296))), (4, .long (lN (uI v))), (0, .ref (g.P i)), (1, .ref (g.P j)), (2, .int v), (3, .int (nI g.k))]) hx hb dX0_addMultiple_61 hl (k := 1) rfl (nI_1 _) (by decide) rfl (fun ls hl => ?_)
        refine lv_goto (tgt := 14) hx hb dX0_addMultiple_64 (by decide) ?_
        refine ih (x + 1) _ _ (by omega) (by omega) (hR.st _) (by omega) ?_ H locs ls hW (lv_sub hl [0, 1, 2, 3, 4, 5, 6] rfl)
        rw [Ru.num, rv_succ, rv_succ, p32, uI_nI]
        exact st_mul (by omega) hv
  refine lv_iload_n hx hb dX0_addMultiple_0 rfl (lv_at hl 2 rfl) ?_
  refine lv_i2l hx hb dX0_addMultiple_1 rfl ?_
  refine lv_ldc2 (v := 4294967295) hx hb hown (hts (.constantLong RX0 15 (4294967295)) (by decide +kernel)) dX0_addMultiple_2 ?_
  refine lv_land hx hb dX0_addMultiple_5 ?_
  refine q_tl (y := lN (uI v)) (m32 _) ?_
  refine lv_lstore (lv' := [(4, .long (lN (uI v))), (0, .ref (g.P i)), (1, .ref (g.P j)), (2, .int v), (3, .int (nI g.k))]) hx hb dX0_addMultiple_6 hl (by decide) rfl (fun ls hl => ?_)
  refine lv_lconst (v := 0) hx hb dX0_addMultiple_8 (by decide) ?_
  refine lv_lstore (lv' := [(6, .long 0), (4, .long (lN (uI v))), (0, .ref (g.P i)), (1, .ref (g.P j)), (2, .int v), (3, .int (nI g.k))]) hx hb dX0_addMultiple_9 hl (by decide) rfl (fun ls hl => ?_)
  refine lv_iconst (v := 0) hx hb dX0_addMultiple_11 (by decide) ?_
  refine lv_istore (lv' := [(8, .int 0), (6, .long 0), (4, .long (lN (uI v))), (0, .ref (g.P i)), (1, .ref (g.P j)), (2, .int v), (3, .int (nI g.k))]) hx hb dX0_addMultiple_12 hl (by decide) rfl (fun ls hl => ?_)
  exact loop (g.k + 1) 0 0 σ.F (by omega) (by omega) Ru.rf (by omega) rfl _ _ ls hW (lv_sub hl [0, 1, 2, 3, 4, 5, 6] rfl)
set_option maxHeartbeats 4000000 in
set_option maxRecDepth 100000 in
/-- Limbs.dropLimb(row, top, k) -/
theorem k_dropLimb (l : Launch) (g : qCfg) (hg : g.ok) (σ : qSt) {i : Nat} (hi : 12 ≤ i ∧ i < g.N){t : Nat} (htb : t < 18446744073709551616) : qCL l g yX0_dropLimb wsX0_dropLimb 0 0 [.ref (g.P i), .long (lN t), .int (nI g.k)] σ (fun z σ' => ∃ F', σ' = σ.setF F' ∧ Fr σ.F F' [i] ∧ z = lN (t / 4294967296) ∧ qV g F' i + t / 4294967296 * 2 ^ (32 * g.k) = qV g σ.F i / 4294967296 + t * 2 ^ (32 * (g.k - 1))) := by
  refine q_sL (cc := cX0_dropLimb) (maxL := 5) (by decide) rfl (Nat.le_of_ble_eq_true rfl) ?_
  intro p e s m args below meth c ls Q S hW hl fin
  obtain ⟨hx, hb, hml, hown, hts, hr, hlocks⟩ := id S
  obtain ⟨hk1, hk8, hn1, hn8⟩ := id hg
  have hl : lv_has ls 5 [(0, .ref (g.P i)), (1, .long (lN t)), (3, .int (nI g.k))] := hl
  have loop : ∀ (n x : Nat) (F : Nat → Nat → Int32), x ≤ g.k → g.k + 1 ≤ x + n → 1 ≤ x → Ru σ.F F i x → (∀ y, y + 1 < x → F i y = σ.F i (y + 1)) → ∀ (H : Heap) (locs : List Loc) (ls : Array Slot), Wo g (Ad g s.heap.size) s H locs (σ.setF F) → lv_has ls 5 [(4, .int (nI x)), (0, .ref (g.P i)), (1, .long (lN t)), (3, .int (nI g.k))] → W p l e (rmm 0 0) s m args below meth c H locs 0 0 Q (F0 m 3 ls []) := by
    intro n
    induction n with
    | zero => intro x F h1 h2; exact absurd h2 (by omega)
    | succ n ih =>
      intro x F hx1 hx2 hx0 hR hd H locs ls hW hl
      refine lv_iload hx hb dX0_dropLimb_3 (lv_at hl 0 rfl) ?_
      refine lv_iload_n hx hb dX0_dropLimb_5 rfl (lv_at hl 3 rfl) ?_
      refine lv_icmp_ge (tgt := 25) hx hb dX0_dropLimb_6 (by decide) (fun c1 => ?_) (fun c1 => ?_)
      · have hx3 := nle c1 (by omega) (by omega)
        refine lv_aload_n hx hb dX0_dropLimb_25 rfl (lv_at hl 1 rfl) ?_
        refine lv_iload_n hx hb dX0_dropLimb_26 rfl (lv_at hl 3 rfl) ?_
        refine lv_iconst (v := 1) hx hb dX0_dropLimb_27 (by decide) ?_
        refine lv_isub hx hb dX0_dropLimb_28 ?_
        refine q_ti (y := nI (g.k - 1)) (pk_sub (b := 1) hk1) ?_
        refine lv_lload_n hx hb dX0_dropLimb_29 rfl (lv_at hl 2 rfl) ?_
        refine lv_l2i hx hb dX0_dropLimb_30 rfl ?_
        refine q_ti (y := nI t) (lN_i _) ?_
        refine q_iastF (i := i) (F := F) hx hb hW (j := (g.k - 1)) hi (by omega) hk8 rfl dX0_dropLimb_31 (fun H locs hW => ?_)
        refine lv_lload_n hx hb dX0_dropLimb_32 rfl (lv_at hl 2 rfl) ?_
        refine lv_bipush (v := 32) hx hb dX0_dropLimb_33 (by decide) ?_
        refine lv_lushr hx hb dX0_dropLimb_35 rfl ?_
        refine q_tl (y := lN (t / 4294967296)) (lN_ushr32 htb) ?_
        refine fin _ _ _ _ _ _ hW ⟨_, rfl, fun r hr => ?_, rfl, ?_⟩ dX0_dropLimb_36
        · rw [va_up_ne _ _ (fun q => hr (by rw [q]; exact List.mem_singleton_self i))]; exact hR.fr r hr
        · exact drop_num hk1 (fun y hy => by rw [va_up_self, pk_un (by omega)]; exact hd y (by omega)) (by rw [va_up_self, pk_us])
      · have hx3 := nge c1 (by omega)
        refine lv_aload_n hx hb dX0_dropLimb_9 rfl (lv_at hl 1 rfl) ?_
        refine lv_iload hx hb dX0_dropLimb_10 (lv_at hl 0 rfl) ?_
        refine lv_iconst (v := 1) hx hb dX0_dropLimb_12 (by decide) ?_
        refine lv_isub hx hb dX0_dropLimb_13 ?_
        refine q_ti (y := nI (x - 1)) (pk_sub (b := 1) hx0) ?_
        refine lv_aload_n hx hb dX0_dropLimb_14 rfl (lv_at hl 1 rfl) ?_
        refine lv_iload hx hb dX0_dropLimb_15 (lv_at hl 0 rfl) ?_
        refine q_iald hx hb hW (i := i) (j := x) hi (by omega) hk8 rfl dX0_dropLimb_17 ?_
        refine q_ti (y := σ.F i x) (hR.rd _) ?_
        refine q_iastF (i := i) (F := F) hx hb hW (j := (x - 1)) hi (by omega) hk8 rfl dX0_dropLimb_18 (fun H locs hW => ?_)
        refine lv_iinc (v := nI (x + 1)) (lv' := [(4, .int (nI (x + 1))), (0, .ref (g.P i)), (1, .long (lN t)), (3, .int (nI g.k))]) hx hb dX0_dropLimb_19 hl (k := 0) rfl (nI_1 _) (by decide) rfl (fun ls hl => ?_)
        refine lv_goto (tgt := 3) hx hb dX0_dropLimb_22 (by decide) ?_
        refine ih (x + 1) _ (by omega) (by omega) (by omega) ⟨fun r hr => ?_, fun y hy => ?_⟩ (fun y hy => ?_) H locs ls hW (lv_sub hl [0, 1, 2, 3] rfl)
        · rw [va_up_ne _ _ hr]; exact hR.1 r hr
        · rw [va_up_self, pk_un (by omega)]; exact hR.2 y (by omega)
        · rw [va_up_self]
          by_cases q : y = x - 1
          · subst q
            rw [pk_us, show x - 1 + 1 = x by omega]
          · rw [pk_un q]; exact hd y (by omega)
  refine lv_iconst (v := 1) hx hb dX0_dropLimb_0 (by decide) ?_
  refine lv_istore (lv' := [(4, .int 1), (0, .ref (g.P i)), (1, .long (lN t)), (3, .int (nI g.k))]) hx hb dX0_dropLimb_1 hl (by decide) rfl (fun ls hl => ?_)
  exact loop (g.k + 1) 1 σ.F (by omega) (by omega) (by omega) Ru.rf (fun y hy => absurd hy (by omega)) _ _ ls hW (lv_sub hl [0, 1, 2, 3] rfl)
set_option maxHeartbeats 4000000 in
set_option maxRecDepth 100000 in
/-- Limbs.halve(row, top, k) -/
theorem k_halve (l : Launch) (g : qCfg) (hg : g.ok) (σ : qSt) {i : Nat} (hi : 12 ≤ i ∧ i < g.N){t : Nat} (htb : t ≤ 1) : qCV l g yX0_halve wsX0_halve 0 0 [.ref (g.P i), .long (lN t), .int (nI g.k)] σ (fun σ' => ∃ F', σ' = σ.setF F' ∧ Fr σ.F F' [i] ∧ qV g F' i = (qV g σ.F i + t * 2 ^ (32 * g.k)) / 2) := by
  refine q_sV (cc := cX0_halve) (maxL := 9) (by decide) rfl (Nat.le_of_ble_eq_true rfl) ?_
  intro p e s m args below meth c ls Q S hW hl fin
  obtain ⟨hx, hb, hml, hown, hts, hr, hlocks⟩ := id S
  obtain ⟨hk1, hk8, hn1, hn8⟩ := id hg
  have hl : lv_has ls 9 [(0, .ref (g.P i)), (1, .long (lN t)), (3, .int (nI g.k))] := hl
  have loop : ∀ (x : Nat) (a0 : Nat) (F : Nat → Nat → Int32), x ≤ g.k → Rw σ.F F i x → a0 ≤ 1 → 2 * rv (F i) g.k + a0 * 2 ^ (32 * x) = rv (σ.F i) g.k + t * 2 ^ (32 * g.k) + rv (σ.F i) x → ∀ (H : Heap) (locs : List Loc) (ls : Array Slot), Wo g (Ad g s.heap.size) s H locs (σ.setF F) → lv_has ls 9 [(6, .int (nI x - 1)), (4, .long (lN a0)), (0, .ref (g.P i)), (1, .long (lN t)), (3, .int (nI g.k))] → W p l e (rmm 0 0) s m args below meth c H locs 0 0 Q (F0 m 8 ls []) := by
    intro x
    induction x with
    | zero =>
      intro a0 F hx1 hR ha hv H locs ls hW hl
      refine lv_iload hx hb dX0_halve_8 (lv_at hl 0 rfl) ?_
      refine lv_if_lt (tgt := 51) hx hb dX0_halve_10 (by decide) (fun _ => ?_) (fun c9 => absurd (by decide) c9)
      exact fin _ _ _ _ _ hW (⟨F, rfl, hR.fr, by
              have h1 : 2 * rv (F i) g.k + a0 * 1 = rv (σ.F i) g.k + t * 2 ^ (32 * g.k) + 0 := hv
              show rv (F i) g.k = (rv (σ.F i) g.k + t * 2 ^ (32 * g.k)) / 2
              omega⟩) dX0_halve_51
    | succ x ih =>
      intro a0 F hx1 hR ha hv H locs ls hW hl
      rw [nI_pred] at hl
      refine lv_iload hx hb dX0_halve_8 (lv_at hl 0 rfl) ?_
      refine lv_if_lt (tgt := 51) hx hb dX0_halve_10 (by decide) (fun c9 => absurd c9 (nI_pos (by omega))) (fun _ => ?_)
      have hb1 := uI_lt (σ.F i x)
      refine lv_lload hx hb dX0_halve_13 (lv_at hl 1 rfl) ?_
      refine lv_bipush (v := 32) hx hb dX0_halve_15 (by decide) ?_
      refine lv_lshl hx hb dX0_halve_17 rfl ?_
      refine q_tl (y := lN (a0 * 4294967296)) (wb_shl (k := 32) a0 (by decide)) ?_
      refine lv_aload_n hx hb dX0_halve_18 rfl (lv_at hl 2 rfl) ?_
      refine lv_iload hx hb dX0_halve_19 (lv_at hl 0 rfl) ?_
      refine q_iald hx hb hW (i := i) (j := x) hi (by omega) hk8 rfl dX0_halve_21 ?_
      refine q_ti (y := σ.F i x) (hR.rd (Nat.lt_succ_self _) _) ?_
      refine lv_i2l hx hb dX0_halve_22 rfl ?_
      refine lv_ldc2 (v := 4294967295) hx hb hown (hts (.constantLong RX0 15 (4294967295)) (by decide +kernel)) dX0_halve_23 ?_
      refine lv_land hx hb dX0_halve_26 ?_
      refine q_tl (y := lN (uI (σ.F i x))) (m32 _) ?_
      refine lv_lor hx hb dX0_halve_27 ?_
      refine q_tl (y := lN (a0 * 4294967296 + uI (σ.F i x))) (lor_B hb1 (by omega)) ?_
      generalize hT : a0 * 4294967296 + uI (σ.F i x) = T
      refine lv_lstore (lv' := [(7, .long (lN T)), (6, .int (nI x)), (4, .long (lN a0)), (0, .ref (g.P i)), (1, .long (lN t)), (3, .int (nI g.k))]) hx hb dX0_halve_28 hl (by decide) rfl (fun ls hl => ?_)
      refine lv_aload_n hx hb dX0_halve_30 rfl (lv_at hl 3 rfl) ?_
      refine lv_iload hx hb dX0_halve_31 (lv_at hl 1 rfl) ?_
      refine lv_lload hx hb dX0_halve_33 (lv_at hl 0 rfl) ?_
      refine lv_iconst (v := 1) hx hb dX0_halve_35 (by decide) ?_
      refine lv_lushr hx hb dX0_halve_36 rfl ?_
      refine q_tl (y := lN (T / 2)) (lN_ushr1 (by omega)) ?_
      refine lv_l2i hx hb dX0_halve_37 rfl ?_
      refine q_ti (y := nI (T / 2)) (lN_i _) ?_
      refine q_iastF (i := i) (F := F) hx hb hW (j := x) hi (by omega) hk8 rfl dX0_halve_38 (fun H locs hW => ?_)
      refine lv_lload hx hb dX0_halve_39 (lv_at hl 0 rfl) ?_
      refine lv_lconst (v := 1) hx hb dX0_halve_41 (by decide) ?_
      refine lv_land hx hb dX0_halve_42 ?_
      refine q_tl (y := lN (T % 2)) (wb_a1 (by omega)) ?_
      refine lv_lstore (lv' := [(4, .long (lN (T % 2))), (7, .long (lN T)), (6, .int (nI x)), (0, .ref (g.P i)), (1, .long (lN t)), (3, .int (nI g.k))]) hx hb dX0_halve_43 hl (by decide) rfl (fun ls hl => ?_)
      refine lv_iinc (v := nI x - 1) (lv' := [(6, .int (nI x - 1)), (4, .long (lN (T % 2))), (7, .long (lN T)), (0, .ref (g.P i)), (1, .long (lN t)), (3, .int (nI g.k))]) hx hb dX0_halve_45 hl (k := 2) rfl (by rw [Int32.sub_eq_add_neg]; rfl) (by decide) rfl (fun ls hl => ?_)
      refine lv_goto (tgt := 8) hx hb dX0_halve_48 (by decide) ?_
      refine ih (T % 2) _ (by omega) (hR.st _) (by omega) ?_ H locs ls hW (lv_sub hl [0, 1, 3, 4, 5] rfl)
      have h1 := rv_updk (f := F i) (v := nI (T / 2)) (show x < g.k by omega)
      rw [hR.rd (Nat.lt_succ_self _) i, uI_nI' (by omega)] at h1
      rw [va_up_self]
      rw [rv_succ, p32] at hv
      exact st_half (by omega) h1 hv
  refine lv_lload_n hx hb dX0_halve_0 rfl (lv_at hl 1 rfl) ?_
  refine lv_lstore (lv' := [(4, .long (lN t)), (0, .ref (g.P i)), (1, .long (lN t)), (3, .int (nI g.k))]) hx hb dX0_halve_1 hl (by decide) rfl (fun ls hl => ?_)
  refine lv_iload_n hx hb dX0_halve_3 rfl (lv_at hl 3 rfl) ?_
  refine lv_iconst (v := 1) hx hb dX0_halve_4 (by decide) ?_
  refine lv_isub hx hb dX0_halve_5 ?_
  refine lv_istore (lv' := [(6, .int ((nI g.k) - 1)), (4, .long (lN t)), (0, .ref (g.P i)), (1, .long (lN t)), (3, .int (nI g.k))]) hx hb dX0_halve_6 hl (by decide) rfl (fun ls hl => ?_)
  exact loop g.k t σ.F (Nat.le_refl _) Rw.rf htb (by omega) _ _ ls hW (lv_sub hl [0, 1, 2, 3, 4] rfl)
