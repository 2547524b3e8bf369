set_option maxHeartbeats 4000000 in
set_option maxRecDepth 100000 in
/-- reference: copy(to, from) -/
theorem n_copy (l : Launch) (g : qCfg) (hg : g.ok) (σ : qSt) {i j : Nat} (hi : 5 ≤ i ∧ i < 12)(hj : 5 ≤ j ∧ j < 12) : qCV l g yX3_copy wsX3_copy 0 0 [.ref (g.P i), .ref (g.P j)] σ (fun σ' => ∃ J', σ' = σ.setJ J' ∧ Gr σ.J J' [i] ∧ ∀ x, x < 9 → J' i x = σ.J j x) := by
  refine q_sV (cc := cX3_copy) (maxL := 3) (by decide) rfl (Nat.le_of_ble_eq_true rfl) ?_
  intro p e s m args below meth c ls Q S hW hl fin
  obtain ⟨hx, hb, hml, hown, hts, hr, hlocks⟩ := id S
  obtain ⟨hk1, hk8, hn1, hn8⟩ := id hg
  have hl : lv_has ls 3 [(0, .ref (g.P i)), (1, .ref (g.P j))] := hl
  have loop : ∀ (n x : Nat) (J : Nat → Nat → Int64), x ≤ 9 → 9 + 1 ≤ x + n → Ju σ.J J i x → (∀ y, y < x → J i y = σ.J j y) → ∀ (H : Heap) (locs : List Loc) (ls : Array Slot), Wo g (Ad g s.heap.size) s H locs (σ.setJ J) → lv_has ls 3 [(2, .int (nI x)), (0, .ref (g.P i)), (1, .ref (g.P j))] → W p l e (rmm 0 0) s m args below meth c H locs 0 0 Q (F0 m 2 ls []) := by
    intro n
    induction n with
    | zero => intro x J h1 h2; exact absurd h2 (by omega)
    | succ n ih =>
      intro x J hx1 hx2 hR hd H locs ls hW hl
      refine lv_iload_n hx hb dX3_copy_2 rfl (lv_at hl 0 rfl) ?_
      refine lv_bipush (v := 9) hx hb dX3_copy_3 (by decide) ?_
      refine lv_icmp_ge (tgt := 20) hx hb dX3_copy_5 (by decide) (fun c1 => ?_) (fun c1 => ?_)
      · have hx3 := nle (b := 9) c1 (by omega) (by omega)
        exact fin _ _ _ _ _ hW (⟨J, rfl, hR.fr, fun y hy => hd y (by omega)⟩) dX3_copy_20
      · have hx3 := nge (b := 9) c1 (by omega)
        refine lv_aload_n hx hb dX3_copy_8 rfl (lv_at hl 1 rfl) ?_
        refine lv_iload_n hx hb dX3_copy_9 rfl (lv_at hl 0 rfl) ?_
        refine lv_aload_n hx hb dX3_copy_10 rfl (lv_at hl 2 rfl) ?_
        refine lv_iload_n hx hb dX3_copy_11 rfl (lv_at hl 0 rfl) ?_
        refine q_lald hx hb hW (i := j) (j := x) ⟨by omega, by omega⟩ (by rw [lsz9 (by omega)]; omega) rfl dX3_copy_12 ?_
        refine q_tl (y := σ.J j x) (hR.rd _) ?_
        refine q_lastJ (i := i) (J := J) hx hb hW (j := x) ⟨by omega, by omega⟩ (by rw [lsz9 (by omega)]; omega) rfl dX3_copy_13 (fun H locs hW => ?_)
        refine lv_iinc (v := nI (x + 1)) (lv' := [(2, .int (nI (x + 1))), (0, .ref (g.P i)), (1, .ref (g.P j))]) hx hb dX3_copy_14 hl (k := 0) rfl (nI_1 _) (by decide) rfl (fun ls hl => ?_)
        refine lv_goto (tgt := 2) hx hb dX3_copy_17 (by decide) ?_
        exact ih (x + 1) _ (by omega) (by omega) (hR.st _) (fun y hy => by
          rw [va_up_self]
          by_cases q : y = x
          · rw [q, va_up_self]
          · rw [va_up_ne _ _ q]; exact hd y (by omega)) H locs ls hW (lv_sub hl [0, 1, 2] rfl)
  refine lv_iconst (v := 0) hx hb dX3_copy_0 (by decide) ?_
  refine lv_istore_n (lv' := [(2, .int 0), (0, .ref (g.P i)), (1, .ref (g.P j))]) hx hb dX3_copy_1 rfl hl (by decide) rfl (fun ls hl => ?_)
  exact loop 10 0 σ.J (by omega) (by omega) Ju.rf (fun y hy => absurd hy (by omega)) _ _ ls hW (lv_sub hl [0, 1, 2] rfl)
set_option maxHeartbeats 4000000 in
set_option maxRecDepth 100000 in
/-- reference: be(to, v) -/
theorem n_be (l : Launch) (g : qCfg) (hg : g.ok) (σ : qSt) {i t : Nat} (hi : 5 ≤ i ∧ i < 12)(ht : t < 4294967296) : qCV l g yX3_be wsX3_be 0 0 [.ref (g.P i), .long (lN t)] σ (fun σ' => ∃ J', σ' = σ.setJ J' ∧ Gr σ.J J' [i] ∧ Nb J' i t) := by
  refine q_sV (cc := cX3_be) (maxL := 4) (by decide) rfl (Nat.le_of_ble_eq_true rfl) ?_
  intro p e s m args below meth c ls Q S hW hl fin
  obtain ⟨hx, hb, hml, hown, hts, hr, hlocks⟩ := id S
  obtain ⟨hk1, hk8, hn1, hn8⟩ := id hg
  have hl : lv_has ls 4 [(0, .ref (g.P i)), (1, .long (lN t))] := hl
  have loop : ∀ (n x : Nat) (J : Nat → Nat → Int64), x ≤ 9 → 9 + 1 ≤ x + n → Ju σ.J J i x → (∀ y, y < x → J i y = if y = 0 then lN t else 0) → ∀ (H : Heap) (locs : List Loc) (ls : Array Slot), Wo g (Ad g s.heap.size) s H locs (σ.setJ J) → lv_has ls 4 [(3, .int (nI x)), (0, .ref (g.P i)), (1, .long (lN t))] → W p l e (rmm 0 0) s m args below meth c H locs 0 0 Q (F0 m 2 ls []) := by
    intro n
    induction n with
    | zero => intro x J h1 h2; exact absurd h2 (by omega)
    | succ n ih =>
      intro x J hx1 hx2 hR hd H locs ls hW hl
      refine lv_iload_n hx hb dX3_be_2 rfl (lv_at hl 0 rfl) ?_
      refine lv_bipush (v := 9) hx hb dX3_be_3 (by decide) ?_
      refine lv_icmp_ge (tgt := 26) hx hb dX3_be_5 (by decide) (fun c1 => ?_) (fun c1 => ?_)
      · have hx3 := nle (b := 9) c1 (by omega) (by omega)
        have hdg : ∀ y, y < 9 → uL (J i y) = if y = 0 then t else 0 := fun y hy => by
          rw [hd y (by omega)]
          split
          · exact uL_lN (by omega)
          · rfl
        exact fin _ _ _ _ _ hW (⟨J, rfl, hR.fr, fun y hy => by show uL (J i y) < _; rw [hdg y hy]; split <;> omega, by rw [dv_one (by decide) (fun y h1 h2 => by rw [hdg y h2, if_neg (by omega)]), hdg 0 (by decide), if_pos rfl]⟩) dX3_be_26
      · have hx3 := nge (b := 9) c1 (by omega)
        refine lv_aload_n hx hb dX3_be_8 rfl (lv_at hl 1 rfl) ?_
        refine lv_iload_n hx hb dX3_be_9 rfl (lv_at hl 0 rfl) ?_
        refine lv_iload_n hx hb dX3_be_10 rfl (lv_at hl 0 rfl) ?_
        refine lv_if_ne (tgt := 18) hx hb dX3_be_11 (by decide) (fun c2 => ?_) (fun c2 => ?_)
        · have hx0 : x ≠ 0 := fun q => c2 (by rw [q]; rfl)
          refine lv_lconst (v := 0) hx hb dX3_be_18 (by decide) ?_
          refine q_lastJ (i := i) (J := J) hx hb hW (j := x) ⟨by omega, by omega⟩ (by rw [lsz9 (by omega)]; omega) rfl dX3_be_19 (fun H locs hW => ?_)
          refine lv_iinc (v := nI (x + 1)) (lv' := [(3, .int (nI (x + 1))), (0, .ref (g.P i)), (1, .long (lN t))]) hx hb dX3_be_20 hl (k := 0) rfl (nI_1 _) (by decide) rfl (fun ls hl => ?_)
          refine lv_goto (tgt := 2) hx hb dX3_be_23 (by decide) ?_
          exact ih (x + 1) _ (by omega) (by omega) (hR.st _) (fun y hy => by
            rw [va_up_self]
            by_cases q : y = x
            · rw [q, va_up_self, if_neg hx0]
            · rw [va_up_ne _ _ q]; exact hd y (by omega)) H locs ls hW (lv_sub hl [0, 1, 2] rfl)
        · have hx0 : x = 0 := (nI_eq (by omega) (by decide)).mp (c2.trans nI_0.symm)
          refine lv_lload_n hx hb dX3_be_14 rfl (lv_at hl 2 rfl) ?_
          refine lv_goto (tgt := 19) hx hb dX3_be_15 (by decide) ?_
          refine q_lastJ (i := i) (J := J) hx hb hW (j := x) ⟨by omega, by omega⟩ (by rw [lsz9 (by omega)]; omega) rfl dX3_be_19 (fun H locs hW => ?_)
          refine lv_iinc (v := nI (x + 1)) (lv' := [(3, .int (nI (x + 1))), (0, .ref (g.P i)), (1, .long (lN t))]) hx hb dX3_be_20 hl (k := 0) rfl (nI_1 _) (by decide) rfl (fun ls hl => ?_)
          refine lv_goto (tgt := 2) hx hb dX3_be_23 (by decide) ?_
          exact ih (x + 1) _ (by omega) (by omega) (hR.st _) (fun y hy => by
            rw [va_up_self]
            by_cases q : y = x
            · rw [q, va_up_self, if_pos hx0]
            · rw [va_up_ne _ _ q]; exact hd y (by omega)) H locs ls hW (lv_sub hl [0, 1, 2] rfl)
  refine lv_iconst (v := 0) hx hb dX3_be_0 (by decide) ?_
  refine lv_istore_n (lv' := [(3, .int 0), (0, .ref (g.P i)), (1, .long (lN t))]) hx hb dX3_be_1 rfl hl (by decide) rfl (fun ls hl => ?_)
  exact loop 10 0 σ.J (by omega) (by omega) Ju.rf (fun y hy => absurd hy (by omega)) _ _ ls hW (lv_sub hl [0, 1, 2] rfl)
set_option maxHeartbeats 4000000 in
set_option maxRecDepth 100000 in
/-- reference: compared(a, b) -/
theorem n_compared (l : Launch) (g : qCfg) (hg : g.ok) (σ : qSt) {i j u v : Nat} (hi : 5 ≤ i ∧ i < 12)(hj : 5 ≤ j ∧ j < 12)(hu : Nb σ.J i u) (hv : Nb σ.J j v) : qCI l g yX3_compared wsX3_compared 0 0 [.ref (g.P i), .ref (g.P j)] σ (fun r σ' => σ' = σ ∧ r = if u < v then -1 else if u = v then 0 else 1) := by
  refine q_sI (cc := cX3_compared) (maxL := 3) (by decide) rfl (Nat.le_of_ble_eq_true rfl) ?_
  intro p e s m args below meth c ls Q S hW hl fin
  obtain ⟨hx, hb, hml, hown, hts, hr, hlocks⟩ := id S
  obtain ⟨hk1, hk8, hn1, hn8⟩ := id hg
  have hl : lv_has ls 3 [(0, .ref (g.P i)), (1, .ref (g.P j))] := hl
  have loop : ∀ (x : Nat), x ≤ 9 → (∀ y, x ≤ y → y < 9 → uL (σ.J i y) = uL (σ.J j y)) → ∀ (H : Heap) (locs : List Loc) (ls : Array Slot), Wo g (Ad g s.heap.size) s H locs σ → lv_has ls 3 [(2, .int (nI x - 1)), (0, .ref (g.P i)), (1, .ref (g.P j))] → W p l e (rmm 0 0) s m args below meth c H locs 0 0 Q (F0 m 3 ls []) := by
    intro x
    induction x with
    | zero =>
      intro hx1 hd H locs ls hW hl
      refine lv_iload_n hx hb dX3_compared_3 rfl (lv_at hl 0 rfl) ?_
      refine lv_if_lt (tgt := 39) hx hb dX3_compared_4 (by decide) (fun _ => ?_) (fun c9 => absurd (by decide) c9)
      refine lv_iconst (v := 0) hx hb dX3_compared_39 (by decide) ?_
      have he : u = v := by
        rw [← hu.2, ← hv.2]
        exact dv_cong (fun y hy => hd y (Nat.zero_le y) hy)
      exact fin _ _ _ _ _ _ hW (⟨rfl, by rw [if_neg (by omega), if_pos he]⟩) dX3_compared_40
    | succ x ih =>
      intro hx1 hd H locs ls hW hl
      rw [nI_pred] at hl
      have hb1 : uL (σ.J i x) < 4294967296 := hu.1 x (by omega)
      have hb2 : uL (σ.J j x) < 4294967296 := hv.1 x (by omega)
      refine lv_iload_n hx hb dX3_compared_3 rfl (lv_at hl 0 rfl) ?_
      refine lv_if_lt (tgt := 39) hx hb dX3_compared_4 (by decide) (fun c9 => absurd c9 (nI_pos (by omega))) (fun _ => ?_)
      refine lv_aload_n hx hb dX3_compared_7 rfl (lv_at hl 1 rfl) ?_
      refine lv_iload_n hx hb dX3_compared_8 rfl (lv_at hl 0 rfl) ?_
      refine q_lald hx hb hW (i := i) (j := x) ⟨by omega, by omega⟩ (by rw [lsz9 (by omega)]; omega) rfl dX3_compared_9 ?_
      refine q_tl (y := lN (uL (σ.J i x))) ((lN_uL _).symm) ?_
      refine lv_aload_n hx hb dX3_compared_10 rfl (lv_at hl 2 rfl) ?_
      refine lv_iload_n hx hb dX3_compared_11 rfl (lv_at hl 0 rfl) ?_
      refine q_lald hx hb hW (i := j) (j := x) ⟨by omega, by omega⟩ (by rw [lsz9 (by omega)]; omega) rfl dX3_compared_12 ?_
      refine q_tl (y := lN (uL (σ.J j x))) ((lN_uL _).symm) ?_
      refine W.lcmp hx hb dX3_compared_13 ?_
      refine lv_if_eq (tgt := 33) hx hb dX3_compared_14 (by decide) (fun c1 => ?_) (fun c1 => ?_)
      · have h0 := (lcmp_eq (by omega) (by omega)).mp c1
        refine lv_iinc (v := nI x - 1) (lv' := [(2, .int (nI x - 1)), (0, .ref (g.P i)), (1, .ref (g.P j))]) hx hb dX3_compared_33 hl (k := 0) rfl (by rw [Int32.sub_eq_add_neg]; rfl) (by decide) rfl (fun ls hl => ?_)
        refine lv_goto (tgt := 3) hx hb dX3_compared_36 (by decide) ?_
        exact ih (by omega) (fun y h1 h2 => by
          by_cases q : y = x
          · rw [q]; exact h0
          · exact hd y (by omega) h2) H locs ls hW (lv_sub hl [0, 1, 2] rfl)
      · have hne : ¬ uL (σ.J i x) = uL (σ.J j x) := fun q => c1 ((lcmp_eq (by omega) (by omega)).mpr q)
        refine lv_aload_n hx hb dX3_compared_17 rfl (lv_at hl 1 rfl) ?_
        refine lv_iload_n hx hb dX3_compared_18 rfl (lv_at hl 0 rfl) ?_
        refine q_lald hx hb hW (i := i) (j := x) ⟨by omega, by omega⟩ (by rw [lsz9 (by omega)]; omega) rfl dX3_compared_19 ?_
        refine q_tl (y := lN (uL (σ.J i x))) ((lN_uL _).symm) ?_
        refine lv_aload_n hx hb dX3_compared_20 rfl (lv_at hl 2 rfl) ?_
        refine lv_iload_n hx hb dX3_compared_21 rfl (lv_at hl 0 rfl) ?_
        refine q_lald hx hb hW (i := j) (j := x) ⟨by omega, by omega⟩ (by rw [lsz9 (by omega)]; omega) rfl dX3_compared_22 ?_
        refine q_tl (y := lN (uL (σ.J j x))) ((lN_uL _).symm) ?_
        refine W.lcmp hx hb dX3_compared_23 ?_
        have hj1 : x + 1 + (9 - (x + 1)) = 9 := by omega
        have hlt : uL (σ.J i x) < uL (σ.J j x) → u < v := fun q => by
          have h9 := dv_less (d := fun y => uL (σ.J i y)) (e := fun y => uL (σ.J j y)) (x := x) (dB_le hu.1 (by omega)) q (j := 9 - (x + 1)) (fun y h1 h2 => by rw [hd y (by omega) (by omega)])
          rw [hj1, hu.2, hv.2] at h9
          exact h9
        have hgt : uL (σ.J j x) < uL (σ.J i x) → v < u := fun q => by
          have h9 := dv_less (d := fun y => uL (σ.J j y)) (e := fun y => uL (σ.J i y)) (x := x) (dB_le hv.1 (by omega)) q (j := 9 - (x + 1)) (fun y h1 h2 => by rw [hd y (by omega) (by omega)])
          rw [hj1, hu.2, hv.2] at h9
          exact h9
        refine lv_if_ge (tgt := 31) hx hb dX3_compared_24 (by decide) (fun c2 => ?_) (fun c2 => ?_)
        · refine lv_iconst (v := 1) hx hb dX3_compared_31 (by decide) ?_
          have h0 := hgt (by have := (lcmp_ge (by omega) (by omega)).mp c2; omega)
          exact fin _ _ _ _ _ _ hW (⟨rfl, by rw [if_neg (by omega), if_neg (by omega)]⟩) dX3_compared_32
        · refine lv_iconst (v := (-1)) hx hb dX3_compared_27 (by decide) ?_
          refine lv_goto (tgt := 32) hx hb dX3_compared_28 (by decide) ?_
          have h0 := hlt (Nat.not_le.mp (fun q => c2 ((lcmp_ge (by omega) (by omega)).mpr q)))
          exact fin _ _ _ _ _ _ hW (⟨rfl, by rw [if_pos h0]⟩) dX3_compared_32
  refine lv_bipush (v := 8) hx hb dX3_compared_0 (by decide) ?_
  refine q_ti (y := nI 9 - 1) (by decide) ?_
  refine lv_istore_n (lv' := [(2, .int (nI 9 - 1)), (0, .ref (g.P i)), (1, .ref (g.P j))]) hx hb dX3_compared_2 rfl hl (by decide) rfl (fun ls hl => ?_)
  exact loop 9 (Nat.le_refl _) (fun y h1 h2 => absurd h2 (by omega)) _ _ ls hW (lv_sub hl [0, 1, 2] rfl)
set_option maxHeartbeats 4000000 in
set_option maxRecDepth 100000 in
/-- reference: isNought -/
theorem n_isNought (l : Launch) (g : qCfg) (hg : g.ok) (σ : qSt) {i u : Nat} (hi : 5 ≤ i ∧ i < 12)(hu : Nb σ.J i u) : qCI l g yX3_isNought wsX3_isNought 0 0 [.ref (g.P i)] σ (fun r σ' => σ' = σ ∧ r = if u = 0 then 1 else 0) := by
  refine q_sZ (cc := cX3_isNought) (maxL := 3) (by decide) rfl (Nat.le_of_ble_eq_true rfl) ?_
  intro p e s m args below meth c ls Q S hW hl fin
  obtain ⟨hx, hb, hml, hown, hts, hr, hlocks⟩ := id S
  obtain ⟨hk1, hk8, hn1, hn8⟩ := id hg
  have hl : lv_has ls 3 [(0, .ref (g.P i))] := hl
  have hiff := dv_small (d := fun x => uL (σ.J i x)) (k := 9) (v := 0) (by decide) hu.1 (by decide)
  rw [hu.2] at hiff
  have loop : ∀ (n x : Nat) (z : Int32), x ≤ 9 → 10 ≤ x + n → 0 ≤ x → (z = 1 ∧ (∀ y, y < x → uL (σ.J i y) = if y = 0 then 0 else 0) ∨ z = 0 ∧ ¬ (∀ y, y < x → uL (σ.J i y) = if y = 0 then 0 else 0)) → ∀ (H : Heap) (locs : List Loc) (ls : Array Slot), Wo g (Ad g s.heap.size) s H locs σ → lv_has ls 3 [(2, .int (nI x)), (1, .int z), (0, .ref (g.P i))] → W p l e (rmm 0 0) s m args below meth c H locs 0 0 Q (F0 m 4 ls []) := by
    intro n
    induction n with
    | zero => intro x z h1 h2; exact absurd h2 (by omega)
    | succ n ih =>
      intro x z hx1 hx2 hx0 hz H locs ls hW hl
      refine lv_iload_n hx hb dX3_isNought_4 rfl (lv_at hl 0 rfl) ?_
      refine lv_bipush (v := 9) hx hb dX3_isNought_5 (by decide) ?_
      refine lv_icmp_ge (tgt := 34) hx hb dX3_isNought_7 (by decide) (fun c1 => ?_) (fun c1 => ?_)
      · have hx3 := nle (b := 9) c1 (by omega) (by omega)
        have hx4 : x = 9 := by omega
        subst hx4
        refine lv_iload_n hx hb dX3_isNought_34 rfl (lv_at hl 1 rfl) ?_
        have hall : u = 0 ↔ (∀ y, y < 9 → uL (σ.J i y) = if y = 0 then 0 else 0) := by
          rw [hiff]
          exact ⟨fun q y hy => by
            by_cases q0 : y = 0
            · rw [q0, if_pos rfl]; exact q.1
            · rw [if_neg q0]; exact q.2 y (by omega) hy, fun q => ⟨q 0 (by decide), fun y h1 h2 => (q y h2).trans (if_neg (by omega))⟩⟩
        rcases hz with ⟨e1, e2⟩ | ⟨e1, e2⟩
        · subst e1
          exact fin _ _ _ _ _ _ (Or.inr rfl) hW ⟨rfl, (if_pos (hall.mpr e2)).symm⟩ dX3_isNought_35
        · subst e1
          exact fin _ _ _ _ _ _ (Or.inl rfl) hW ⟨rfl, (if_neg (fun q => e2 (hall.mp q))).symm⟩ dX3_isNought_35
      · have hx3 := nge (b := 9) c1 (by omega)
        have hb1 : uL (σ.J i x) < 4294967296 := hu.1 x hx3
        refine lv_iload_n hx hb dX3_isNought_10 rfl (lv_at hl 1 rfl) ?_
        refine lv_if_eq (tgt := 26) hx hb dX3_isNought_11 (by decide) (fun c2 => ?_) (fun c2 => ?_)
        · have hz0 := hz.resolve_left (fun q => absurd (q.1.symm.trans c2) (by decide))
          refine lv_iconst (v := 0) hx hb dX3_isNought_26 (by decide) ?_
          refine lv_istore_n (lv' := [(1, .int 0), (2, .int (nI x)), (0, .ref (g.P i))]) hx hb dX3_isNought_27 rfl hl (by decide) rfl (fun ls hl => ?_)
          refine lv_iinc (v := nI (x + 1)) (lv' := [(2, .int (nI (x + 1))), (1, .int 0), (0, .ref (g.P i))]) hx hb dX3_isNought_28 hl (k := 1) rfl (nI_1 _) (by decide) rfl (fun ls hl => ?_)
          refine lv_goto (tgt := 4) hx hb dX3_isNought_31 (by decide) ?_
          exact ih (x + 1) 0 (by omega) (by omega) (by omega) (Or.inr ⟨rfl, fun q => hz0.2 (fun y hy => q y (by omega))⟩) H locs ls hW (lv_sub hl [0, 1, 2] rfl)
        · have hz0 := hz.resolve_right (fun q => c2 q.1)
          refine lv_aload_n hx hb dX3_isNought_14 rfl (lv_at hl 2 rfl) ?_
          refine lv_iload_n hx hb dX3_isNought_15 rfl (lv_at hl 0 rfl) ?_
          refine q_lald hx hb hW (i := i) (j := x) ⟨by omega, by omega⟩ (by rw [lsz9 (by omega)]; omega) rfl dX3_isNought_16 ?_
          refine q_tl (y := lN (uL (σ.J i x))) ((lN_uL _).symm) ?_
          refine lv_lconst (v := 0) hx hb dX3_isNought_17 (by decide) ?_
          refine W.lcmp hx hb dX3_isNought_18 ?_
          refine lv_if_ne (tgt := 26) hx hb dX3_isNought_19 (by decide) (fun c3 => ?_) (fun c3 => ?_)
          · have h0 : ¬ uL (σ.J i x) = 0 := fun q => c3 ((lcmp_0 (by omega)).mpr q)
            refine lv_iconst (v := 0) hx hb dX3_isNought_26 (by decide) ?_
            refine lv_istore_n (lv' := [(1, .int 0), (2, .int (nI x)), (0, .ref (g.P i))]) hx hb dX3_isNought_27 rfl hl (by decide) rfl (fun ls hl => ?_)
            refine lv_iinc (v := nI (x + 1)) (lv' := [(2, .int (nI (x + 1))), (1, .int 0), (0, .ref (g.P i))]) hx hb dX3_isNought_28 hl (k := 1) rfl (nI_1 _) (by decide) rfl (fun ls hl => ?_)
            refine lv_goto (tgt := 4) hx hb dX3_isNought_31 (by decide) ?_
            exact ih (x + 1) 0 (by omega) (by omega) (by omega) (Or.inr ⟨rfl, fun q => h0 ((q x (Nat.lt_succ_self x)).trans (by split <;> rfl))⟩) H locs ls hW (lv_sub hl [0, 1, 2] rfl)
          · have h0 : uL (σ.J i x) = 0 := (lcmp_0 (by omega)).mp c3
            refine lv_iconst (v := 1) hx hb dX3_isNought_22 (by decide) ?_
            refine lv_goto (tgt := 27) hx hb dX3_isNought_23 (by decide) ?_
            refine lv_istore_n (lv' := [(1, .int 1), (2, .int (nI x)), (0, .ref (g.P i))]) hx hb dX3_isNought_27 rfl hl (by decide) rfl (fun ls hl => ?_)
            refine lv_iinc (v := nI (x + 1)) (lv' := [(2, .int (nI (x + 1))), (1, .int 1), (0, .ref (g.P i))]) hx hb dX3_isNought_28 hl (k := 1) rfl (nI_1 _) (by decide) rfl (fun ls hl => ?_)
            refine lv_goto (tgt := 4) hx hb dX3_isNought_31 (by decide) ?_
            exact ih (x + 1) 1 (by omega) (by omega) (by omega) (Or.inl ⟨rfl, fun y hy => by
              by_cases q : y = x
              · rw [q, h0]; split <;> rfl
              · exact hz0.2 y (by omega)⟩) H locs ls hW (lv_sub hl [0, 1, 2] rfl)
  refine lv_iconst (v := 1) hx hb dX3_isNought_0 (by decide) ?_
  refine lv_istore_n (lv' := [(1, .int 1), (0, .ref (g.P i))]) hx hb dX3_isNought_1 rfl hl (by decide) rfl (fun ls hl => ?_)
  refine lv_iconst (v := 0) hx hb dX3_isNought_2 (by decide) ?_
  refine lv_istore_n (lv' := [(2, .int 0), (1, .int 1), (0, .ref (g.P i))]) hx hb dX3_isNought_3 rfl hl (by decide) rfl (fun ls hl => ?_)
  exact loop 10 0 1 (by omega) (by omega) (by omega) (Or.inl ⟨rfl, fun y hy => absurd hy (by omega)⟩) _ _ ls hW (lv_sub hl [0, 1, 2] rfl)
set_option maxHeartbeats 4000000 in
set_option maxRecDepth 100000 in
/-- reference: isOne -/
theorem n_isOne (l : Launch) (g : qCfg) (hg : g.ok) (σ : qSt) {i u : Nat} (hi : 5 ≤ i ∧ i < 12)(hu : Nb σ.J i u) : qCI l g yX3_isOne wsX3_isOne 0 0 [.ref (g.P i)] σ (fun r σ' => σ' = σ ∧ r = if u = 1 then 1 else 0) := by
  refine q_sZ (cc := cX3_isOne) (maxL := 3) (by decide) rfl (Nat.le_of_ble_eq_true rfl) ?_
  intro p e s m args below meth c ls Q S hW hl fin
  obtain ⟨hx, hb, hml, hown, hts, hr, hlocks⟩ := id S
  obtain ⟨hk1, hk8, hn1, hn8⟩ := id hg
  have hl : lv_has ls 3 [(0, .ref (g.P i))] := hl
  have hiff := dv_small (d := fun x => uL (σ.J i x)) (k := 9) (v := 1) (by decide) hu.1 (by decide)
  rw [hu.2] at hiff
  have loop : ∀ (n x : Nat) (z : Int32), x ≤ 9 → 10 ≤ x + n → 1 ≤ x → (z = 1 ∧ (∀ y, y < x → uL (σ.J i y) = if y = 0 then 1 else 0) ∨ z = 0 ∧ ¬ (∀ y, y < x → uL (σ.J i y) = if y = 0 then 1 else 0)) → ∀ (H : Heap) (locs : List Loc) (ls : Array Slot), Wo g (Ad g s.heap.size) s H locs σ → lv_has ls 3 [(2, .int (nI x)), (1, .int z), (0, .ref (g.P i))] → W p l e (rmm 0 0) s m args below meth c H locs 0 0 Q (F0 m 16 ls []) := by
    intro n
    induction n with
    | zero => intro x z h1 h2; exact absurd h2 (by omega)
    | succ n ih =>
      intro x z hx1 hx2 hx0 hz H locs ls hW hl
      refine lv_iload_n hx hb dX3_isOne_16 rfl (lv_at hl 0 rfl) ?_
      refine lv_bipush (v := 9) hx hb dX3_isOne_17 (by decide) ?_
      refine lv_icmp_ge (tgt := 46) hx hb dX3_isOne_19 (by decide) (fun c1 => ?_) (fun c1 => ?_)
      · have hx3 := nle (b := 9) c1 (by omega) (by omega)
        have hx4 : x = 9 := by omega
        subst hx4
        refine lv_iload_n hx hb dX3_isOne_46 rfl (lv_at hl 1 rfl) ?_
        have hall : u = 1 ↔ (∀ y, y < 9 → uL (σ.J i y) = if y = 0 then 1 else 0) := by
          rw [hiff]
          exact ⟨fun q y hy => by
            by_cases q0 : y = 0
            · rw [q0, if_pos rfl]; exact q.1
            · rw [if_neg q0]; exact q.2 y (by omega) hy, fun q => ⟨q 0 (by decide), fun y h1 h2 => (q y h2).trans (if_neg (by omega))⟩⟩
        rcases hz with ⟨e1, e2⟩ | ⟨e1, e2⟩
        · subst e1
          exact fin _ _ _ _ _ _ (Or.inr rfl) hW ⟨rfl, (if_pos (hall.mpr e2)).symm⟩ dX3_isOne_47
        · subst e1
          exact fin _ _ _ _ _ _ (Or.inl rfl) hW ⟨rfl, (if_neg (fun q => e2 (hall.mp q))).symm⟩ dX3_isOne_47
      · have hx3 := nge (b := 9) c1 (by omega)
        have hb1 : uL (σ.J i x) < 4294967296 := hu.1 x hx3
        refine lv_iload_n hx hb dX3_isOne_22 rfl (lv_at hl 1 rfl) ?_
        refine lv_if_eq (tgt := 38) hx hb dX3_isOne_23 (by decide) (fun c2 => ?_) (fun c2 => ?_)
        · have hz0 := hz.resolve_left (fun q => absurd (q.1.symm.trans c2) (by decide))
          refine lv_iconst (v := 0) hx hb dX3_isOne_38 (by decide) ?_
          refine lv_istore_n (lv' := [(1, .int 0), (2, .int (nI x)), (0, .ref (g.P i))]) hx hb dX3_isOne_39 rfl hl (by decide) rfl (fun ls hl => ?_)
          refine lv_iinc (v := nI (x + 1)) (lv' := [(2, .int (nI (x + 1))), (1, .int 0), (0, .ref (g.P i))]) hx hb dX3_isOne_40 hl (k := 1) rfl (nI_1 _) (by decide) rfl (fun ls hl => ?_)
          refine lv_goto (tgt := 16) hx hb dX3_isOne_43 (by decide) ?_
          exact ih (x + 1) 0 (by omega) (by omega) (by omega) (Or.inr ⟨rfl, fun q => hz0.2 (fun y hy => q y (by omega))⟩) H locs ls hW (lv_sub hl [0, 1, 2] rfl)
        · have hz0 := hz.resolve_right (fun q => c2 q.1)
          refine lv_aload_n hx hb dX3_isOne_26 rfl (lv_at hl 2 rfl) ?_
          refine lv_iload_n hx hb dX3_isOne_27 rfl (lv_at hl 0 rfl) ?_
          refine q_lald hx hb hW (i := i) (j := x) ⟨by omega, by omega⟩ (by rw [lsz9 (by omega)]; omega) rfl dX3_isOne_28 ?_
          refine q_tl (y := lN (uL (σ.J i x))) ((lN_uL _).symm) ?_
          refine lv_lconst (v := 0) hx hb dX3_isOne_29 (by decide) ?_
          refine W.lcmp hx hb dX3_isOne_30 ?_
          refine lv_if_ne (tgt := 38) hx hb dX3_isOne_31 (by decide) (fun c3 => ?_) (fun c3 => ?_)
          · have h0 : ¬ uL (σ.J i x) = 0 := fun q => c3 ((lcmp_0 (by omega)).mpr q)
            refine lv_iconst (v := 0) hx hb dX3_isOne_38 (by decide) ?_
            refine lv_istore_n (lv' := [(1, .int 0), (2, .int (nI x)), (0, .ref (g.P i))]) hx hb dX3_isOne_39 rfl hl (by decide) rfl (fun ls hl => ?_)
            refine lv_iinc (v := nI (x + 1)) (lv' := [(2, .int (nI (x + 1))), (1, .int 0), (0, .ref (g.P i))]) hx hb dX3_isOne_40 hl (k := 1) rfl (nI_1 _) (by decide) rfl (fun ls hl => ?_)
            refine lv_goto (tgt := 16) hx hb dX3_isOne_43 (by decide) ?_
            exact ih (x + 1) 0 (by omega) (by omega) (by omega) (Or.inr ⟨rfl, fun q => h0 ((q x (Nat.lt_succ_self x)).trans (if_neg (by omega)))⟩) H locs ls hW (lv_sub hl [0, 1, 2] rfl)
          · have h0 : uL (σ.J i x) = 0 := (lcmp_0 (by omega)).mp c3
            refine lv_iconst (v := 1) hx hb dX3_isOne_34 (by decide) ?_
            refine lv_goto (tgt := 39) hx hb dX3_isOne_35 (by decide) ?_
            refine lv_istore_n (lv' := [(1, .int 1), (2, .int (nI x)), (0, .ref (g.P i))]) hx hb dX3_isOne_39 rfl hl (by decide) rfl (fun ls hl => ?_)
            refine lv_iinc (v := nI (x + 1)) (lv' := [(2, .int (nI (x + 1))), (1, .int 1), (0, .ref (g.P i))]) hx hb dX3_isOne_40 hl (k := 1) rfl (nI_1 _) (by decide) rfl (fun ls hl => ?_)
            refine lv_goto (tgt := 16) hx hb dX3_isOne_43 (by decide) ?_
            exact ih (x + 1) 1 (by omega) (by omega) (by omega) (Or.inl ⟨rfl, fun y hy => by
              by_cases q : y = x
              · rw [q, h0, if_neg (by omega)]
              · exact hz0.2 y (by omega)⟩) H locs ls hW (lv_sub hl [0, 1, 2] rfl)
  have hb0 : uL (σ.J i 0) < 4294967296 := hu.1 0 (by decide)
  refine lv_aload_n hx hb dX3_isOne_0 rfl (lv_at hl 0 rfl) ?_
  refine lv_iconst (v := 0) hx hb dX3_isOne_1 (by decide) ?_
  refine q_lald hx hb hW (i := i) (j := 0) ⟨by omega, by omega⟩ (by rw [lsz9 (by omega)]; omega) rfl dX3_isOne_2 ?_
  refine q_tl (y := lN (uL (σ.J i 0))) ((lN_uL _).symm) ?_
  refine lv_lconst (v := 1) hx hb dX3_isOne_3 (by decide) ?_
  refine W.lcmp hx hb dX3_isOne_4 ?_
  refine lv_if_ne (tgt := 12) hx hb dX3_isOne_5 (by decide) (fun c1 => ?_) (fun c1 => ?_)
  · have h0 : ¬ uL (σ.J i 0) = 1 := fun q => c1 ((lcmp_eq (b := 1) (by omega) (by decide)).mpr q)
    refine lv_iconst (v := 0) hx hb dX3_isOne_12 (by decide) ?_
    refine lv_istore_n (lv' := [(1, .int 0), (0, .ref (g.P i))]) hx hb dX3_isOne_13 rfl hl (by decide) rfl (fun ls hl => ?_)
    refine lv_iconst (v := 1) hx hb dX3_isOne_14 (by decide) ?_
    refine lv_istore_n (lv' := [(2, .int 1), (1, .int 0), (0, .ref (g.P i))]) hx hb dX3_isOne_15 rfl hl (by decide) rfl (fun ls hl => ?_)
    exact loop 9 1 0 (by omega) (by omega) (by omega) (Or.inr ⟨rfl, fun q => h0 (q 0 (by decide))⟩) _ _ ls hW (lv_sub hl [0, 1, 2] rfl)
  · have h0 : uL (σ.J i 0) = 1 := (lcmp_eq (b := 1) (by omega) (by decide)).mp c1
    refine lv_iconst (v := 1) hx hb dX3_isOne_8 (by decide) ?_
    refine lv_goto (tgt := 13) hx hb dX3_isOne_9 (by decide) ?_
    refine lv_istore_n (lv' := [(1, .int 1), (0, .ref (g.P i))]) hx hb dX3_isOne_13 rfl hl (by decide) rfl (fun ls hl => ?_)
    refine lv_iconst (v := 1) hx hb dX3_isOne_14 (by decide) ?_
    refine lv_istore_n (lv' := [(2, .int 1), (1, .int 1), (0, .ref (g.P i))]) hx hb dX3_isOne_15 rfl hl (by decide) rfl (fun ls hl => ?_)
    exact loop 9 1 1 (by omega) (by omega) (by omega) (Or.inl ⟨rfl, fun y hy => by rw [show y = 0 by omega, h0]; rfl⟩) _ _ ls hW (lv_sub hl [0, 1, 2] rfl)
set_option maxHeartbeats 4000000 in
set_option maxRecDepth 100000 in
/-- reference: plus(a, b) -/
theorem n_plus (l : Launch) (g : qCfg) (hg : g.ok) (σ : qSt) {i j u v : Nat} (hi : 5 ≤ i ∧ i < 12)(hj : 5 ≤ j ∧ j < 12)(hu : Nb σ.J i u) (hv : Nb σ.J j v) (hlt : u + v < 2 ^ (32 * 9)) : qCV l g yX3_plus wsX3_plus 0 0 [.ref (g.P i), .ref (g.P j)] σ (fun σ' => ∃ J', σ' = σ.setJ J' ∧ Gr σ.J J' [i] ∧ Nb J' i (u + v)) := by
  refine q_sV (cc := cX3_plus) (maxL := 7) (by decide) rfl (Nat.le_of_ble_eq_true rfl) ?_
  intro p e s m args below meth c ls Q S hW hl fin
  obtain ⟨hx, hb, hml, hown, hts, hr, hlocks⟩ := id S
  obtain ⟨hk1, hk8, hn1, hn8⟩ := id hg
  have hl : lv_has ls 7 [(0, .ref (g.P i)), (1, .ref (g.P j))] := hl
  have loop : ∀ (n x : Nat) (c0 : Nat) (J : Nat → Nat → Int64), x ≤ 9 → 9 + 1 ≤ x + n → Ju σ.J J i x → c0 ≤ 1 → dB (fun y => uL (J i y)) x → dv (fun y => uL (J i y)) x + c0 * 2 ^ (32 * x) = dv (fun y => uL (σ.J i y)) x + dv (fun y => uL (σ.J j y)) x → ∀ (H : Heap) (locs : List Loc) (ls : Array Slot), Wo g (Ad g s.heap.size) s H locs (σ.setJ J) → lv_has ls 7 [(4, .int (nI x)), (2, .long (lN c0)), (0, .ref (g.P i)), (1, .ref (g.P j))] → W p l e (rmm 0 0) s m args below meth c H locs 0 0 Q (F0 m 5 ls []) := by
    intro n
    induction n with
    | zero => intro x c0 J h1 h2; exact absurd h2 (by omega)
    | succ n ih =>
      intro x c0 J hx1 hx2 hR hc hB hV H locs ls hW hl
      refine lv_iload hx hb dX3_plus_5 (lv_at hl 0 rfl) ?_
      refine lv_bipush (v := 9) hx hb dX3_plus_7 (by decide) ?_
      refine lv_icmp_ge (tgt := 47) hx hb dX3_plus_9 (by decide) (fun c1 => ?_) (fun c1 => ?_)
      · have hx3 := nle (b := 9) c1 (by omega) (by omega)
        have hx4 : x = 9 := by omega
        subst hx4
        rw [hu.2, hv.2] at hV
        have hc0 : c0 = 0 := by
          rcases (show c0 = 0 ∨ c0 = 1 by omega) with q | q
          · exact q
          · rw [q] at hV; omega
        rw [hc0, Nat.zero_mul, Nat.add_zero] at hV
        exact fin _ _ _ _ _ hW (⟨J, rfl, hR.fr, hB, hV⟩) dX3_plus_47
      · have hx3 := nge (b := 9) c1 (by omega)
        have hb1 : uL (σ.J i x) < 4294967296 := hu.1 x hx3
        have hb2 : uL (σ.J j x) < 4294967296 := hv.1 x hx3
        refine lv_aload_n hx hb dX3_plus_12 rfl (lv_at hl 2 rfl) ?_
        refine lv_iload hx hb dX3_plus_13 (lv_at hl 0 rfl) ?_
        refine q_lald hx hb hW (i := i) (j := x) ⟨by omega, by omega⟩ (by rw [lsz9 (by omega)]; omega) rfl dX3_plus_15 ?_
        refine q_tl (y := lN (uL (σ.J i x))) (by rw [lN_uL]; exact hR.rd _) ?_
        refine lv_aload_n hx hb dX3_plus_16 rfl (lv_at hl 3 rfl) ?_
        refine lv_iload hx hb dX3_plus_17 (lv_at hl 0 rfl) ?_
        refine q_lald hx hb hW (i := j) (j := x) ⟨by omega, by omega⟩ (by rw [lsz9 (by omega)]; omega) rfl dX3_plus_19 ?_
        refine q_tl (y := lN (uL (σ.J j x))) (by rw [lN_uL]; exact hR.rd _) ?_
        refine lv_ladd hx hb dX3_plus_20 ?_
        refine q_tl (y := lN ((uL (σ.J i x)) + (uL (σ.J j x)))) (lN_add _ _) ?_
        refine lv_lload_n hx hb dX3_plus_21 rfl (lv_at hl 1 rfl) ?_
        refine lv_ladd hx hb dX3_plus_22 ?_
        refine q_tl (y := lN (((uL (σ.J i x)) + (uL (σ.J j x))) + c0)) (lN_add _ _) ?_
        generalize hT : uL (σ.J i x) + uL (σ.J j x) + c0 = T
        refine lv_lstore (lv' := [(5, .long (lN T)), (4, .int (nI x)), (2, .long (lN c0)), (0, .ref (g.P i)), (1, .ref (g.P j))]) hx hb dX3_plus_23 hl (by decide) rfl (fun ls hl => ?_)
        refine lv_aload_n hx hb dX3_plus_25 rfl (lv_at hl 3 rfl) ?_
        refine lv_iload hx hb dX3_plus_26 (lv_at hl 1 rfl) ?_
        refine lv_lload hx hb dX3_plus_28 (lv_at hl 0 rfl) ?_
        refine lv_ldc2 (v := 4294967295) hx hb hown (hts (.constantLong RX3 53 (4294967295)) (by decide +kernel)) dX3_plus_30 ?_
        refine lv_land hx hb dX3_plus_33 ?_
        refine q_tl (y := lN (T % 4294967296)) (lN_lo (by omega)) ?_
        refine q_lastJ (i := i) (J := J) hx hb hW (j := x) ⟨by omega, by omega⟩ (by rw [lsz9 (by omega)]; omega) rfl dX3_plus_34 (fun H locs hW => ?_)
        refine lv_lload hx hb dX3_plus_35 (lv_at hl 0 rfl) ?_
        refine lv_bipush (v := 32) hx hb dX3_plus_37 (by decide) ?_
        refine lv_lushr hx hb dX3_plus_39 rfl ?_
        refine q_tl (y := lN (T / 4294967296)) (lN_ushr32 (by omega)) ?_
        refine lv_lstore_n (lv' := [(2, .long (lN (T / 4294967296))), (5, .long (lN T)), (4, .int (nI x)), (0, .ref (g.P i)), (1, .ref (g.P j))]) hx hb dX3_plus_40 rfl hl (by decide) rfl (fun ls hl => ?_)
        refine lv_iinc (v := nI (x + 1)) (lv' := [(4, .int (nI (x + 1))), (2, .long (lN (T / 4294967296))), (5, .long (lN T)), (0, .ref (g.P i)), (1, .ref (g.P j))]) hx hb dX3_plus_41 hl (k := 2) rfl (nI_1 _) (by decide) rfl (fun ls hl => ?_)
        refine lv_goto (tgt := 5) hx hb dX3_plus_44 (by decide) ?_
        refine ih (x + 1) _ _ (by omega) (by omega) (hR.st _) (by omega) (dB_st (Nat.mod_lt _ (by decide)) hB) ?_ H locs ls hW (lv_sub hl [0, 1, 3, 4] rfl)
        rw [dv_st (Nat.mod_lt _ (by decide)), p32]
        exact st_add (a := uL (σ.J i x)) (b := uL (σ.J j x)) (by omega) hV
  refine lv_lconst (v := 0) hx hb dX3_plus_0 (by decide) ?_
  refine q_tl (y := lN 0) rfl ?_
  refine lv_lstore_n (lv' := [(2, .long (lN 0)), (0, .ref (g.P i)), (1, .ref (g.P j))]) hx hb dX3_plus_1 rfl hl (by decide) rfl (fun ls hl => ?_)
  refine lv_iconst (v := 0) hx hb dX3_plus_2 (by decide) ?_
  refine lv_istore (lv' := [(4, .int 0), (2, .long (lN 0)), (0, .ref (g.P i)), (1, .ref (g.P j))]) hx hb dX3_plus_3 hl (by decide) rfl (fun ls hl => ?_)
  exact loop 10 0 0 σ.J (by omega) (by omega) Ju.rf (by omega) (fun y hy => absurd hy (by omega)) rfl _ _ ls hW (lv_sub hl [0, 1, 2, 3] rfl)
set_option maxHeartbeats 4000000 in
set_option maxRecDepth 100000 in
/-- reference: minus(a, b) -/
theorem n_minus (l : Launch) (g : qCfg) (hg : g.ok) (σ : qSt) {i j u v : Nat} (hi : 5 ≤ i ∧ i < 12)(hj : 5 ≤ j ∧ j < 12)(hu : Nb σ.J i u) (hv : Nb σ.J j v) (hle : v ≤ u) : qCV l g yX3_minus wsX3_minus 0 0 [.ref (g.P i), .ref (g.P j)] σ (fun σ' => ∃ J', σ' = σ.setJ J' ∧ Gr σ.J J' [i] ∧ Nb J' i (u - v)) := by
  refine q_sV (cc := cX3_minus) (maxL := 7) (by decide) rfl (Nat.le_of_ble_eq_true rfl) ?_
  intro p e s m args below meth c ls Q S hW hl fin
  obtain ⟨hx, hb, hml, hown, hts, hr, hlocks⟩ := id S
  obtain ⟨hk1, hk8, hn1, hn8⟩ := id hg
  have hl : lv_has ls 7 [(0, .ref (g.P i)), (1, .ref (g.P j))] := hl
  have loop : ∀ (n x : Nat) (c0 : Nat) (J : Nat → Nat → Int64), x ≤ 9 → 9 + 1 ≤ x + n → Ju σ.J J i x → c0 ≤ 1 → dB (fun y => uL (J i y)) x → dv (fun y => uL (J i y)) x + dv (fun y => uL (σ.J j y)) x = dv (fun y => uL (σ.J i y)) x + c0 * 2 ^ (32 * x) → ∀ (H : Heap) (locs : List Loc) (ls : Array Slot), Wo g (Ad g s.heap.size) s H locs (σ.setJ J) → lv_has ls 7 [(4, .int (nI x)), (2, .long (lN c0)), (0, .ref (g.P i)), (1, .ref (g.P j))] → W p l e (rmm 0 0) s m args below meth c H locs 0 0 Q (F0 m 5 ls []) := by
    intro n
    induction n with
    | zero => intro x c0 J h1 h2; exact absurd h2 (by omega)
    | succ n ih =>
      intro x c0 J hx1 hx2 hR hc hB hV H locs ls hW hl
      refine lv_iload hx hb dX3_minus_5 (lv_at hl 0 rfl) ?_
      refine lv_bipush (v := 9) hx hb dX3_minus_7 (by decide) ?_
      refine lv_icmp_ge (tgt := 54) hx hb dX3_minus_9 (by decide) (fun c1 => ?_) (fun c1 => ?_)
      · have hx3 := nle (b := 9) c1 (by omega) (by omega)
        have hx4 : x = 9 := by omega
        subst hx4
        have hlt := dv_lt hB
        rw [hu.2, hv.2] at hV
        have hc0 : c0 = 0 := by
          rcases (show c0 = 0 ∨ c0 = 1 by omega) with q | q
          · exact q
          · rw [q] at hV; omega
        rw [hc0, Nat.zero_mul, Nat.add_zero] at hV
        exact fin _ _ _ _ _ hW (⟨J, rfl, hR.fr, hB, by omega⟩) dX3_minus_54
      · have hx3 := nge (b := 9) c1 (by omega)
        obtain ⟨d, c2, hd2, hc2, hs2, hi2, hl2⟩ := sub_limb2 (hu.1 x hx3) (hv.1 x hx3) hc
        refine lv_aload_n hx hb dX3_minus_12 rfl (lv_at hl 2 rfl) ?_
        refine lv_iload hx hb dX3_minus_13 (lv_at hl 0 rfl) ?_
        refine q_lald hx hb hW (i := i) (j := x) ⟨by omega, by omega⟩ (by rw [lsz9 (by omega)]; omega) rfl dX3_minus_15 ?_
        refine q_tl (y := lN (uL (σ.J i x))) (by rw [lN_uL]; exact hR.rd _) ?_
        refine lv_aload_n hx hb dX3_minus_16 rfl (lv_at hl 3 rfl) ?_
        refine lv_iload hx hb dX3_minus_17 (lv_at hl 0 rfl) ?_
        refine q_lald hx hb hW (i := j) (j := x) ⟨by omega, by omega⟩ (by rw [lsz9 (by omega)]; omega) rfl dX3_minus_19 ?_
        refine q_tl (y := lN (uL (σ.J j x))) (by rw [lN_uL]; exact hR.rd _) ?_
        refine lv_lsub hx hb dX3_minus_20 ?_
        refine lv_lload_n hx hb dX3_minus_21 rfl (lv_at hl 1 rfl) ?_
        refine lv_lsub hx hb dX3_minus_22 ?_
        generalize hT : lN (uL (σ.J i x)) - lN (uL (σ.J j x)) - lN c0 = T at hi2 hl2 ⊢
        refine lv_lstore (lv' := [(5, .long T), (4, .int (nI x)), (2, .long (lN c0)), (0, .ref (g.P i)), (1, .ref (g.P j))]) hx hb dX3_minus_23 hl (by decide) rfl (fun ls hl => ?_)
        refine lv_aload_n hx hb dX3_minus_25 rfl (lv_at hl 3 rfl) ?_
        refine lv_iload hx hb dX3_minus_26 (lv_at hl 1 rfl) ?_
        refine lv_lload hx hb dX3_minus_28 (lv_at hl 0 rfl) ?_
        refine lv_ldc2 (v := 4294967295) hx hb hown (hts (.constantLong RX3 53 (4294967295)) (by decide +kernel)) dX3_minus_30 ?_
        refine lv_land hx hb dX3_minus_33 ?_
        refine q_tl (y := lN d) hi2 ?_
        refine q_lastJ (i := i) (J := J) hx hb hW (j := x) ⟨by omega, by omega⟩ (by rw [lsz9 (by omega)]; omega) rfl dX3_minus_34 (fun H locs hW => ?_)
        refine lv_lload hx hb dX3_minus_35 (lv_at hl 0 rfl) ?_
        refine lv_lconst (v := 0) hx hb dX3_minus_37 (by decide) ?_
        refine W.lcmp hx hb dX3_minus_38 ?_
        refine lv_if_ge (tgt := 46) hx hb dX3_minus_39 (by decide) (fun c3 => ?_) (fun c3 => ?_)
        · have h0 : c2 = 0 := hl2.mp c3
          refine lv_lconst (v := 0) hx hb dX3_minus_46 (by decide) ?_
          refine q_tl (y := lN c2) (by rw [h0]; rfl) ?_
          refine lv_lstore_n (lv' := [(2, .long (lN c2)), (5, .long T), (4, .int (nI x)), (0, .ref (g.P i)), (1, .ref (g.P j))]) hx hb dX3_minus_47 rfl hl (by decide) rfl (fun ls hl => ?_)
          refine lv_iinc (v := nI (x + 1)) (lv' := [(4, .int (nI (x + 1))), (2, .long (lN c2)), (5, .long T), (0, .ref (g.P i)), (1, .ref (g.P j))]) hx hb dX3_minus_48 hl (k := 2) rfl (nI_1 _) (by decide) rfl (fun ls hl => ?_)
          refine lv_goto (tgt := 5) hx hb dX3_minus_51 (by decide) ?_
          refine ih (x + 1) _ _ (by omega) (by omega) (hR.st _) hc2 (dB_st hd2 hB) ?_ H locs ls hW (lv_sub hl [0, 1, 3, 4] rfl)
          rw [dv_st hd2, p32]
          exact st_sub hs2 hV
        · have h0 : c2 = 1 := by
            rcases (show c2 = 0 ∨ c2 = 1 by omega) with q | q
            · exact absurd (hl2.mpr q) c3
            · exact q
          refine lv_lconst (v := 1) hx hb dX3_minus_42 (by decide) ?_
          refine lv_goto (tgt := 47) hx hb dX3_minus_43 (by decide) ?_
          refine q_tl (y := lN c2) (by rw [h0]; rfl) ?_
          refine lv_lstore_n (lv' := [(2, .long (lN c2)), (5, .long T), (4, .int (nI x)), (0, .ref (g.P i)), (1, .ref (g.P j))]) hx hb dX3_minus_47 rfl hl (by decide) rfl (fun ls hl => ?_)
          refine lv_iinc (v := nI (x + 1)) (lv' := [(4, .int (nI (x + 1))), (2, .long (lN c2)), (5, .long T), (0, .ref (g.P i)), (1, .ref (g.P j))]) hx hb dX3_minus_48 hl (k := 2) rfl (nI_1 _) (by decide) rfl (fun ls hl => ?_)
          refine lv_goto (tgt := 5) hx hb dX3_minus_51 (by decide) ?_
          refine ih (x + 1) _ _ (by omega) (by omega) (hR.st _) hc2 (dB_st hd2 hB) ?_ H locs ls hW (lv_sub hl [0, 1, 3, 4] rfl)
          rw [dv_st hd2, p32]
          exact st_sub hs2 hV
  refine lv_lconst (v := 0) hx hb dX3_minus_0 (by decide) ?_
  refine q_tl (y := lN 0) rfl ?_
  refine lv_lstore_n (lv' := [(2, .long (lN 0)), (0, .ref (g.P i)), (1, .ref (g.P j))]) hx hb dX3_minus_1 rfl hl (by decide) rfl (fun ls hl => ?_)
  refine lv_iconst (v := 0) hx hb dX3_minus_2 (by decide) ?_
  refine lv_istore (lv' := [(4, .int 0), (2, .long (lN 0)), (0, .ref (g.P i)), (1, .ref (g.P j))]) hx hb dX3_minus_3 hl (by decide) rfl (fun ls hl => ?_)
  exact loop 10 0 0 σ.J (by omega) (by omega) Ju.rf (by omega) (fun y hy => absurd hy (by omega)) rfl _ _ ls hW (lv_sub hl [0, 1, 2, 3] rfl)
set_option maxHeartbeats 4000000 in
set_option maxRecDepth 100000 in
/-- reference: half(a) -/
theorem n_half (l : Launch) (g : qCfg) (hg : g.ok) (σ : qSt) {i u : Nat} (hi : 5 ≤ i ∧ i < 12)(hu : Nb σ.J i u) : qCV l g yX3_half wsX3_half 0 0 [.ref (g.P i)] σ (fun σ' => ∃ J', σ' = σ.setJ J' ∧ Gr σ.J J' [i] ∧ Nb J' i (u / 2)) := by
  refine q_sV (cc := cX3_half) (maxL := 6) (by decide) rfl (Nat.le_of_ble_eq_true rfl) ?_
  intro p e s m args below meth c ls Q S hW hl fin
  obtain ⟨hx, hb, hml, hown, hts, hr, hlocks⟩ := id S
  obtain ⟨hk1, hk8, hn1, hn8⟩ := id hg
  have hl : lv_has ls 6 [(0, .ref (g.P i))] := hl
  have loop : ∀ (x a0 : Nat) (J : Nat → Nat → Int64), x ≤ 9 → Jw σ.J J i x → a0 ≤ 1 → dB (fun y => uL (J i y)) 9 → 2 * dv (fun y => uL (J i y)) 9 + a0 * 2 ^ (32 * x) = u + dv (fun y => uL (σ.J i y)) x → ∀ (H : Heap) (locs : List Loc) (ls : Array Slot), Wo g (Ad g s.heap.size) s H locs (σ.setJ J) → lv_has ls 6 [(3, .int (nI x - 1)), (1, .long (lN a0)), (0, .ref (g.P i))] → W p l e (rmm 0 0) s m args below meth c H locs 0 0 Q (F0 m 5 ls []) := by
    intro x
    induction x with
    | zero =>
      intro a0 J hx1 hR ha hB hV H locs ls hW hl
      refine lv_iload_n hx hb dX3_half_5 rfl (lv_at hl 0 rfl) ?_
      refine lv_if_lt (tgt := 37) hx hb dX3_half_6 (by decide) (fun _ => ?_) (fun c9 => absurd (by decide) c9)
      exact fin _ _ _ _ _ hW (⟨J, rfl, hR.fr, hB, by
              have h1 : 2 * dv (fun y => uL (J i y)) 9 + a0 * 1 = u + 0 := hV
              omega⟩) dX3_half_37
    | succ x ih =>
      intro a0 J hx1 hR ha hB hV H locs ls hW hl
      rw [nI_pred] at hl
      refine lv_iload_n hx hb dX3_half_5 rfl (lv_at hl 0 rfl) ?_
      refine lv_if_lt (tgt := 37) hx hb dX3_half_6 (by decide) (fun c9 => absurd c9 (nI_pos (by omega))) (fun _ => ?_)
      have hb1 : uL (σ.J i x) < 4294967296 := hu.1 x (by omega)
      refine lv_aload_n hx hb dX3_half_9 rfl (lv_at hl 2 rfl) ?_
      refine lv_iload_n hx hb dX3_half_10 rfl (lv_at hl 0 rfl) ?_
      refine q_lald hx hb hW (i := i) (j := x) ⟨by omega, by omega⟩ (by rw [lsz9 (by omega)]; omega) rfl dX3_half_11 ?_
      refine q_tl (y := lN (uL (σ.J i x))) (by rw [lN_uL]; exact hR.rd (Nat.lt_succ_self _) _) ?_
      refine lv_lload_n hx hb dX3_half_12 rfl (lv_at hl 1 rfl) ?_
      refine lv_bipush (v := 32) hx hb dX3_half_13 (by decide) ?_
      refine lv_lshl hx hb dX3_half_15 rfl ?_
      refine q_tl (y := lN (a0 * 4294967296)) (wb_shl (k := 32) a0 (by decide)) ?_
      refine lv_ladd hx hb dX3_half_16 ?_
      refine q_tl (y := lN ((uL (σ.J i x)) + (a0 * 4294967296))) (lN_add _ _) ?_
      generalize hT : uL (σ.J i x) + a0 * 4294967296 = T
      refine lv_lstore (lv' := [(4, .long (lN T)), (3, .int (nI x)), (1, .long (lN a0)), (0, .ref (g.P i))]) hx hb dX3_half_17 hl (by decide) rfl (fun ls hl => ?_)
      refine lv_aload_n hx hb dX3_half_19 rfl (lv_at hl 3 rfl) ?_
      refine lv_iload_n hx hb dX3_half_20 rfl (lv_at hl 1 rfl) ?_
      refine lv_lload hx hb dX3_half_21 (lv_at hl 0 rfl) ?_
      refine lv_iconst (v := 1) hx hb dX3_half_23 (by decide) ?_
      refine lv_lushr hx hb dX3_half_24 rfl ?_
      refine q_tl (y := lN (T / 2)) (lN_ushr1 (by omega)) ?_
      refine q_lastJ (i := i) (J := J) hx hb hW (j := x) ⟨by omega, by omega⟩ (by rw [lsz9 (by omega)]; omega) rfl dX3_half_25 (fun H locs hW => ?_)
      refine lv_lload hx hb dX3_half_26 (lv_at hl 0 rfl) ?_
      refine lv_lconst (v := 1) hx hb dX3_half_28 (by decide) ?_
      refine lv_land hx hb dX3_half_29 ?_
      refine q_tl (y := lN (T % 2)) (wb_a1 (by omega)) ?_
      refine lv_lstore_n (lv' := [(1, .long (lN (T % 2))), (4, .long (lN T)), (3, .int (nI x)), (0, .ref (g.P i))]) hx hb dX3_half_30 rfl hl (by decide) rfl (fun ls hl => ?_)
      refine lv_iinc (v := nI x - 1) (lv' := [(3, .int (nI x - 1)), (1, .long (lN (T % 2))), (4, .long (lN T)), (0, .ref (g.P i))]) hx hb dX3_half_31 hl (k := 2) rfl (by rw [Int32.sub_eq_add_neg]; rfl) (by decide) rfl (fun ls hl => ?_)
      refine lv_goto (tgt := 5) hx hb dX3_half_34 (by decide) ?_
      have hT2 : T / 2 < 4294967296 := by omega
      refine ih (T % 2) _ (by omega) (hR.st _) (by omega) ?_ ?_ H locs ls hW (lv_sub hl [0, 1, 3] rfl)
      · intro y hy
        show uL (va_up J i (va_up (J i) x (lN (T / 2))) i y) < _
        rw [va_up_self]
        by_cases q : y = x
        · rw [q, va_up_self, uL_lN (by omega)]; exact hT2
        · rw [va_up_ne _ _ q]; exact hB y hy
      · have h1 := dv_updk (d := fun y => uL (J i y)) (v := T / 2) (show x < 9 by omega)
        rw [va_up_self, uL_up hT2]
        rw [show uL (J i x) = uL (σ.J i x) by rw [hR.rd (Nat.lt_succ_self _) i]] at h1
        have hV2 : 2 * dv (fun y => uL (J i y)) 9 + a0 * (2 ^ (32 * x) * 4294967296) = u + (dv (fun y => uL (σ.J i y)) x + uL (σ.J i x) * 2 ^ (32 * x)) := by rw [← p32]; exact hV
        exact st_half (by omega) h1 hV2
  refine lv_lconst (v := 0) hx hb dX3_half_0 (by decide) ?_
  refine q_tl (y := lN 0) rfl ?_
  refine lv_lstore_n (lv' := [(1, .long (lN 0)), (0, .ref (g.P i))]) hx hb dX3_half_1 rfl hl (by decide) rfl (fun ls hl => ?_)
  refine lv_bipush (v := 8) hx hb dX3_half_2 (by decide) ?_
  refine q_ti (y := nI 9 - 1) (by decide) ?_
  refine lv_istore_n (lv' := [(3, .int (nI 9 - 1)), (1, .long (lN 0)), (0, .ref (g.P i))]) hx hb dX3_half_4 rfl hl (by decide) rfl (fun ls hl => ?_)
  exact loop 9 0 σ.J (Nat.le_refl _) Jw.rf (by omega) hu.1 (by rw [hu.2]; omega) _ _ ls hW (lv_sub hl [0, 1, 2] rfl)
set_option maxHeartbeats 4000000 in
set_option maxRecDepth 100000 in
/-- reference: bit(a, i) -/
theorem n_bit (l : Launch) (g : qCfg) (hg : g.ok) (σ : qSt) {i u b : Nat} (hi : 5 ≤ i ∧ i < 12)(hu : Nb σ.J i u) (hbt : b < 288) : qCI l g yX3_bit wsX3_bit 0 0 [.ref (g.P i), .int (nI b)] σ (fun r σ' => σ' = σ ∧ r = if u.testBit b = true then 1 else 0) := by
  refine q_sZ (cc := cX3_bit) (maxL := 2) (by decide) rfl (Nat.le_of_ble_eq_true rfl) ?_
  intro p e s m args below meth c ls Q S hW hl fin
  obtain ⟨hx, hb, hml, hown, hts, hr, hlocks⟩ := id S
  obtain ⟨hk1, hk8, hn1, hn8⟩ := id hg
  have hl : lv_has ls 2 [(0, .ref (g.P i)), (1, .int (nI b))] := hl
  have hm : u.testBit b = decide (uL (σ.J i (b / 32)) / 2 ^ (b % 32) % 2 = 1) := by
    rw [← hu.2]
    exact (dv_bit hu.1 (by omega)).trans Nat.testBit_eq_decide_div_mod_eq
  have hm2 : b % 32 < 32 := Nat.mod_lt _ (by decide)
  have hb1 : uL (σ.J i (b / 32)) < 4294967296 := hu.1 (b / 32) (by omega)
  refine lv_aload_n hx hb dX3_bit_0 rfl (lv_at hl 0 rfl) ?_
  refine lv_iload_n hx hb dX3_bit_1 rfl (lv_at hl 1 rfl) ?_
  refine lv_bipush (v := 32) hx hb dX3_bit_2 (by decide) ?_
  refine lv_idiv hx hb dX3_bit_4 (by decide) ?_
  refine q_ti (y := nI (b / 32)) (pk_div (d := 32) (by omega) (by decide) (by decide)) ?_
  refine q_lald hx hb hW (i := i) (j := (b / 32)) ⟨by omega, by omega⟩ (by rw [lsz9 (by omega)]; omega) rfl dX3_bit_5 ?_
  refine q_tl (y := lN (uL (σ.J i (b / 32)))) ((lN_uL _).symm) ?_
  refine lv_iload_n hx hb dX3_bit_6 rfl (lv_at hl 1 rfl) ?_
  refine lv_bipush (v := 32) hx hb dX3_bit_7 (by decide) ?_
  refine lv_irem hx hb dX3_bit_9 (by decide) ?_
  refine q_ti (y := nI (b % 32)) (pk_rem (d := 32) (by omega) (by decide) (by decide)) ?_
  refine lv_lushr hx hb dX3_bit_10 rfl ?_
  refine q_tl (y := lN (uL (σ.J i (b / 32)) / 2 ^ (b % 32))) (lshr_nI (by omega) hm2) ?_
  have hz2 : uL (σ.J i (b / 32)) / 2 ^ (b % 32) < 4294967296 := Nat.lt_of_le_of_lt (Nat.div_le_self _ _) hb1
  generalize uL (σ.J i (b / 32)) / 2 ^ (b % 32) = z at hm hz2 ⊢
  refine lv_lconst (v := 1) hx hb dX3_bit_11 (by decide) ?_
  refine lv_land hx hb dX3_bit_12 ?_
  refine q_tl (y := lN (z % 2)) (wb_a1 (by omega)) ?_
  refine lv_lconst (v := 1) hx hb dX3_bit_13 (by decide) ?_
  refine W.lcmp hx hb dX3_bit_14 ?_
  refine lv_if_ne (tgt := 22) hx hb dX3_bit_15 (by decide) (fun c1 => ?_) (fun c1 => ?_)
  · refine lv_iconst (v := 0) hx hb dX3_bit_22 (by decide) ?_
    have h0 : ¬ z % 2 = 1 := fun q => c1 ((lcmp_eq (b := 1) (by omega) (by decide)).mpr q)
    exact fin _ _ _ _ _ _ (by decide) hW (⟨rfl, (if_neg (by rw [hm]; simp [h0])).symm⟩) dX3_bit_23
  · refine lv_iconst (v := 1) hx hb dX3_bit_18 (by decide) ?_
    refine lv_goto (tgt := 23) hx hb dX3_bit_19 (by decide) ?_
    have h0 : z % 2 = 1 := (lcmp_eq (b := 1) (by omega) (by decide)).mp c1
    exact fin _ _ _ _ _ _ (by decide) hW (⟨rfl, (if_pos (by rw [hm]; simp [h0])).symm⟩) dX3_bit_23
