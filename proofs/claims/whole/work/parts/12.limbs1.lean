set_option maxHeartbeats 4000000 in
set_option maxRecDepth 100000 in
/-- Limbs.copy(into, from, k): row i takes the number of row j -/
theorem k_copy (l : Launch) (g : qCfg) (hg : g.ok) (σ : qSt) {i j : Nat} (hi : 12 ≤ i ∧ i < g.N)(hj : 12 ≤ j ∧ j < g.N) : qCV l g yX0_copy wsX0_copy 0 0 [.ref (g.P i), .ref (g.P j), .int (nI g.k)] σ (fun σ' => ∃ F', σ' = σ.setF F' ∧ Fr σ.F F' [i] ∧ qV g F' i = qV g σ.F j) := by
  refine q_sV (cc := cX0_copy) (maxL := 4) (by decide) rfl (Nat.le_of_ble_eq_true rfl) ?_
  intro p e s m args below meth c ls Q S hW hl fin
  obtain ⟨hx, hb, hml, hown, hts, hr, hlocks⟩ := id S
  obtain ⟨hk1, hk8, hn1, hn8⟩ := id hg
  have hl : lv_has ls 4 [(0, .ref (g.P i)), (1, .ref (g.P j)), (2, .int (nI g.k))] := hl
  have loop : ∀ (n x : Nat) (F : Nat → Nat → Int32), x ≤ g.k → g.k + 1 ≤ x + n → Ru σ.F F i x → (∀ y, y < x → F i y = σ.F j y) → ∀ (H : Heap) (locs : List Loc) (ls : Array Slot), Wo g (Ad g s.heap.size) s H locs (σ.setF F) → lv_has ls 4 [(3, .int (nI x)), (0, .ref (g.P i)), (1, .ref (g.P j)), (2, .int (nI g.k))] → W p l e (rmm 0 0) s m args below meth c H locs 0 0 Q (F0 m 2 ls []) := by
    intro n
    induction n with
    | zero => intro x F h1 h2; exact absurd h2 (by omega)
    | succ n ih =>
      intro x F hx1 hx2 hR hd H locs ls hW hl
      refine lv_iload_n hx hb dX0_copy_2 rfl (lv_at hl 0 rfl) ?_
      refine lv_iload_n hx hb dX0_copy_3 rfl (lv_at hl 3 rfl) ?_
      refine lv_icmp_ge (tgt := 19) hx hb dX0_copy_4 (by decide) (fun c1 => ?_) (fun c1 => ?_)
      · have hx3 := nle c1 (by omega) (by omega)
        exact fin _ _ _ _ _ hW (⟨F, rfl, hR.fr, rv_cong (fun y hy => hd y (by omega))⟩) dX0_copy_19
      · have hx3 := nge c1 (by omega)
        refine lv_aload_n hx hb dX0_copy_7 rfl (lv_at hl 1 rfl) ?_
        refine lv_iload_n hx hb dX0_copy_8 rfl (lv_at hl 0 rfl) ?_
        refine lv_aload_n hx hb dX0_copy_9 rfl (lv_at hl 2 rfl) ?_
        refine lv_iload_n hx hb dX0_copy_10 rfl (lv_at hl 0 rfl) ?_
        refine q_iald hx hb hW (i := j) (j := x) hj (by omega) hk8 rfl dX0_copy_11 ?_
        refine q_ti (y := σ.F j x) (hR.rd _) ?_
        refine q_iastF (i := i) (F := F) hx hb hW (j := x) hi (by omega) hk8 rfl dX0_copy_12 (fun H locs hW => ?_)
        refine lv_iinc (v := nI (x + 1)) (lv' := [(3, .int (nI (x + 1))), (0, .ref (g.P i)), (1, .ref (g.P j)), (2, .int (nI g.k))]) hx hb dX0_copy_13 hl (k := 0) rfl (nI_1 _) (by decide) rfl (fun ls hl => ?_)
        refine lv_goto (tgt := 2) hx hb dX0_copy_16 (by decide) ?_
        exact ih (x + 1) _ (by omega) (by omega) (hR.st _) (fun y hy => by
          rw [va_up_self]
          by_cases q : y = x
          · subst q; exact pk_us
          · rw [pk_un q]; exact hd y (by omega)) H locs ls hW (lv_sub hl [0, 1, 2, 3] rfl)
  refine lv_iconst (v := 0) hx hb dX0_copy_0 (by decide) ?_
  refine lv_istore_n (lv' := [(3, .int 0), (0, .ref (g.P i)), (1, .ref (g.P j)), (2, .int (nI g.k))]) hx hb dX0_copy_1 rfl hl (by decide) rfl (fun ls hl => ?_)
  exact loop (g.k + 1) 0 σ.F (by omega) (by omega) Ru.rf (fun y hy => absurd hy (by omega)) _ _ ls hW (lv_sub hl [0, 1, 2, 3] rfl)
set_option maxHeartbeats 4000000 in
set_option maxRecDepth 100000 in
/-- Limbs.swap(a, b, k) -/
theorem k_swap (l : Launch) (g : qCfg) (hg : g.ok) (σ : qSt) {i j : Nat} (hi : 12 ≤ i ∧ i < g.N)(hj : 12 ≤ j ∧ j < g.N)(hij : i ≠ j) : qCV l g yX0_swap wsX0_swap 0 0 [.ref (g.P i), .ref (g.P j), .int (nI g.k)] σ (fun σ' => ∃ F', σ' = σ.setF F' ∧ Fr σ.F F' [i, j] ∧ qV g F' i = qV g σ.F j ∧ qV g F' j = qV g σ.F i) := by
  refine q_sV (cc := cX0_swap) (maxL := 5) (by decide) rfl (Nat.le_of_ble_eq_true rfl) ?_
  intro p e s m args below meth c ls Q S hW hl fin
  obtain ⟨hx, hb, hml, hown, hts, hr, hlocks⟩ := id S
  obtain ⟨hk1, hk8, hn1, hn8⟩ := id hg
  have hl : lv_has ls 5 [(0, .ref (g.P i)), (1, .ref (g.P j)), (2, .int (nI g.k))] := hl
  have loop : ∀ (n x : Nat) (F : Nat → Nat → Int32), x ≤ g.k → g.k + 1 ≤ x + n → Fr σ.F F [i, j] → (∀ y, x ≤ y → F i y = σ.F i y) → (∀ y, x ≤ y → F j y = σ.F j y) → (∀ y, y < x → F i y = σ.F j y) → (∀ y, y < x → F j y = σ.F i y) → ∀ (H : Heap) (locs : List Loc) (ls : Array Slot), Wo g (Ad g s.heap.size) s H locs (σ.setF F) → lv_has ls 5 [(3, .int (nI x)), (0, .ref (g.P i)), (1, .ref (g.P j)), (2, .int (nI g.k))] → W p l e (rmm 0 0) s m args below meth c H locs 0 0 Q (F0 m 2 ls []) := by
    intro n
    induction n with
    | zero => intro x F h1 h2; exact absurd h2 (by omega)
    | succ n ih =>
      intro x F hx1 hx2 hfr hui huj hdi hdj H locs ls hW hl
      refine lv_iload_n hx hb dX0_swap_2 rfl (lv_at hl 0 rfl) ?_
      refine lv_iload_n hx hb dX0_swap_3 rfl (lv_at hl 3 rfl) ?_
      refine lv_icmp_ge (tgt := 29) hx hb dX0_swap_4 (by decide) (fun c1 => ?_) (fun c1 => ?_)
      · have hx3 := nle c1 (by omega) (by omega)
        exact fin _ _ _ _ _ hW (⟨F, rfl, hfr, rv_cong (fun y hy => hdi y (by omega)), rv_cong (fun y hy => hdj y (by omega))⟩) dX0_swap_29
      · have hx3 := nge c1 (by omega)
        refine lv_aload_n hx hb dX0_swap_7 rfl (lv_at hl 1 rfl) ?_
        refine lv_iload_n hx hb dX0_swap_8 rfl (lv_at hl 0 rfl) ?_
        refine q_iald hx hb hW (i := i) (j := x) hi (by omega) hk8 rfl dX0_swap_9 ?_
        refine q_ti (y := σ.F i x) (hui x (Nat.le_refl x)) ?_
        refine lv_istore (lv' := [(4, .int (σ.F i x)), (3, .int (nI x)), (0, .ref (g.P i)), (1, .ref (g.P j)), (2, .int (nI g.k))]) hx hb dX0_swap_10 hl (by decide) rfl (fun ls hl => ?_)
        refine lv_aload_n hx hb dX0_swap_12 rfl (lv_at hl 2 rfl) ?_
        refine lv_iload_n hx hb dX0_swap_13 rfl (lv_at hl 1 rfl) ?_
        refine lv_aload_n hx hb dX0_swap_14 rfl (lv_at hl 3 rfl) ?_
        refine lv_iload_n hx hb dX0_swap_15 rfl (lv_at hl 1 rfl) ?_
        refine q_iald hx hb hW (i := j) (j := x) hj (by omega) hk8 rfl dX0_swap_16 ?_
        refine q_ti (y := σ.F j x) (huj x (Nat.le_refl x)) ?_
        refine q_iastF (i := i) (F := F) hx hb hW (j := x) hi (by omega) hk8 rfl dX0_swap_17 (fun H locs hW => ?_)
        generalize hF1 : va_up F i (upd (F i) x (σ.F j x)) = F1 at hW
        refine lv_aload_n hx hb dX0_swap_18 rfl (lv_at hl 3 rfl) ?_
        refine lv_iload_n hx hb dX0_swap_19 rfl (lv_at hl 1 rfl) ?_
        refine lv_iload hx hb dX0_swap_20 (lv_at hl 0 rfl) ?_
        refine q_iastF (i := j) (F := F1) hx hb hW (j := x) hj (by omega) hk8 rfl dX0_swap_22 (fun H locs hW => ?_)
        refine lv_iinc (v := nI (x + 1)) (lv' := [(3, .int (nI (x + 1))), (4, .int (σ.F i x)), (0, .ref (g.P i)), (1, .ref (g.P j)), (2, .int (nI g.k))]) hx hb dX0_swap_23 hl (k := 1) rfl (nI_1 _) (by decide) rfl (fun ls hl => ?_)
        refine lv_goto (tgt := 2) hx hb dX0_swap_26 (by decide) ?_
        have e1 : ∀ y, F1 i y = if y = x then σ.F j x else F i y := fun y => by rw [← hF1, va_up_self]; rfl
        have e2 : F1 j = F j := by rw [← hF1, va_up_ne _ _ (Ne.symm hij)]
        refine ih (x + 1) _ (by omega) (by omega) (fun r hr => ?_) (fun y hy => ?_) (fun y hy => ?_) (fun y hy => ?_) (fun y hy => ?_) H locs ls hW (lv_sub hl [0, 2, 3, 4] rfl)
        · simp only [List.mem_cons, List.not_mem_nil, or_false, not_or] at hr
          rw [va_up_ne _ _ hr.2, ← hF1, va_up_ne _ _ hr.1]
          exact hfr r (by simp [hr.1, hr.2])
        · rw [va_up_ne _ _ hij, e1, if_neg (by omega)]; exact hui y (by omega)
        · rw [va_up_self, pk_un (by omega), e2]; exact huj y (by omega)
        · rw [va_up_ne _ _ hij, e1]
          by_cases q : y = x
          · rw [if_pos q, q]
          · rw [if_neg q]; exact hdi y (by omega)
        · rw [va_up_self]
          by_cases q : y = x
          · subst q; exact pk_us
          · rw [pk_un q, e2]; exact hdj y (by omega)
  refine lv_iconst (v := 0) hx hb dX0_swap_0 (by decide) ?_
  refine lv_istore_n (lv' := [(3, .int 0), (0, .ref (g.P i)), (1, .ref (g.P j)), (2, .int (nI g.k))]) hx hb dX0_swap_1 rfl hl (by decide) rfl (fun ls hl => ?_)
  exact loop (g.k + 1) 0 σ.F (by omega) (by omega) Fr.rf (fun _ _ => rfl) (fun _ _ => rfl) (fun y hy => absurd hy (by omega)) (fun y hy => absurd hy (by omega)) _ _ ls hW (lv_sub hl [0, 1, 2, 3] rfl)
set_option maxHeartbeats 4000000 in
set_option maxRecDepth 100000 in
/-- Limbs.setSmall(into, value, k) -/
theorem k_setSmall (l : Launch) (g : qCfg) (hg : g.ok) (σ : qSt) {i : Nat} (hi : 12 ≤ i ∧ i < g.N)(v : Int32) : qCV l g yX0_setSmall wsX0_setSmall 0 0 [.ref (g.P i), .int v, .int (nI g.k)] σ (fun σ' => ∃ F', σ' = σ.setF F' ∧ Fr σ.F F' [i] ∧ qV g F' i = uI v) := by
  refine q_sV (cc := cX0_setSmall) (maxL := 4) (by decide) rfl (Nat.le_of_ble_eq_true rfl) ?_
  intro p e s m args below meth c ls Q S hW hl fin
  obtain ⟨hx, hb, hml, hown, hts, hr, hlocks⟩ := id S
  obtain ⟨hk1, hk8, hn1, hn8⟩ := id hg
  have hl : lv_has ls 4 [(0, .ref (g.P i)), (1, .int v), (2, .int (nI g.k))] := hl
  have loop : ∀ (n x : Nat) (F : Nat → Nat → Int32), x ≤ g.k → g.k + 1 ≤ x + n → 1 ≤ x → Fr σ.F F [i] → (∀ y, 1 ≤ y → y < x → F i y = 0) → ∀ (H : Heap) (locs : List Loc) (ls : Array Slot), Wo g (Ad g s.heap.size) s H locs (σ.setF F) → lv_has ls 4 [(3, .int (nI x)), (0, .ref (g.P i)), (1, .int v), (2, .int (nI g.k))] → W p l e (rmm 0 0) s m args below meth c H locs 0 0 Q (F0 m 2 ls []) := by
    intro n
    induction n with
    | zero => intro x F h1 h2; exact absurd h2 (by omega)
    | succ n ih =>
      intro x F hx1 hx2 hx0 hR hd H locs ls hW hl
      refine lv_iload_n hx hb dX0_setSmall_2 rfl (lv_at hl 0 rfl) ?_
      refine lv_iload_n hx hb dX0_setSmall_3 rfl (lv_at hl 3 rfl) ?_
      refine lv_icmp_ge (tgt := 17) hx hb dX0_setSmall_4 (by decide) (fun c1 => ?_) (fun c1 => ?_)
      · have hx3 := nle c1 (by omega) (by omega)
        refine lv_aload_n hx hb dX0_setSmall_17 rfl (lv_at hl 1 rfl) ?_
        refine lv_iconst (v := 0) hx hb dX0_setSmall_18 (by decide) ?_
        refine lv_iload_n hx hb dX0_setSmall_19 rfl (lv_at hl 2 rfl) ?_
        refine q_iastF (i := i) (F := F) hx hb hW (j := 0) hi (by omega) hk8 rfl dX0_setSmall_20 (fun H locs hW => ?_)
        exact fin _ _ _ _ _ hW (⟨_, rfl, fun r hr => by rw [va_up_ne _ _ (fun q => hr (by rw [q]; exact List.mem_singleton_self i))]; exact hR r hr, by
                  show dv _ g.k = _
                  rw [va_up_self, dv_one hk1 (fun y h1 h2 => by rw [pk_un (by omega), hd y h1 (by omega)]; exact uI_0), pk_us]⟩) dX0_setSmall_21
      · have hx3 := nge c1 (by omega)
        refine lv_aload_n hx hb dX0_setSmall_7 rfl (lv_at hl 1 rfl) ?_
        refine lv_iload_n hx hb dX0_setSmall_8 rfl (lv_at hl 0 rfl) ?_
        refine lv_iconst (v := 0) hx hb dX0_setSmall_9 (by decide) ?_
        refine q_iastF (i := i) (F := F) hx hb hW (j := x) hi (by omega) hk8 rfl dX0_setSmall_10 (fun H locs hW => ?_)
        refine lv_iinc (v := nI (x + 1)) (lv' := [(3, .int (nI (x + 1))), (0, .ref (g.P i)), (1, .int v), (2, .int (nI g.k))]) hx hb dX0_setSmall_11 hl (k := 0) rfl (nI_1 _) (by decide) rfl (fun ls hl => ?_)
        refine lv_goto (tgt := 2) hx hb dX0_setSmall_14 (by decide) ?_
        exact ih (x + 1) _ (by omega) (by omega) (by omega) (fun r hr => by rw [va_up_ne _ _ (fun q => hr (by rw [q]; exact List.mem_singleton_self i))]; exact hR r hr) (fun y hy hy2 => by
          rw [va_up_self]
          by_cases q : y = x
          · subst q; exact pk_us
          · rw [pk_un q]; exact hd y hy (by omega)) H locs ls hW (lv_sub hl [0, 1, 2, 3] rfl)
  refine lv_iconst (v := 1) hx hb dX0_setSmall_0 (by decide) ?_
  refine lv_istore_n (lv' := [(3, .int 1), (0, .ref (g.P i)), (1, .int v), (2, .int (nI g.k))]) hx hb dX0_setSmall_1 rfl hl (by decide) rfl (fun ls hl => ?_)
  exact loop (g.k + 1) 1 σ.F (by omega) (by omega) (by omega) Fr.rf (fun y h1 h2 => absurd h2 (by omega)) _ _ ls hW (lv_sub hl [0, 1, 2, 3] rfl)
set_option maxHeartbeats 4000000 in
set_option maxRecDepth 100000 in
/-- Limbs.isSmall(row, value, k) -/
theorem k_isSmall (l : Launch) (g : qCfg) (hg : g.ok) (σ : qSt) {i : Nat} (hi : 12 ≤ i ∧ i < g.N)(v : Int32) : qCI l g yX0_isSmall wsX0_isSmall 0 0 [.ref (g.P i), .int v, .int (nI g.k)] σ (fun r σ' => σ' = σ ∧ r = if qV g σ.F i = uI v then 1 else 0) := by
  refine q_sZ (cc := cX0_isSmall) (maxL := 4) (by decide) rfl (Nat.le_of_ble_eq_true rfl) ?_
  intro p e s m args below meth c ls Q S hW hl fin
  obtain ⟨hx, hb, hml, hown, hts, hr, hlocks⟩ := id S
  obtain ⟨hk1, hk8, hn1, hn8⟩ := id hg
  have hl : lv_has ls 4 [(0, .ref (g.P i)), (1, .int v), (2, .int (nI g.k))] := hl
  have hiff := dv_small (d := fun x => uI (σ.F i x)) (k := g.k) hk1 (rB _ _) (uI_lt v)
  have loop : ∀ (n x : Nat) (_ : Unit), x ≤ g.k → g.k + 1 ≤ x + n → 1 ≤ x → (∀ y, 1 ≤ y → y < x → σ.F i y = 0) → ∀ (H : Heap) (locs : List Loc) (ls : Array Slot), Wo g (Ad g s.heap.size) s H locs (σ) → lv_has ls 4 [(3, .int (nI x)), (0, .ref (g.P i)), (1, .int v), (2, .int (nI g.k))] → W p l e (rmm 0 0) s m args below meth c H locs 0 0 Q (F0 m 2 ls []) := by
    intro n
    induction n with
    | zero => intro x _ h1 h2; exact absurd h2 (by omega)
    | succ n ih =>
      intro x u hx1 hx2 hx0 hd H locs ls hW hl
      refine lv_iload_n hx hb dX0_isSmall_2 rfl (lv_at hl 0 rfl) ?_
      refine lv_iload_n hx hb dX0_isSmall_3 rfl (lv_at hl 3 rfl) ?_
      refine lv_icmp_ge (tgt := 21) hx hb dX0_isSmall_4 (by decide) (fun c1 => ?_) (fun c1 => ?_)
      · have hx3 := nle c1 (by omega) (by omega)
        refine lv_aload_n hx hb dX0_isSmall_21 rfl (lv_at hl 1 rfl) ?_
        refine lv_iconst (v := 0) hx hb dX0_isSmall_22 (by decide) ?_
        refine q_iald hx hb hW (i := i) (j := 0) hi (by omega) hk8 rfl dX0_isSmall_23 ?_
        refine lv_iload_n hx hb dX0_isSmall_24 rfl (lv_at hl 2 rfl) ?_
        refine lv_icmp_ne (tgt := 32) hx hb dX0_isSmall_25 (by decide) (fun c2 => ?_) (fun c2 => ?_)
        · refine lv_iconst (v := 0) hx hb dX0_isSmall_32 (by decide) ?_
          exact fin _ _ _ _ _ _ (by decide) hW (⟨rfl, (if_neg (fun q => c2 (uI_inj (hiff.mp q).1))).symm⟩) dX0_isSmall_33
        · refine lv_iconst (v := 1) hx hb dX0_isSmall_28 (by decide) ?_
          refine lv_goto (tgt := 33) hx hb dX0_isSmall_29 (by decide) ?_
          exact fin _ _ _ _ _ _ (by decide) hW (⟨rfl, (if_pos (hiff.mpr ⟨congrArg uI c2, fun y h1 h2 => by rw [hd y h1 (by omega)]; exact uI_0⟩)).symm⟩) dX0_isSmall_33
      · have hx3 := nge c1 (by omega)
        refine lv_aload_n hx hb dX0_isSmall_7 rfl (lv_at hl 1 rfl) ?_
        refine lv_iload_n hx hb dX0_isSmall_8 rfl (lv_at hl 0 rfl) ?_
        refine q_iald hx hb hW (i := i) (j := x) hi (by omega) hk8 rfl dX0_isSmall_9 ?_
        refine lv_if_eq (tgt := 15) hx hb dX0_isSmall_10 (by decide) (fun c2 => ?_) (fun c2 => ?_)
        · refine lv_iinc (v := nI (x + 1)) (lv' := [(3, .int (nI (x + 1))), (0, .ref (g.P i)), (1, .int v), (2, .int (nI g.k))]) hx hb dX0_isSmall_15 hl (k := 0) rfl (nI_1 _) (by decide) rfl (fun ls hl => ?_)
          refine lv_goto (tgt := 2) hx hb dX0_isSmall_18 (by decide) ?_
          exact ih (x + 1) () (by omega) (by omega) (by omega) (fun y hy hy2 => by
            by_cases q : y = x
            · subst q; exact c2
            · exact hd y hy (by omega)) H locs ls hW (lv_sub hl [0, 1, 2, 3] rfl)
        · refine lv_iconst (v := 0) hx hb dX0_isSmall_13 (by decide) ?_
          exact fin _ _ _ _ _ _ (by decide) hW (⟨rfl, (if_neg (fun q => c2 (uI_inj (((hiff.mp q).2 x hx0 hx3).trans uI_0.symm)))).symm⟩) dX0_isSmall_14
  refine lv_iconst (v := 1) hx hb dX0_isSmall_0 (by decide) ?_
  refine lv_istore_n (lv' := [(3, .int 1), (0, .ref (g.P i)), (1, .int v), (2, .int (nI g.k))]) hx hb dX0_isSmall_1 rfl hl (by decide) rfl (fun ls hl => ?_)
  exact loop (g.k + 1) 1 () (by omega) (by omega) (by omega) (fun y h1 h2 => absurd h2 (by omega)) _ _ ls hW (lv_sub hl [0, 1, 2, 3] rfl)
set_option maxHeartbeats 4000000 in
set_option maxRecDepth 100000 in
/-- Limbs.isOdd(row) -/
theorem k_isOdd (l : Launch) (g : qCfg) (hg : g.ok) (σ : qSt) {i : Nat} (hi : 12 ≤ i ∧ i < g.N) : qCI l g yX0_isOdd wsX0_isOdd 0 0 [.ref (g.P i)] σ (fun r σ' => σ' = σ ∧ r = if qV g σ.F i % 2 = 1 then 1 else 0) := by
  refine q_sZ (cc := cX0_isOdd) (maxL := 1) (by decide) rfl (Nat.le_of_ble_eq_true rfl) ?_
  intro p e s m args below meth c ls Q S hW hl fin
  obtain ⟨hx, hb, hml, hown, hts, hr, hlocks⟩ := id S
  obtain ⟨hk1, hk8, hn1, hn8⟩ := id hg
  have hl : lv_has ls 1 [(0, .ref (g.P i))] := hl
  have hm : qV g σ.F i % 2 = uI (σ.F i 0) % 2 := dv_mod2 hk1
  refine lv_aload_n hx hb dX0_isOdd_0 rfl (lv_at hl 0 rfl) ?_
  refine lv_iconst (v := 0) hx hb dX0_isOdd_1 (by decide) ?_
  refine q_iald hx hb hW (i := i) (j := 0) hi (by omega) hk8 rfl dX0_isOdd_2 ?_
  refine lv_iconst (v := 1) hx hb dX0_isOdd_3 (by decide) ?_
  refine lv_iand hx hb dX0_isOdd_4 ?_
  refine q_ti (y := nI (uI (σ.F i 0) % 2)) (pk_and _ 1 (by decide)) ?_
  refine lv_if_eq (tgt := 12) hx hb dX0_isOdd_5 (by decide) (fun c1 => ?_) (fun c1 => ?_)
  · refine lv_iconst (v := 0) hx hb dX0_isOdd_12 (by decide) ?_
    have h0 : uI (σ.F i 0) % 2 = 0 := (nI_eq (by omega) (by decide)).mp (c1.trans nI_0.symm)
    exact fin _ _ _ _ _ _ (by decide) hW (⟨rfl, (if_neg (by omega)).symm⟩) dX0_isOdd_13
  · refine lv_iconst (v := 1) hx hb dX0_isOdd_8 (by decide) ?_
    refine lv_goto (tgt := 13) hx hb dX0_isOdd_9 (by decide) ?_
    have h0 : ¬ uI (σ.F i 0) % 2 = 0 := fun q => c1 (by rw [q]; rfl)
    exact fin _ _ _ _ _ _ (by decide) hW (⟨rfl, (if_pos (by omega)).symm⟩) dX0_isOdd_13
set_option maxHeartbeats 4000000 in
set_option maxRecDepth 100000 in
/-- Limbs.isBitSet(row, bit) -/
theorem k_isBitSet (l : Launch) (g : qCfg) (hg : g.ok) (σ : qSt) {i b : Nat} (hi : 12 ≤ i ∧ i < g.N)(hbt : b < 32 * g.k) : qCI l g yX0_isBitSet wsX0_isBitSet 0 0 [.ref (g.P i), .int (nI b)] σ (fun r σ' => σ' = σ ∧ r = if (qV g σ.F i).testBit b = true then 1 else 0) := by
  refine q_sZ (cc := cX0_isBitSet) (maxL := 2) (by decide) rfl (Nat.le_of_ble_eq_true rfl) ?_
  intro p e s m args below meth c ls Q S hW hl fin
  obtain ⟨hx, hb, hml, hown, hts, hr, hlocks⟩ := id S
  obtain ⟨hk1, hk8, hn1, hn8⟩ := id hg
  have hl : lv_has ls 2 [(0, .ref (g.P i)), (1, .int (nI b))] := hl
  have hm : (qV g σ.F i).testBit b = decide (uI (σ.F i (b / 32)) / 2 ^ (b % 32) % 2 = 1) := (dv_bit (rB _ _) hbt).trans Nat.testBit_eq_decide_div_mod_eq
  have hm2 : b % 32 < 32 := Nat.mod_lt _ (by decide)
  refine lv_aload_n hx hb dX0_isBitSet_0 rfl (lv_at hl 0 rfl) ?_
  refine lv_iload_n hx hb dX0_isBitSet_1 rfl (lv_at hl 1 rfl) ?_
  refine lv_bipush (v := 32) hx hb dX0_isBitSet_2 (by decide) ?_
  refine lv_idiv hx hb dX0_isBitSet_4 (by decide) ?_
  refine q_ti (y := nI (b / 32)) (pk_div (d := 32) (by omega) (by decide) (by decide)) ?_
  refine q_iald hx hb hW (i := i) (j := (b / 32)) hi (by omega) hk8 rfl dX0_isBitSet_5 ?_
  refine lv_iload_n hx hb dX0_isBitSet_6 rfl (lv_at hl 1 rfl) ?_
  refine lv_bipush (v := 32) hx hb dX0_isBitSet_7 (by decide) ?_
  refine lv_irem hx hb dX0_isBitSet_9 (by decide) ?_
  refine q_ti (y := nI (b % 32)) (pk_rem (d := 32) (by omega) (by decide) (by decide)) ?_
  refine lv_iushr hx hb dX0_isBitSet_10 rfl ?_
  refine q_ti (y := nI (uI (σ.F i (b / 32)) / 2 ^ (b % 32))) (ushr_nI _ hm2) ?_
  refine lv_iconst (v := 1) hx hb dX0_isBitSet_11 (by decide) ?_
  refine lv_iand hx hb dX0_isBitSet_12 ?_
  refine q_ti (y := nI (uI (σ.F i (b / 32)) / 2 ^ (b % 32) % 2)) (pk_andN (Nat.lt_of_le_of_lt (Nat.div_le_self _ _) (uI_lt _)) 1 (by decide)) ?_
  generalize uI (σ.F i (b / 32)) / 2 ^ (b % 32) = z at hm ⊢
  refine lv_if_eq (tgt := 20) hx hb dX0_isBitSet_13 (by decide) (fun c1 => ?_) (fun c1 => ?_)
  · refine lv_iconst (v := 0) hx hb dX0_isBitSet_20 (by decide) ?_
    have h0 : z % 2 = 0 := (nI_eq (by omega) (by decide)).mp (c1.trans nI_0.symm)
    exact fin _ _ _ _ _ _ (by decide) hW (⟨rfl, (if_neg (by rw [hm]; simp [h0])).symm⟩) dX0_isBitSet_21
  · refine lv_iconst (v := 1) hx hb dX0_isBitSet_16 (by decide) ?_
    refine lv_goto (tgt := 21) hx hb dX0_isBitSet_17 (by decide) ?_
    have h0 : z % 2 = 1 := by
      rcases (show z % 2 = 0 ∨ z % 2 = 1 by omega) with q | q
      · exact absurd (by rw [q]; rfl) c1
      · exact q
    exact fin _ _ _ _ _ _ (by decide) hW (⟨rfl, (if_pos (by rw [hm]; simp [h0])).symm⟩) dX0_isBitSet_21
set_option maxHeartbeats 4000000 in
set_option maxRecDepth 100000 in
/-- Limbs.highestBit(row, k): one below the number of bits that count -/
theorem k_highestBit (l : Launch) (g : qCfg) (hg : g.ok) (σ : qSt) {i : Nat} (hi : 12 ≤ i ∧ i < g.N) : qCI l g yX0_highestBit wsX0_highestBit 1 21 [.ref (g.P i), .int (nI g.k)] σ (fun r σ' => σ' = σ ∧ ∃ x, x ≤ 32 * g.k ∧ r = nI x - 1 ∧ qV g σ.F i < 2 ^ x) := by
  refine q_sI (cc := cX0_highestBit) (maxL := 3) (by decide) rfl (Nat.le_of_ble_eq_true rfl) ?_
  intro p e s m args below meth c ls Q S hW hl fin
  obtain ⟨hx, hb, hml, hown, hts, hr, hlocks⟩ := id S
  obtain ⟨hk1, hk8, hn1, hn8⟩ := id hg
  have hl : lv_has ls 3 [(0, .ref (g.P i)), (1, .int (nI g.k))] := hl
  have loop : ∀ (x : Nat) (_ : Unit), x ≤ 32 * g.k → qV g σ.F i < 2 ^ x → ∀ (H : Heap) (locs : List Loc) (ls : Array Slot), Wo g (Ad g s.heap.size) s H locs (σ) → lv_has ls 3 [(2, .int (nI x - 1)), (0, .ref (g.P i)), (1, .int (nI g.k))] → W p l e (rmm 1 21) s m args below meth c H locs 0 0 Q (F0 m 7 ls []) := by
    intro x
    induction x with
    | zero =>
      intro u hx1 hv H locs ls hW hl
      refine lv_iload_n hx hb dX0_highestBit_7 rfl (lv_at hl 0 rfl) ?_
      refine lv_if_lt (tgt := 27) hx hb dX0_highestBit_8 (by decide) (fun _ => ?_) (fun c9 => absurd (by decide) c9)
      refine lv_iconst (v := (-1)) hx hb dX0_highestBit_27 (by decide) ?_
      exact fin _ _ _ _ _ _ hW (⟨rfl, 0, Nat.zero_le _, rfl, hv⟩) dX0_highestBit_28
    | succ x ih =>
      intro u hx1 hv H locs ls hW hl
      rw [nI_pred] at hl
      refine lv_iload_n hx hb dX0_highestBit_7 rfl (lv_at hl 0 rfl) ?_
      refine lv_if_lt (tgt := 27) hx hb dX0_highestBit_8 (by decide) (fun c9 => absurd c9 (nI_pos (by omega))) (fun _ => ?_)
      refine lv_aload_n hx hb dX0_highestBit_11 rfl (lv_at hl 1 rfl) ?_
      refine lv_iload_n hx hb dX0_highestBit_12 rfl (lv_at hl 0 rfl) ?_
      refine q_i (q_runS (As := [.ref (g.P i), .int (nI x)]) (rest := []) S hW (k_isBitSet l g hg σ hi (b := x) (by omega)) gX0_highestBit_X0_isBitSet (nA := 2) ⟨rfl, by decide +kernel, ⟨by decide, by decide⟩⟩ rfl hl.1 rfl (by decide) dX0_highestBit_13 ⟨Nat.zero_le _, Nat.zero_le _⟩) hW Ad_hi (fun r_13 σ1 H locs hp hW => ?_)
      obtain ⟨e1, er⟩ := hp
      rw [e1] at hW
      refine lv_if_eq (tgt := 21) hx hb dX0_highestBit_16 (by decide) (fun c1 => ?_) (fun c1 => ?_)
      · have h0 := (fa_boolp er).1.mp c1
        refine lv_iinc (v := nI x - 1) (lv' := [(2, .int (nI x - 1)), (0, .ref (g.P i)), (1, .int (nI g.k))]) hx hb dX0_highestBit_21 hl (k := 0) rfl (by rw [Int32.sub_eq_add_neg]; rfl) (by decide) rfl (fun ls hl => ?_)
        refine lv_goto (tgt := 7) hx hb dX0_highestBit_24 (by decide) ?_
        exact ih () (by omega) (tb_down hv h0) H locs ls hW (lv_sub hl [0, 1, 2] rfl)
      · refine lv_iload_n hx hb dX0_highestBit_19 rfl (lv_at hl 0 rfl) ?_
        exact fin _ _ _ _ _ _ hW (⟨rfl, x + 1, hx1, by rw [nI_pred], hv⟩) dX0_highestBit_20
  refine lv_iload_n hx hb dX0_highestBit_0 rfl (lv_at hl 1 rfl) ?_
  refine lv_bipush (v := 32) hx hb dX0_highestBit_1 (by decide) ?_
  refine lv_imul hx hb dX0_highestBit_3 ?_
  refine q_ti (y := nI (g.k * 32)) (pk_mul _ 32) ?_
  refine q_ti (y := nI (32 * g.k)) (by rw [Nat.mul_comm]) ?_
  refine lv_iconst (v := 1) hx hb dX0_highestBit_4 (by decide) ?_
  refine lv_isub hx hb dX0_highestBit_5 ?_
  refine lv_istore_n (lv' := [(2, .int ((nI (32 * g.k)) - 1)), (0, .ref (g.P i)), (1, .int (nI g.k))]) hx hb dX0_highestBit_6 rfl hl (by decide) rfl (fun ls hl => ?_)
  exact loop (32 * g.k) () (Nat.le_refl _) qV_lt _ _ ls hW (lv_sub hl [0, 1, 2] rfl)
set_option maxHeartbeats 4000000 in
set_option maxRecDepth 100000 in
/-- Limbs.order(a, b, k) -/
theorem k_order (l : Launch) (g : qCfg) (hg : g.ok) (σ : qSt) {i j : Nat} (hi : 12 ≤ i ∧ i < g.N)(hj : 12 ≤ j ∧ j < g.N) : qCI l g yX0_order wsX0_order 0 0 [.ref (g.P i), .ref (g.P j), .int (nI g.k)] σ (fun r σ' => σ' = σ ∧ r = if qV g σ.F i < qV g σ.F j then -1 else if qV g σ.F i = qV g σ.F j then 0 else 1) := by
  refine q_sI (cc := cX0_order) (maxL := 4) (by decide) rfl (Nat.le_of_ble_eq_true rfl) ?_
  intro p e s m args below meth c ls Q S hW hl fin
  obtain ⟨hx, hb, hml, hown, hts, hr, hlocks⟩ := id S
  obtain ⟨hk1, hk8, hn1, hn8⟩ := id hg
  have hl : lv_has ls 4 [(0, .ref (g.P i)), (1, .ref (g.P j)), (2, .int (nI g.k))] := hl
  have loop : ∀ (x : Nat) (_ : Unit), x ≤ g.k → (∀ y, x ≤ y → y < g.k → σ.F i y = σ.F j y) → ∀ (H : Heap) (locs : List Loc) (ls : Array Slot), Wo g (Ad g s.heap.size) s H locs (σ) → lv_has ls 4 [(3, .int (nI x - 1)), (0, .ref (g.P i)), (1, .ref (g.P j)), (2, .int (nI g.k))] → W p l e (rmm 0 0) s m args below meth c H locs 0 0 Q (F0 m 4 ls []) := by
    intro x
    induction x with
    | zero =>
      intro u hx1 hv H locs ls hW hl
      refine lv_iload_n hx hb dX0_order_4 rfl (lv_at hl 0 rfl) ?_
      refine lv_if_lt (tgt := 49) hx hb dX0_order_5 (by decide) (fun _ => ?_) (fun c9 => absurd (by decide) c9)
      refine lv_iconst (v := 0) hx hb dX0_order_49 (by decide) ?_
      have he : qV g σ.F i = qV g σ.F j := rv_cong (fun y hy => hv y (Nat.zero_le y) hy)
      exact fin _ _ _ _ _ _ hW (⟨rfl, by rw [if_neg (by omega), if_pos he]⟩) dX0_order_50
    | succ x ih =>
      intro u hx1 hv H locs ls hW hl
      rw [nI_pred] at hl
      refine lv_iload_n hx hb dX0_order_4 rfl (lv_at hl 0 rfl) ?_
      refine lv_if_lt (tgt := 49) hx hb dX0_order_5 (by decide) (fun c9 => absurd c9 (nI_pos (by omega))) (fun _ => ?_)
      refine lv_aload_n hx hb dX0_order_8 rfl (lv_at hl 1 rfl) ?_
      refine lv_iload_n hx hb dX0_order_9 rfl (lv_at hl 0 rfl) ?_
      refine q_iald hx hb hW (i := i) (j := x) hi (by omega) hk8 rfl dX0_order_10 ?_
      refine lv_aload_n hx hb dX0_order_11 rfl (lv_at hl 2 rfl) ?_
      refine lv_iload_n hx hb dX0_order_12 rfl (lv_at hl 0 rfl) ?_
      refine q_iald hx hb hW (i := j) (j := x) hj (by omega) hk8 rfl dX0_order_13 ?_
      refine lv_icmp_eq (tgt := 43) hx hb dX0_order_14 (by decide) (fun c1 => ?_) (fun c1 => ?_)
      · refine lv_iinc (v := nI x - 1) (lv' := [(3, .int (nI x - 1)), (0, .ref (g.P i)), (1, .ref (g.P j)), (2, .int (nI g.k))]) hx hb dX0_order_43 hl (k := 0) rfl (by rw [Int32.sub_eq_add_neg]; rfl) (by decide) rfl (fun ls hl => ?_)
        refine lv_goto (tgt := 4) hx hb dX0_order_46 (by decide) ?_
        exact ih () (by omega) (fun y h1 h2 => by
          by_cases q : y = x
          · subst q; exact c1
          · exact hv y (by omega) h2) H locs ls hW (lv_sub hl [0, 1, 2, 3] rfl)
      · refine lv_aload_n hx hb dX0_order_17 rfl (lv_at hl 1 rfl) ?_
        refine lv_iload_n hx hb dX0_order_18 rfl (lv_at hl 0 rfl) ?_
        refine q_iald hx hb hW (i := i) (j := x) hi (by omega) hk8 rfl dX0_order_19 ?_
        refine lv_i2l hx hb dX0_order_20 rfl ?_
        refine lv_ldc2 (v := 4294967295) hx hb hown (hts (.constantLong RX0 15 (4294967295)) (by decide +kernel)) dX0_order_21 ?_
        refine lv_land hx hb dX0_order_24 ?_
        refine q_tl (y := lN (uI (σ.F i x))) (m32 _) ?_
        refine lv_aload_n hx hb dX0_order_25 rfl (lv_at hl 2 rfl) ?_
        refine lv_iload_n hx hb dX0_order_26 rfl (lv_at hl 0 rfl) ?_
        refine q_iald hx hb hW (i := j) (j := x) hj (by omega) hk8 rfl dX0_order_27 ?_
        refine lv_i2l hx hb dX0_order_28 rfl ?_
        refine lv_ldc2 (v := 4294967295) hx hb hown (hts (.constantLong RX0 15 (4294967295)) (by decide +kernel)) dX0_order_29 ?_
        refine lv_land hx hb dX0_order_32 ?_
        refine q_tl (y := lN (uI (σ.F j x))) (m32 _) ?_
        refine W.lcmp hx hb dX0_order_33 ?_
        have hne := uI_ne c1
        have hb1 := uI_lt (σ.F i x)
        have hb2 := uI_lt (σ.F j x)
        have hj1 : x + 1 + (g.k - (x + 1)) = g.k := by omega
        have hlt : uI (σ.F i x) < uI (σ.F j x) → qV g σ.F i < qV g σ.F j := fun q => by
          have h9 := dv_less (d := fun y => uI (σ.F i y)) (e := fun y => uI (σ.F j y)) (x := x) (rB _ _) q (j := g.k - (x + 1)) (fun y h1 h2 => by rw [hv y (by omega) (by omega)])
          rw [hj1] at h9
          exact h9
        have hgt : uI (σ.F j x) < uI (σ.F i x) → qV g σ.F j < qV g σ.F i := fun q => by
          have h9 := dv_less (d := fun y => uI (σ.F j y)) (e := fun y => uI (σ.F i y)) (x := x) (rB _ _) q (j := g.k - (x + 1)) (fun y h1 h2 => by rw [hv y (by omega) (by omega)])
          rw [hj1] at h9
          exact h9
        refine lv_if_ge (tgt := 41) hx hb dX0_order_34 (by decide) (fun c2 => ?_) (fun c2 => ?_)
        · refine lv_iconst (v := 1) hx hb dX0_order_41 (by decide) ?_
          have h0 := hgt (by have := (lcmp_ge (by omega) (by omega)).mp c2; omega)
          exact fin _ _ _ _ _ _ hW (⟨rfl, by rw [if_neg (by omega), if_neg (by omega)]⟩) dX0_order_42
        · refine lv_iconst (v := (-1)) hx hb dX0_order_37 (by decide) ?_
          refine lv_goto (tgt := 42) hx hb dX0_order_38 (by decide) ?_
          have h0 := hlt (Nat.not_le.mp (fun q => c2 ((lcmp_ge (by omega) (by omega)).mpr q)))
          exact fin _ _ _ _ _ _ hW (⟨rfl, by rw [if_pos h0]⟩) dX0_order_42
  refine lv_iload_n hx hb dX0_order_0 rfl (lv_at hl 2 rfl) ?_
  refine lv_iconst (v := 1) hx hb dX0_order_1 (by decide) ?_
  refine lv_isub hx hb dX0_order_2 ?_
  refine lv_istore_n (lv' := [(3, .int ((nI g.k) - 1)), (0, .ref (g.P i)), (1, .ref (g.P j)), (2, .int (nI g.k))]) hx hb dX0_order_3 rfl hl (by decide) rfl (fun ls hl => ?_)
  exact loop g.k () (Nat.le_refl _) (fun y h1 h2 => absurd h2 (by omega)) _ _ ls hW (lv_sub hl [0, 1, 2, 3] rfl)
