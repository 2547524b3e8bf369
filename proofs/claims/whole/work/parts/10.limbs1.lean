set_option maxHeartbeats 4000000 in
set_option maxRecDepth 100000 in
/-- Limbs.copy(into, from, k): row i becomes row j -/
theorem k_copy (l : Launch) (g : qCfg) (hg : g.ok) (σ : qSt) {i j : Nat} (hi : 12 ≤ i ∧ i < g.N) (hj : 12 ≤ j ∧ j < g.N) : qCV l g yX0_copy wsX0_copy 0 0 [.ref (g.P i), .ref (g.P j), .int (nI g.k)] σ (fun σ' => ∃ h : Nat → Int32, (∀ x, x < g.k → h x = σ.F j x) ∧ σ' = σ.setR i h) := by
  refine q_sV (cc := cX0_copy) (maxL := 4) (by decide) rfl (Nat.le_of_ble_eq_true rfl) ?_
  intro p e s m args below meth c ls Q S hW hl fin
  obtain ⟨hx, hb, hml, hown, hts, hr, hlocks⟩ := id S
  obtain ⟨hk1, hk8, hn1, hn8⟩ := id hg
  have hl : lv_has ls 4 [(0, .ref (g.P i)), (1, .ref (g.P j)), (2, .int (nI g.k))] := hl
  have loop : ∀ (n x : Nat) (h : Nat → Int32), x ≤ g.k → g.k + 1 ≤ x + n → (∀ y, x ≤ y → h y = σ.F i y) → (∀ y, y < x → h y = σ.F j y) → ∀ (H : Heap) (locs : List Loc) (ls : Array Slot), Wo g (Ad g s.heap.size) s H locs (σ.setR i h) → lv_has ls 4 [(3, .int (nI x)), (0, .ref (g.P i)), (1, .ref (g.P j)), (2, .int (nI g.k))] → W p l e (rmm 0 0) s m args below meth c H locs 0 0 Q (F0 m 2 ls []) := by
    intro n
    induction n with
    | zero => intro x h h1 h2; exact absurd h2 (by omega)
    | succ n ih =>
      intro x h hx1 hx2 hk hd H locs ls hW hl
      refine lv_iload_n hx hb dX0_copy_2 rfl (lv_at hl 0 rfl) ?_
      refine lv_iload_n hx hb dX0_copy_3 rfl (lv_at hl 3 rfl) ?_
      refine lv_icmp_ge (tgt := 19) hx hb dX0_copy_4 (by decide) (fun c1 => ?_) (fun c1 => ?_)
      · have hx3 : x = g.k := by
          rcases Nat.lt_or_ge x g.k with q | q
          · exact absurd c1 (nI_ge q (by omega))
          · omega
        exact fin _ _ _ _ _ hW (⟨h, fun y hy => hd y (by omega), rfl⟩) dX0_copy_19
      · have hx3 : x < g.k := Nat.not_le.mp (fun q => c1 (nI_le q (by omega)))
        refine lv_aload_n hx hb dX0_copy_7 rfl (lv_at hl 1 rfl) ?_
        refine lv_iload_n hx hb dX0_copy_8 rfl (lv_at hl 0 rfl) ?_
        refine lv_aload_n hx hb dX0_copy_9 rfl (lv_at hl 2 rfl) ?_
        refine lv_iload_n hx hb dX0_copy_10 rfl (lv_at hl 0 rfl) ?_
        refine q_iald hx hb hW (i := j) (j := x) hj (by omega) hk8 rfl dX0_copy_11 ?_
        refine q_ti (y := σ.F j x) (rdk (hk _ (Nat.le_refl _)) _) ?_
        refine q_iastR hx hb hW (j := x) hi (by omega) hk8 rfl dX0_copy_12 (fun H locs hW => ?_)
        refine lv_iinc (v := nI (x + 1)) (lv' := [(3, .int (nI (x + 1))), (0, .ref (g.P i)), (1, .ref (g.P j)), (2, .int (nI g.k))]) hx hb dX0_copy_13 hl (k := 0) rfl (nI_1 _) (by decide) rfl (fun ls hl => ?_)
        refine lv_goto (tgt := 2) hx hb dX0_copy_16 (by decide) ?_
        exact ih (x + 1) (upd h x (σ.F j x)) (by omega) (by omega) (fun y hy => by rw [pk_un (by omega)]; exact hk y (by omega)) (fun y hy => by
          by_cases q : y = x
          · subst q; exact pk_us
          · rw [pk_un q]; exact hd y (by omega)) H locs ls hW (lv_sub hl [0, 1, 2, 3] rfl)
  refine lv_iconst (v := 0) hx hb dX0_copy_0 (by decide) ?_
  refine lv_istore_n (lv' := [(3, .int 0), (0, .ref (g.P i)), (1, .ref (g.P j)), (2, .int (nI g.k))]) hx hb dX0_copy_1 rfl hl (by decide) rfl (fun ls hl => ?_)
  exact loop (g.k + 1) 0 (σ.F i) (by omega) (by omega) (fun _ _ => rfl) (fun y hy => absurd hy (by omega)) _ _ ls (by rw [setR_self]; exact hW) (lv_sub hl [0, 1, 2, 3] rfl)
