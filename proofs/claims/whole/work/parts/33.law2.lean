set_option maxHeartbeats 4000000 in
set_option maxRecDepth 100000 in
/-- the law's loop -/
theorem law_loop {p : Program} {l : Launch} {e : Env} {s : State} {m : MethodId} {below : List Frame} {meth : Method} {c : Code} {g : qCfg} (hg : g.ok) {b L : Nat} {xs : Nat → Int32} (hL : L ≤ 2050) (C0 : lw_At p s m meth c b L xs) : ∀ (n i : Nat) (σ : qSt) (M : Nat) (X : Nat → Nat), i ≤ 2060 → 2060 ≤ i + n → LI g σ M X → ∀ (H : Heap) (locs : List Loc) (ls : Array Slot), Wo g (fun q : Nat => s.heap.size ≤ q) s H locs σ → lv_has ls 4 [(3, .int (nI i)), (1, .ref (g.P 0)), (2, .ref (g.P 3)), (0, .ref b)] → W p l e room_1 s m #[Value.ref b] below meth c H locs 600000 7302250 (lw_Z below #[Value.ref b] s) (F0 m 38 ls []) := by
  obtain ⟨hx, hb, hr, hml, hown0, hts0, hX, hbl, hlocks, hgv⟩ := id C0
  have hbA : ¬ (fun q : Nat => s.heap.size ≤ q) b := Nat.not_le.mpr hbl
  intro n
  induction n with
  | zero =>
    intro i σ M X hi hin hLI H locs ls hW hl
    refine lv_iload_n hx hb dL_law_38 rfl (lv_at hl 0 rfl) ?_
    refine lv_aload_n hx hb dL_law_39 rfl (lv_at hl 3 rfl) ?_
    refine va_slen hx hb hX hbl hbA hW.2.2.1 dL_law_40 ?_
    refine lv_iconst (v := 4) hx hb dL_law_41 (by decide) ?_
    refine lv_isub hx hb dL_law_42 ?_
    refine lv_icmp_gt (tgt := 619) hx hb dL_law_43 (by decide) (fun _ => ?_) (fun c9 => absurd (law_in (by omega) (by omega) c9) (by omega))
    refine lv_iconst (v := 1) hx hb dL_law_619 (by decide) ?_
    refine va_forget (fun q hq => hW.2.2.1.2.2 q hq) ?_
    exact lw_ret hx hb hr hlocks dL_law_620
  | succ n ih =>
    intro i σ M X hi hin hLI H locs ls hW hl
    refine lv_iload_n hx hb dL_law_38 rfl (lv_at hl 0 rfl) ?_
    refine lv_aload_n hx hb dL_law_39 rfl (lv_at hl 3 rfl) ?_
    refine va_slen hx hb hX hbl hbA hW.2.2.1 dL_law_40 ?_
    refine lv_iconst (v := 4) hx hb dL_law_41 (by decide) ?_
    refine lv_isub hx hb dL_law_42 ?_
    refine lv_icmp_gt (tgt := 619) hx hb dL_law_43 (by decide) (fun _ => ?_) (fun c9 => ?_)
    · refine lv_iconst (v := 1) hx hb dL_law_619 (by decide) ?_
      refine va_forget (fun q hq => hW.2.2.1.2.2 q hq) ?_
      exact lw_ret hx hb hr hlocks dL_law_620
    · have hiL : i + 4 ≤ L := law_in (by omega) (by omega) c9
      have next : (∀ (σ2 : qSt) (M2 : Nat) (X2 : Nat → Nat) (H : Heap) (locs : List Loc) (ls : Array Slot), LI g σ2 M2 X2 → Wo g (fun q : Nat => s.heap.size ≤ q) s H locs σ2 → lv_has ls 4 [(3, .int (nI i)), (1, .ref (g.P 0)), (2, .ref (g.P 3)), (0, .ref b)] → W p l e room_1 s m #[Value.ref b] below meth c H locs 600000 7302250 (lw_Z below #[Value.ref b] s) (F0 m 613 ls [])) := by
        intro σ2 M2 X2 H locs ls hLI2 hW hl
        refine lv_iinc (v := nI (i + 4)) (lv' := [(3, .int (nI (i + 4))), (1, .ref (g.P 0)), (2, .ref (g.P 3)), (0, .ref b)]) hx hb dL_law_613 hl (k := 0) rfl (nI_add _ 4) (by decide) rfl (fun ls hl => ?_)
        refine lv_goto (tgt := 38) hx hb dL_law_616 (by decide) ?_
        exact ih (i + 4) σ2 M2 X2 (by omega) (by omega) hLI2 H locs ls hW (lv_sub hl [0, 1, 2, 3] rfl)
      refine lv_aload_n hx hb dL_law_46 rfl (lv_at hl 3 rfl) ?_
      refine lv_iload_n hx hb dL_law_47 rfl (lv_at hl 0 rfl) ?_
      refine q_sld hx hb hX hbl hbA hW.2.2.1 (j := i) (by omega) hL rfl dL_law_48 ?_
      refine lv_bipush (v := 15) hx hb dL_law_49 (by decide) ?_
      refine lv_iand hx hb dL_law_51 ?_
      obtain ⟨j, hj, ej⟩ := pk_andE (xs i) (m := 15) 4 (by decide)
      refine q_ti (y := nI j) ej ?_
      rcases (show j = 0 ∨ j = 1 ∨ j = 2 ∨ j = 3 ∨ j = 4 ∨ j = 5 ∨ j = 6 ∨ j = 7 ∨ j = 8 ∨ j = 9 ∨ j = 10 ∨ j = 11 ∨ j = 12 ∨ j = 13 ∨ j = 14 ∨ j = 15 by omega) with rfl | rfl | rfl | rfl | rfl | rfl | rfl | rfl | rfl | rfl | rfl | rfl | rfl | rfl | rfl | rfl
      · exact lv_tableIn (tgt := 128) hx hb dL_law_52 (by decide) (by decide) rfl (by decide) (law_pokeMod hg hL C0 hiL hLI hW hl next)
      · exact lv_tableIn (tgt := 161) hx hb dL_law_52 (by decide) (by decide) rfl (by decide) (law_peekMod hg hL C0 hiL hLI hW hl next)
      · exact lv_tableIn (tgt := 184) hx hb dL_law_52 (by decide) (by decide) rfl (by decide) (law_init hg hL C0 hiL hLI hW hl next)
      · exact lv_tableIn (tgt := 197) hx hb dL_law_52 (by decide) (by decide) rfl (by decide) (law_ready hg hL C0 hiL hLI hW hl next)
      · exact lv_tableIn (tgt := 210) hx hb dL_law_52 (by decide) (by decide) rfl (by decide) (law_poke hg hL C0 hiL hLI hW hl next)
      · exact lv_tableIn (tgt := 253) hx hb dL_law_52 (by decide) (by decide) rfl (by decide) (law_peek hg hL C0 hiL hLI hW hl next)
      · exact lv_tableIn (tgt := 286) hx hb dL_law_52 (by decide) (by decide) rfl (by decide) (law_reduce hg hL C0 hiL hLI hW hl next)
      · exact lv_tableIn (tgt := 309) hx hb dL_law_52 (by decide) (by decide) rfl (by decide) (law_addMod hg hL C0 hiL hLI hW hl next)
      · exact lv_tableIn (tgt := 352) hx hb dL_law_52 (by decide) (by decide) rfl (by decide) (law_subMod hg hL C0 hiL hLI hW hl next)
      · exact lv_tableIn (tgt := 395) hx hb dL_law_52 (by decide) (by decide) rfl (by decide) (law_mulMod hg hL C0 hiL hLI hW hl next)
      · exact lv_tableIn (tgt := 438) hx hb dL_law_52 (by decide) (by decide) rfl (by decide) (law_montMod hg hL C0 hiL hLI hW hl next)
      · exact lv_tableIn (tgt := 481) hx hb dL_law_52 (by decide) (by decide) rfl (by decide) (law_powMod hg hL C0 hiL hLI hW hl next)
      · exact lv_tableIn (tgt := 524) hx hb dL_law_52 (by decide) (by decide) rfl (by decide) (law_invMod hg hL C0 hiL hLI hW hl next)
      · exact lv_tableIn (tgt := 557) hx hb dL_law_52 (by decide) (by decide) rfl (by decide) (law_witness hg hL C0 hiL hLI hW hl next)
      · exact lv_tableIn (tgt := 580) hx hb dL_law_52 (by decide) (by decide) rfl (by decide) (law_compare hg hL C0 hiL hLI hW hl next)
      · exact lv_tableOut (tgt := 613) hx hb dL_law_52 (by decide) (by decide) (next σ M X H locs ls hLI hW hl)
