theorem iw_X1_init_X1 : ∀ w ∈ wsX10, w ∈ wsX1_init := by decide +kernel
theorem iw_X2_init_X1 : ∀ w ∈ wsX10, w ∈ wsX2_init := by decide +kernel
theorem iw_X2_init_X2 : ∀ w ∈ wsX20, w ∈ wsX2_init := by decide +kernel
theorem iw_X3_init_X3 : ∀ w ∈ wsX30, w ∈ wsX3_init := by decide +kernel
/-- a new Ring with its nine rows, at Q 12 .. Q 20 -/
def ringW (cI : ClassId) (h0 k : Nat) (Q : Nat → Nat) : va_W := [(h0, .inr (0, [.ref (Q 12), .int (nI k), .int (nI (32 * k)), .ref (Q 13), .ref (Q 14), .ref (Q 15), .ref (Q 16), .ref (Q 17), .ref (Q 18), .ref (Q 19), .ref (Q 20), .int 0])), (Q 12, .inl (cI, k, .inl (fun _ => 0))), (Q 13, .inl (cI, k, .inl (upd (fun _ => 0) 0 1))), (Q 14, .inl (cI, k, .inl (fun _ => 0))), (Q 15, .inl (cI, k, .inl (fun _ => 0))), (Q 16, .inl (cI, k, .inl (fun _ => 0))), (Q 17, .inl (cI, k, .inl (fun _ => 0))), (Q 18, .inl (cI, k, .inl (fun _ => 0))), (Q 19, .inl (cI, k, .inl (fun _ => 0))), (Q 20, .inl (cI, k, .inl (fun _ => 0)))]
set_option maxHeartbeats 4000000 in
set_option maxRecDepth 100000 in
/-- Ring(limbs) -/
theorem c_ring (l : Launch) (D : va_G) (cI : ClassId) (h0 sz k : Nat) (hk1 : 1 ≤ k) (hk8 : k ≤ 8) : Met l yX1_init wsX1_init ({ frames := 1, cells := 9, slots := 72, locals := 12 }) (va_Pc [.ref h0, .int (nI k)] (fun U => U.heap.size = sz ∧ va_P D vwCl [(h0, .inr (0, [.null, .int 0, .int 0, .null, .null, .null, .null, .null, .null, .null, .null, .int 0]))] U.heap ∧ va_K D vwCl [(cI, .int)] U ∧ va_D (fun _ => True) [(h0, .inr (0, [.null, .int 0, .int 0, .null, .null, .null, .null, .null, .null, .null, .null, .int 0]))])) (va_Qv (fun _ : Nat → Nat => True) (fun Q t => va_P D vwCl (ringW cI h0 k Q) t.heap ∧ va_K D vwCl [(cI, .int)] t ∧ va_D (va_A [(h0, .inr (0, [.null, .int 0, .int 0, .null, .null, .null, .null, .null, .null, .null, .null, .int 0]))] sz) (ringW cI h0 k Q)) (va_A [(h0, .inr (0, [.null, .int 0, .int 0, .null, .null, .null, .null, .null, .null, .null, .null, .int 0]))] sz)) 9 72 (va_A [(h0, .inr (0, [.null, .int 0, .int 0, .null, .null, .null, .null, .null, .null, .null, .null, .int 0]))] sz) := by
  refine Met.ofW (cc := cX1_init) (maxL := 2) (ret := none) (by decide) rfl ?_
  intro p e s m args below meth c s₁ B hml hv
  obtain ⟨rfl, hsz, hP, hK, hD0⟩ := hv
  have hx := B.exec
  have hb := B.bytes
  have hr := B.returns
  have hts := atoms_spec (ws := wsX1_init) B.pre
  have hown : s.vm.findClass RX1 = some m.cls := findClass_of_methodNamed B.named
  have hlocks := B.notSynchronized
  have hin : meth.name = "<init>" := (name_of_methodNamed B.named B.method).1
  subst hsz
  have hD := hD0.self (sz := s.heap.size)
  generalize hAe : va_A [(h0, .inr (0, [.null, .int 0, .int 0, .null, .null, .null, .null, .null, .null, .null, .null, .int 0]))] s.heap.size = A at hD ⊢
  have hA : ∀ q : Nat, s.heap.size ≤ q → A q := fun q h => by rw [← hAe]; exact Or.inr h
  have hS : va_S A s.heap s.heap [] := va_S.rf
  have hl := lv_entry ([.ref h0, .int (nI k)]) (n := 2) (Nat.le_of_ble_eq_true rfl)
  rw [lg_entry_eq]
  generalize (lg_sl ([.ref h0, .int (nI k)]) ++ List.replicate (2 - (lg_sl ([.ref h0, .int (nI k)])).length) Slot.unset).toArray = ls at hl ⊢
  have hl : lv_has ls 2 [(0, .ref h0), (1, .int (nI k))] := hl
  have hP : va_P D vwCl [(h0, .inr (0, [.null, .int 0, .int 0, .null, .null, .null, .null, .null, .null, .null, .null, .int 0]))] s.heap := hP
  refine lv_aload_n hx hb dX1_init_0 rfl (lv_at hl 0 rfl) ?_
  refine W.objInit hx hb hown (hts (.methodLink RX1 3 objectInit) (by decide +kernel)) (hts (.instanceMethod objectInit) (by decide +kernel)) (hts _ (List.mem_cons_of_mem _ (List.mem_append_left _ (List.mem_of_getElem? (i := 2) rfl)))) rfl (by rw [hml]; exact hl.1) rfl dX1_init_1 (Nat.le_of_ble_eq_true rfl) (Nat.le_of_ble_eq_true rfl) ?_
  refine W.eq (g2 := F0 m 4 ls []) rfl ?_
  refine lv_aload_n hx hb dX1_init_4 rfl (lv_at hl 0 rfl) ?_
  refine lv_iload_n hx hb dX1_init_5 rfl (lv_at hl 1 rfl) ?_
  refine va_putF (D := D) (ci := 0) (v := .int (nI k)) (ty := .int) (C := RX1) (T := TX1) (N := 12) hx hb hts (fun _ h9 => iw_X1_init_X1 _ h9) tyX1 tyX1_ok nmX1 hown hK hP hD hS 0 rfl rfl 1 (by decide) (hts (.fieldLink RX1 9 "ModEngine$Ring" "k" "I") (by decide +kernel)) (fun _ h9 => h9) rfl hin rfl (by decide +kernel) rfl rfl (Nat.le_of_ble_eq_true rfl) dX1_init_6 (fun H locs hP hD hS => ?_)
  have hP : va_P D vwCl [(h0, .inr (0, [.null, .int (nI k), .int 0, .null, .null, .null, .null, .null, .null, .null, .null, .int 0]))] H := hP
  have hD : va_D A [(h0, .inr (0, [.null, .int (nI k), .int 0, .null, .null, .null, .null, .null, .null, .null, .null, .int 0]))] := hD
  refine lv_aload_n hx hb dX1_init_9 rfl (lv_at hl 0 rfl) ?_
  refine lv_iload_n hx hb dX1_init_10 rfl (lv_at hl 1 rfl) ?_
  refine lv_bipush (v := 32) hx hb dX1_init_11 (by decide) ?_
  refine lv_imul hx hb dX1_init_13 ?_
  refine q_ti (y := nI (32 * k)) (by rw [show 32 * k = k * 32 by omega]; exact pk_mul _ 32) ?_
  refine va_putF (D := D) (ci := 0) (v := .int (nI (32 * k))) (ty := .int) (C := RX1) (T := TX1) (N := 12) hx hb hts (fun _ h9 => iw_X1_init_X1 _ h9) tyX1 tyX1_ok nmX1 hown hK hP hD hS 0 rfl rfl 2 (by decide) (hts (.fieldLink RX1 15 "ModEngine$Ring" "bits" "I") (by decide +kernel)) (fun _ h9 => h9) rfl hin rfl (by decide +kernel) rfl rfl (Nat.le_of_ble_eq_true rfl) dX1_init_14 (fun H locs hP hD hS => ?_)
  have hP : va_P D vwCl [(h0, .inr (0, [.null, .int (nI k), .int (nI (32 * k)), .null, .null, .null, .null, .null, .null, .null, .null, .int 0]))] H := hP
  have hD : va_D A [(h0, .inr (0, [.null, .int (nI k), .int (nI (32 * k)), .null, .null, .null, .null, .null, .null, .null, .null, .int 0]))] := hD
  refine lv_aload_n hx hb dX1_init_17 rfl (lv_at hl 0 rfl) ?_
  refine lv_iload_n hx hb dX1_init_18 rfl (lv_at hl 1 rfl) ?_
  refine c_newi hx hb (hts (.arrayClass .int) (by decide +kernel)) (cI := cI) 0 rfl hK hP hD hS hA (n := k) rfl (by omega) (by show _ + 1 ≤ 9; omega) (by show _ + k ≤ 72; omega) dX1_init_19 (fun q12 H hP hD hS => ?_)
  have hP : va_P D vwCl [(h0, .inr (0, [.null, .int (nI k), .int (nI (32 * k)), .null, .null, .null, .null, .null, .null, .null, .null, .int 0])), (q12, .inl (cI, k, .inl (fun _ => 0)))] H := hP
  have hD : va_D A [(h0, .inr (0, [.null, .int (nI k), .int (nI (32 * k)), .null, .null, .null, .null, .null, .null, .null, .null, .int 0])), (q12, .inl (cI, k, .inl (fun _ => 0)))] := hD
  refine va_putF (D := D) (ci := 0) (v := .ref q12) (ty := .array .int) (C := RX1) (T := TX1) (N := 12) hx hb hts (fun _ h9 => iw_X1_init_X1 _ h9) tyX1 tyX1_ok nmX1 hown hK hP hD hS 0 rfl rfl 0 (by decide) (hts (.fieldLink RX1 18 "ModEngine$Ring" "modulus" "[I") (by decide +kernel)) (fun _ h9 => h9) rfl hin rfl (by decide +kernel) rfl rfl (Nat.le_of_ble_eq_true rfl) dX1_init_21 (fun H locs hP hD hS => ?_)
  have hP : va_P D vwCl [(h0, .inr (0, [.ref q12, .int (nI k), .int (nI (32 * k)), .null, .null, .null, .null, .null, .null, .null, .null, .int 0])), (q12, .inl (cI, k, .inl (fun _ => 0)))] H := hP
  have hD : va_D A [(h0, .inr (0, [.ref q12, .int (nI k), .int (nI (32 * k)), .null, .null, .null, .null, .null, .null, .null, .null, .int 0])), (q12, .inl (cI, k, .inl (fun _ => 0)))] := hD
  refine lv_aload_n hx hb dX1_init_24 rfl (lv_at hl 0 rfl) ?_
  refine lv_iload_n hx hb dX1_init_25 rfl (lv_at hl 1 rfl) ?_
  refine c_newi hx hb (hts (.arrayClass .int) (by decide +kernel)) (cI := cI) 0 rfl hK hP hD hS hA (n := k) rfl (by omega) (by show _ + 1 ≤ 9; omega) (by show _ + k ≤ 72; omega) dX1_init_26 (fun q13 H hP hD hS => ?_)
  have hP : va_P D vwCl [(h0, .inr (0, [.ref q12, .int (nI k), .int (nI (32 * k)), .null, .null, .null, .null, .null, .null, .null, .null, .int 0])), (q12, .inl (cI, k, .inl (fun _ => 0))), (q13, .inl (cI, k, .inl (fun _ => 0)))] H := hP
  have hD : va_D A [(h0, .inr (0, [.ref q12, .int (nI k), .int (nI (32 * k)), .null, .null, .null, .null, .null, .null, .null, .null, .int 0])), (q12, .inl (cI, k, .inl (fun _ => 0))), (q13, .inl (cI, k, .inl (fun _ => 0)))] := hD
  refine va_putF (D := D) (ci := 0) (v := .ref q13) (ty := .array .int) (C := RX1) (T := TX1) (N := 12) hx hb hts (fun _ h9 => iw_X1_init_X1 _ h9) tyX1 tyX1_ok nmX1 hown hK hP hD hS 0 rfl rfl 3 (by decide) (hts (.fieldLink RX1 22 "ModEngine$Ring" "one" "[I") (by decide +kernel)) (fun _ h9 => h9) rfl hin rfl (by decide +kernel) rfl rfl (Nat.le_of_ble_eq_true rfl) dX1_init_28 (fun H locs hP hD hS => ?_)
  have hP : va_P D vwCl [(h0, .inr (0, [.ref q12, .int (nI k), .int (nI (32 * k)), .ref q13, .null, .null, .null, .null, .null, .null, .null, .int 0])), (q12, .inl (cI, k, .inl (fun _ => 0))), (q13, .inl (cI, k, .inl (fun _ => 0)))] H := hP
  have hD : va_D A [(h0, .inr (0, [.ref q12, .int (nI k), .int (nI (32 * k)), .ref q13, .null, .null, .null, .null, .null, .null, .null, .int 0])), (q12, .inl (cI, k, .inl (fun _ => 0))), (q13, .inl (cI, k, .inl (fun _ => 0)))] := hD
  refine lv_aload_n hx hb dX1_init_31 rfl (lv_at hl 0 rfl) ?_
  refine va_get (D := D) (ci := 0) (v := .ref q13) (C := RX1) (T := TX1) (N := 12) hx hb hts (fun _ h9 => iw_X1_init_X1 _ h9) hown hK hP 0 rfl rfl 3 (by decide) (hts (.fieldLink RX1 22 "ModEngine$Ring" "one" "[I") (by decide +kernel)) (fun _ h9 => h9) rfl dX1_init_32 ?_
  refine lv_iconst (v := 0) hx hb dX1_init_35 (by decide) ?_
  refine lv_iconst (v := 1) hx hb dX1_init_36 (by decide) ?_
  refine va_iast (D := D) hx hb hK hP hD hS 2 0 rfl rfl (vp_in_nI (n := 0) (N := k) (by omega) (by omega)) dX1_init_37 (fun H locs hP hD hS => ?_)
  rw [sb_cl0] at hP hD
  have hP : va_P D vwCl [(h0, .inr (0, [.ref q12, .int (nI k), .int (nI (32 * k)), .ref q13, .null, .null, .null, .null, .null, .null, .null, .int 0])), (q12, .inl (cI, k, .inl (fun _ => 0))), (q13, .inl (cI, k, .inl (upd (fun _ => 0) 0 1)))] H := hP
  have hD : va_D A [(h0, .inr (0, [.ref q12, .int (nI k), .int (nI (32 * k)), .ref q13, .null, .null, .null, .null, .null, .null, .null, .int 0])), (q12, .inl (cI, k, .inl (fun _ => 0))), (q13, .inl (cI, k, .inl (upd (fun _ => 0) 0 1)))] := hD
  refine lv_aload_n hx hb dX1_init_38 rfl (lv_at hl 0 rfl) ?_
  refine lv_iload_n hx hb dX1_init_39 rfl (lv_at hl 1 rfl) ?_
  refine c_newi hx hb (hts (.arrayClass .int) (by decide +kernel)) (cI := cI) 0 rfl hK hP hD hS hA (n := k) rfl (by omega) (by show _ + 1 ≤ 9; omega) (by show _ + k ≤ 72; omega) dX1_init_40 (fun q14 H hP hD hS => ?_)
  have hP : va_P D vwCl [(h0, .inr (0, [.ref q12, .int (nI k), .int (nI (32 * k)), .ref q13, .null, .null, .null, .null, .null, .null, .null, .int 0])), (q12, .inl (cI, k, .inl (fun _ => 0))), (q13, .inl (cI, k, .inl (upd (fun _ => 0) 0 1))), (q14, .inl (cI, k, .inl (fun _ => 0)))] H := hP
  have hD : va_D A [(h0, .inr (0, [.ref q12, .int (nI k), .int (nI (32 * k)), .ref q13, .null, .null, .null, .null, .null, .null, .null, .int 0])), (q12, .inl (cI, k, .inl (fun _ => 0))), (q13, .inl (cI, k, .inl (upd (fun _ => 0) 0 1))), (q14, .inl (cI, k, .inl (fun _ => 0)))] := hD
  refine va_putF (D := D) (ci := 0) (v := .ref q14) (ty := .array .int) (C := RX1) (T := TX1) (N := 12) hx hb hts (fun _ h9 => iw_X1_init_X1 _ h9) tyX1 tyX1_ok nmX1 hown hK hP hD hS 0 rfl rfl 4 (by decide) (hts (.fieldLink RX1 25 "ModEngine$Ring" "unit" "[I") (by decide +kernel)) (fun _ h9 => h9) rfl hin rfl (by decide +kernel) rfl rfl (Nat.le_of_ble_eq_true rfl) dX1_init_42 (fun H locs hP hD hS => ?_)
  have hP : va_P D vwCl [(h0, .inr (0, [.ref q12, .int (nI k), .int (nI (32 * k)), .ref q13, .ref q14, .null, .null, .null, .null, .null, .null, .int 0])), (q12, .inl (cI, k, .inl (fun _ => 0))), (q13, .inl (cI, k, .inl (upd (fun _ => 0) 0 1))), (q14, .inl (cI, k, .inl (fun _ => 0)))] H := hP
  have hD : va_D A [(h0, .inr (0, [.ref q12, .int (nI k), .int (nI (32 * k)), .ref q13, .ref q14, .null, .null, .null, .null, .null, .null, .int 0])), (q12, .inl (cI, k, .inl (fun _ => 0))), (q13, .inl (cI, k, .inl (upd (fun _ => 0) 0 1))), (q14, .inl (cI, k, .inl (fun _ => 0)))] := hD
  refine lv_aload_n hx hb dX1_init_45 rfl (lv_at hl 0 rfl) ?_
  refine lv_iload_n hx hb dX1_init_46 rfl (lv_at hl 1 rfl) ?_
  refine c_newi hx hb (hts (.arrayClass .int) (by decide +kernel)) (cI := cI) 0 rfl hK hP hD hS hA (n := k) rfl (by omega) (by show _ + 1 ≤ 9; omega) (by show _ + k ≤ 72; omega) dX1_init_47 (fun q15 H hP hD hS => ?_)
  have hP : va_P D vwCl [(h0, .inr (0, [.ref q12, .int (nI k), .int (nI (32 * k)), .ref q13, .ref q14, .null, .null, .null, .null, .null, .null, .int 0])), (q12, .inl (cI, k, .inl (fun _ => 0))), (q13, .inl (cI, k, .inl (upd (fun _ => 0) 0 1))), (q14, .inl (cI, k, .inl (fun _ => 0))), (q15, .inl (cI, k, .inl (fun _ => 0)))] H := hP
  have hD : va_D A [(h0, .inr (0, [.ref q12, .int (nI k), .int (nI (32 * k)), .ref q13, .ref q14, .null, .null, .null, .null, .null, .null, .int 0])), (q12, .inl (cI, k, .inl (fun _ => 0))), (q13, .inl (cI, k, .inl (upd (fun _ => 0) 0 1))), (q14, .inl (cI, k, .inl (fun _ => 0))), (q15, .inl (cI, k, .inl (fun _ => 0)))] := hD
  refine va_putF (D := D) (ci := 0) (v := .ref q15) (ty := .array .int) (C := RX1) (T := TX1) (N := 12) hx hb hts (fun _ h9 => iw_X1_init_X1 _ h9) tyX1 tyX1_ok nmX1 hown hK hP hD hS 0 rfl rfl 5 (by decide) (hts (.fieldLink RX1 28 "ModEngine$Ring" "rSquared" "[I") (by decide +kernel)) (fun _ h9 => h9) rfl hin rfl (by decide +kernel) rfl rfl (Nat.le_of_ble_eq_true rfl) dX1_init_49 (fun H locs hP hD hS => ?_)
  have hP : va_P D vwCl [(h0, .inr (0, [.ref q12, .int (nI k), .int (nI (32 * k)), .ref q13, .ref q14, .ref q15, .null, .null, .null, .null, .null, .int 0])), (q12, .inl (cI, k, .inl (fun _ => 0))), (q13, .inl (cI, k, .inl (upd (fun _ => 0) 0 1))), (q14, .inl (cI, k, .inl (fun _ => 0))), (q15, .inl (cI, k, .inl (fun _ => 0)))] H := hP
  have hD : va_D A [(h0, .inr (0, [.ref q12, .int (nI k), .int (nI (32 * k)), .ref q13, .ref q14, .ref q15, .null, .null, .null, .null, .null, .int 0])), (q12, .inl (cI, k, .inl (fun _ => 0))), (q13, .inl (cI, k, .inl (upd (fun _ => 0) 0 1))), (q14, .inl (cI, k, .inl (fun _ => 0))), (q15, .inl (cI, k, .inl (fun _ => 0)))] := hD
  refine lv_aload_n hx hb dX1_init_52 rfl (lv_at hl 0 rfl) ?_
  refine lv_iload_n hx hb dX1_init_53 rfl (lv_at hl 1 rfl) ?_
  refine c_newi hx hb (hts (.arrayClass .int) (by decide +kernel)) (cI := cI) 0 rfl hK hP hD hS hA (n := k) rfl (by omega) (by show _ + 1 ≤ 9; omega) (by show _ + k ≤ 72; omega) dX1_init_54 (fun q16 H hP hD hS => ?_)
  have hP : va_P D vwCl [(h0, .inr (0, [.ref q12, .int (nI k), .int (nI (32 * k)), .ref q13, .ref q14, .ref q15, .null, .null, .null, .null, .null, .int 0])), (q12, .inl (cI, k, .inl (fun _ => 0))), (q13, .inl (cI, k, .inl (upd (fun _ => 0) 0 1))), (q14, .inl (cI, k, .inl (fun _ => 0))), (q15, .inl (cI, k, .inl (fun _ => 0))), (q16, .inl (cI, k, .inl (fun _ => 0)))] H := hP
  have hD : va_D A [(h0, .inr (0, [.ref q12, .int (nI k), .int (nI (32 * k)), .ref q13, .ref q14, .ref q15, .null, .null, .null, .null, .null, .int 0])), (q12, .inl (cI, k, .inl (fun _ => 0))), (q13, .inl (cI, k, .inl (upd (fun _ => 0) 0 1))), (q14, .inl (cI, k, .inl (fun _ => 0))), (q15, .inl (cI, k, .inl (fun _ => 0))), (q16, .inl (cI, k, .inl (fun _ => 0)))] := hD
  refine va_putF (D := D) (ci := 0) (v := .ref q16) (ty := .array .int) (C := RX1) (T := TX1) (N := 12) hx hb hts (fun _ h9 => iw_X1_init_X1 _ h9) tyX1 tyX1_ok nmX1 hown hK hP hD hS 0 rfl rfl 6 (by decide) (hts (.fieldLink RX1 31 "ModEngine$Ring" "running" "[I") (by decide +kernel)) (fun _ h9 => h9) rfl hin rfl (by decide +kernel) rfl rfl (Nat.le_of_ble_eq_true rfl) dX1_init_56 (fun H locs hP hD hS => ?_)
  have hP : va_P D vwCl [(h0, .inr (0, [.ref q12, .int (nI k), .int (nI (32 * k)), .ref q13, .ref q14, .ref q15, .ref q16, .null, .null, .null, .null, .int 0])), (q12, .inl (cI, k, .inl (fun _ => 0))), (q13, .inl (cI, k, .inl (upd (fun _ => 0) 0 1))), (q14, .inl (cI, k, .inl (fun _ => 0))), (q15, .inl (cI, k, .inl (fun _ => 0))), (q16, .inl (cI, k, .inl (fun _ => 0)))] H := hP
  have hD : va_D A [(h0, .inr (0, [.ref q12, .int (nI k), .int (nI (32 * k)), .ref q13, .ref q14, .ref q15, .ref q16, .null, .null, .null, .null, .int 0])), (q12, .inl (cI, k, .inl (fun _ => 0))), (q13, .inl (cI, k, .inl (upd (fun _ => 0) 0 1))), (q14, .inl (cI, k, .inl (fun _ => 0))), (q15, .inl (cI, k, .inl (fun _ => 0))), (q16, .inl (cI, k, .inl (fun _ => 0)))] := hD
  refine lv_aload_n hx hb dX1_init_59 rfl (lv_at hl 0 rfl) ?_
  refine lv_iload_n hx hb dX1_init_60 rfl (lv_at hl 1 rfl) ?_
  refine c_newi hx hb (hts (.arrayClass .int) (by decide +kernel)) (cI := cI) 0 rfl hK hP hD hS hA (n := k) rfl (by omega) (by show _ + 1 ≤ 9; omega) (by show _ + k ≤ 72; omega) dX1_init_61 (fun q17 H hP hD hS => ?_)
  have hP : va_P D vwCl [(h0, .inr (0, [.ref q12, .int (nI k), .int (nI (32 * k)), .ref q13, .ref q14, .ref q15, .ref q16, .null, .null, .null, .null, .int 0])), (q12, .inl (cI, k, .inl (fun _ => 0))), (q13, .inl (cI, k, .inl (upd (fun _ => 0) 0 1))), (q14, .inl (cI, k, .inl (fun _ => 0))), (q15, .inl (cI, k, .inl (fun _ => 0))), (q16, .inl (cI, k, .inl (fun _ => 0))), (q17, .inl (cI, k, .inl (fun _ => 0)))] H := hP
  have hD : va_D A [(h0, .inr (0, [.ref q12, .int (nI k), .int (nI (32 * k)), .ref q13, .ref q14, .ref q15, .ref q16, .null, .null, .null, .null, .int 0])), (q12, .inl (cI, k, .inl (fun _ => 0))), (q13, .inl (cI, k, .inl (upd (fun _ => 0) 0 1))), (q14, .inl (cI, k, .inl (fun _ => 0))), (q15, .inl (cI, k, .inl (fun _ => 0))), (q16, .inl (cI, k, .inl (fun _ => 0))), (q17, .inl (cI, k, .inl (fun _ => 0)))] := hD
  refine va_putF (D := D) (ci := 0) (v := .ref q17) (ty := .array .int) (C := RX1) (T := TX1) (N := 12) hx hb hts (fun _ h9 => iw_X1_init_X1 _ h9) tyX1 tyX1_ok nmX1 hown hK hP hD hS 0 rfl rfl 7 (by decide) (hts (.fieldLink RX1 34 "ModEngine$Ring" "left" "[I") (by decide +kernel)) (fun _ h9 => h9) rfl hin rfl (by decide +kernel) rfl rfl (Nat.le_of_ble_eq_true rfl) dX1_init_63 (fun H locs hP hD hS => ?_)
  have hP : va_P D vwCl [(h0, .inr (0, [.ref q12, .int (nI k), .int (nI (32 * k)), .ref q13, .ref q14, .ref q15, .ref q16, .ref q17, .null, .null, .null, .int 0])), (q12, .inl (cI, k, .inl (fun _ => 0))), (q13, .inl (cI, k, .inl (upd (fun _ => 0) 0 1))), (q14, .inl (cI, k, .inl (fun _ => 0))), (q15, .inl (cI, k, .inl (fun _ => 0))), (q16, .inl (cI, k, .inl (fun _ => 0))), (q17, .inl (cI, k, .inl (fun _ => 0)))] H := hP
  have hD : va_D A [(h0, .inr (0, [.ref q12, .int (nI k), .int (nI (32 * k)), .ref q13, .ref q14, .ref q15, .ref q16, .ref q17, .null, .null, .null, .int 0])), (q12, .inl (cI, k, .inl (fun _ => 0))), (q13, .inl (cI, k, .inl (upd (fun _ => 0) 0 1))), (q14, .inl (cI, k, .inl (fun _ => 0))), (q15, .inl (cI, k, .inl (fun _ => 0))), (q16, .inl (cI, k, .inl (fun _ => 0))), (q17, .inl (cI, k, .inl (fun _ => 0)))] := hD
  refine lv_aload_n hx hb dX1_init_66 rfl (lv_at hl 0 rfl) ?_
  refine lv_iload_n hx hb dX1_init_67 rfl (lv_at hl 1 rfl) ?_
  refine c_newi hx hb (hts (.arrayClass .int) (by decide +kernel)) (cI := cI) 0 rfl hK hP hD hS hA (n := k) rfl (by omega) (by show _ + 1 ≤ 9; omega) (by show _ + k ≤ 72; omega) dX1_init_68 (fun q18 H hP hD hS => ?_)
  have hP : va_P D vwCl [(h0, .inr (0, [.ref q12, .int (nI k), .int (nI (32 * k)), .ref q13, .ref q14, .ref q15, .ref q16, .ref q17, .null, .null, .null, .int 0])), (q12, .inl (cI, k, .inl (fun _ => 0))), (q13, .inl (cI, k, .inl (upd (fun _ => 0) 0 1))), (q14, .inl (cI, k, .inl (fun _ => 0))), (q15, .inl (cI, k, .inl (fun _ => 0))), (q16, .inl (cI, k, .inl (fun _ => 0))), (q17, .inl (cI, k, .inl (fun _ => 0))), (q18, .inl (cI, k, .inl (fun _ => 0)))] H := hP
  have hD : va_D A [(h0, .inr (0, [.ref q12, .int (nI k), .int (nI (32 * k)), .ref q13, .ref q14, .ref q15, .ref q16, .ref q17, .null, .null, .null, .int 0])), (q12, .inl (cI, k, .inl (fun _ => 0))), (q13, .inl (cI, k, .inl (upd (fun _ => 0) 0 1))), (q14, .inl (cI, k, .inl (fun _ => 0))), (q15, .inl (cI, k, .inl (fun _ => 0))), (q16, .inl (cI, k, .inl (fun _ => 0))), (q17, .inl (cI, k, .inl (fun _ => 0))), (q18, .inl (cI, k, .inl (fun _ => 0)))] := hD
  refine va_putF (D := D) (ci := 0) (v := .ref q18) (ty := .array .int) (C := RX1) (T := TX1) (N := 12) hx hb hts (fun _ h9 => iw_X1_init_X1 _ h9) tyX1 tyX1_ok nmX1 hown hK hP hD hS 0 rfl rfl 8 (by decide) (hts (.fieldLink RX1 37 "ModEngine$Ring" "right" "[I") (by decide +kernel)) (fun _ h9 => h9) rfl hin rfl (by decide +kernel) rfl rfl (Nat.le_of_ble_eq_true rfl) dX1_init_70 (fun H locs hP hD hS => ?_)
  have hP : va_P D vwCl [(h0, .inr (0, [.ref q12, .int (nI k), .int (nI (32 * k)), .ref q13, .ref q14, .ref q15, .ref q16, .ref q17, .ref q18, .null, .null, .int 0])), (q12, .inl (cI, k, .inl (fun _ => 0))), (q13, .inl (cI, k, .inl (upd (fun _ => 0) 0 1))), (q14, .inl (cI, k, .inl (fun _ => 0))), (q15, .inl (cI, k, .inl (fun _ => 0))), (q16, .inl (cI, k, .inl (fun _ => 0))), (q17, .inl (cI, k, .inl (fun _ => 0))), (q18, .inl (cI, k, .inl (fun _ => 0)))] H := hP
  have hD : va_D A [(h0, .inr (0, [.ref q12, .int (nI k), .int (nI (32 * k)), .ref q13, .ref q14, .ref q15, .ref q16, .ref q17, .ref q18, .null, .null, .int 0])), (q12, .inl (cI, k, .inl (fun _ => 0))), (q13, .inl (cI, k, .inl (upd (fun _ => 0) 0 1))), (q14, .inl (cI, k, .inl (fun _ => 0))), (q15, .inl (cI, k, .inl (fun _ => 0))), (q16, .inl (cI, k, .inl (fun _ => 0))), (q17, .inl (cI, k, .inl (fun _ => 0))), (q18, .inl (cI, k, .inl (fun _ => 0)))] := hD
  refine lv_aload_n hx hb dX1_init_73 rfl (lv_at hl 0 rfl) ?_
  refine lv_iload_n hx hb dX1_init_74 rfl (lv_at hl 1 rfl) ?_
  refine c_newi hx hb (hts (.arrayClass .int) (by decide +kernel)) (cI := cI) 0 rfl hK hP hD hS hA (n := k) rfl (by omega) (by show _ + 1 ≤ 9; omega) (by show _ + k ≤ 72; omega) dX1_init_75 (fun q19 H hP hD hS => ?_)
  have hP : va_P D vwCl [(h0, .inr (0, [.ref q12, .int (nI k), .int (nI (32 * k)), .ref q13, .ref q14, .ref q15, .ref q16, .ref q17, .ref q18, .null, .null, .int 0])), (q12, .inl (cI, k, .inl (fun _ => 0))), (q13, .inl (cI, k, .inl (upd (fun _ => 0) 0 1))), (q14, .inl (cI, k, .inl (fun _ => 0))), (q15, .inl (cI, k, .inl (fun _ => 0))), (q16, .inl (cI, k, .inl (fun _ => 0))), (q17, .inl (cI, k, .inl (fun _ => 0))), (q18, .inl (cI, k, .inl (fun _ => 0))), (q19, .inl (cI, k, .inl (fun _ => 0)))] H := hP
  have hD : va_D A [(h0, .inr (0, [.ref q12, .int (nI k), .int (nI (32 * k)), .ref q13, .ref q14, .ref q15, .ref q16, .ref q17, .ref q18, .null, .null, .int 0])), (q12, .inl (cI, k, .inl (fun _ => 0))), (q13, .inl (cI, k, .inl (upd (fun _ => 0) 0 1))), (q14, .inl (cI, k, .inl (fun _ => 0))), (q15, .inl (cI, k, .inl (fun _ => 0))), (q16, .inl (cI, k, .inl (fun _ => 0))), (q17, .inl (cI, k, .inl (fun _ => 0))), (q18, .inl (cI, k, .inl (fun _ => 0))), (q19, .inl (cI, k, .inl (fun _ => 0)))] := hD
  refine va_putF (D := D) (ci := 0) (v := .ref q19) (ty := .array .int) (C := RX1) (T := TX1) (N := 12) hx hb hts (fun _ h9 => iw_X1_init_X1 _ h9) tyX1 tyX1_ok nmX1 hown hK hP hD hS 0 rfl rfl 9 (by decide) (hts (.fieldLink RX1 40 "ModEngine$Ring" "leftShare" "[I") (by decide +kernel)) (fun _ h9 => h9) rfl hin rfl (by decide +kernel) rfl rfl (Nat.le_of_ble_eq_true rfl) dX1_init_77 (fun H locs hP hD hS => ?_)
  have hP : va_P D vwCl [(h0, .inr (0, [.ref q12, .int (nI k), .int (nI (32 * k)), .ref q13, .ref q14, .ref q15, .ref q16, .ref q17, .ref q18, .ref q19, .null, .int 0])), (q12, .inl (cI, k, .inl (fun _ => 0))), (q13, .inl (cI, k, .inl (upd (fun _ => 0) 0 1))), (q14, .inl (cI, k, .inl (fun _ => 0))), (q15, .inl (cI, k, .inl (fun _ => 0))), (q16, .inl (cI, k, .inl (fun _ => 0))), (q17, .inl (cI, k, .inl (fun _ => 0))), (q18, .inl (cI, k, .inl (fun _ => 0))), (q19, .inl (cI, k, .inl (fun _ => 0)))] H := hP
  have hD : va_D A [(h0, .inr (0, [.ref q12, .int (nI k), .int (nI (32 * k)), .ref q13, .ref q14, .ref q15, .ref q16, .ref q17, .ref q18, .ref q19, .null, .int 0])), (q12, .inl (cI, k, .inl (fun _ => 0))), (q13, .inl (cI, k, .inl (upd (fun _ => 0) 0 1))), (q14, .inl (cI, k, .inl (fun _ => 0))), (q15, .inl (cI, k, .inl (fun _ => 0))), (q16, .inl (cI, k, .inl (fun _ => 0))), (q17, .inl (cI, k, .inl (fun _ => 0))), (q18, .inl (cI, k, .inl (fun _ => 0))), (q19, .inl (cI, k, .inl (fun _ => 0)))] := hD
  refine lv_aload_n hx hb dX1_init_80 rfl (lv_at hl 0 rfl) ?_
  refine lv_iload_n hx hb dX1_init_81 rfl (lv_at hl 1 rfl) ?_
  refine c_newi hx hb (hts (.arrayClass .int) (by decide +kernel)) (cI := cI) 0 rfl hK hP hD hS hA (n := k) rfl (by omega) (by show _ + 1 ≤ 9; omega) (by show _ + k ≤ 72; omega) dX1_init_82 (fun q20 H hP hD hS => ?_)
  have hP : va_P D vwCl [(h0, .inr (0, [.ref q12, .int (nI k), .int (nI (32 * k)), .ref q13, .ref q14, .ref q15, .ref q16, .ref q17, .ref q18, .ref q19, .null, .int 0])), (q12, .inl (cI, k, .inl (fun _ => 0))), (q13, .inl (cI, k, .inl (upd (fun _ => 0) 0 1))), (q14, .inl (cI, k, .inl (fun _ => 0))), (q15, .inl (cI, k, .inl (fun _ => 0))), (q16, .inl (cI, k, .inl (fun _ => 0))), (q17, .inl (cI, k, .inl (fun _ => 0))), (q18, .inl (cI, k, .inl (fun _ => 0))), (q19, .inl (cI, k, .inl (fun _ => 0))), (q20, .inl (cI, k, .inl (fun _ => 0)))] H := hP
  have hD : va_D A [(h0, .inr (0, [.ref q12, .int (nI k), .int (nI (32 * k)), .ref q13, .ref q14, .ref q15, .ref q16, .ref q17, .ref q18, .ref q19, .null, .int 0])), (q12, .inl (cI, k, .inl (fun _ => 0))), (q13, .inl (cI, k, .inl (upd (fun _ => 0) 0 1))), (q14, .inl (cI, k, .inl (fun _ => 0))), (q15, .inl (cI, k, .inl (fun _ => 0))), (q16, .inl (cI, k, .inl (fun _ => 0))), (q17, .inl (cI, k, .inl (fun _ => 0))), (q18, .inl (cI, k, .inl (fun _ => 0))), (q19, .inl (cI, k, .inl (fun _ => 0))), (q20, .inl (cI, k, .inl (fun _ => 0)))] := hD
  refine va_putF (D := D) (ci := 0) (v := .ref q20) (ty := .array .int) (C := RX1) (T := TX1) (N := 12) hx hb hts (fun _ h9 => iw_X1_init_X1 _ h9) tyX1 tyX1_ok nmX1 hown hK hP hD hS 0 rfl rfl 10 (by decide) (hts (.fieldLink RX1 43 "ModEngine$Ring" "rightShare" "[I") (by decide +kernel)) (fun _ h9 => h9) rfl hin rfl (by decide +kernel) rfl rfl (Nat.le_of_ble_eq_true rfl) dX1_init_84 (fun H locs hP hD hS => ?_)
  have hP : va_P D vwCl [(h0, .inr (0, [.ref q12, .int (nI k), .int (nI (32 * k)), .ref q13, .ref q14, .ref q15, .ref q16, .ref q17, .ref q18, .ref q19, .ref q20, .int 0])), (q12, .inl (cI, k, .inl (fun _ => 0))), (q13, .inl (cI, k, .inl (upd (fun _ => 0) 0 1))), (q14, .inl (cI, k, .inl (fun _ => 0))), (q15, .inl (cI, k, .inl (fun _ => 0))), (q16, .inl (cI, k, .inl (fun _ => 0))), (q17, .inl (cI, k, .inl (fun _ => 0))), (q18, .inl (cI, k, .inl (fun _ => 0))), (q19, .inl (cI, k, .inl (fun _ => 0))), (q20, .inl (cI, k, .inl (fun _ => 0)))] H := hP
  have hD : va_D A [(h0, .inr (0, [.ref q12, .int (nI k), .int (nI (32 * k)), .ref q13, .ref q14, .ref q15, .ref q16, .ref q17, .ref q18, .ref q19, .ref q20, .int 0])), (q12, .inl (cI, k, .inl (fun _ => 0))), (q13, .inl (cI, k, .inl (upd (fun _ => 0) 0 1))), (q14, .inl (cI, k, .inl (fun _ => 0))), (q15, .inl (cI, k, .inl (fun _ => 0))), (q16, .inl (cI, k, .inl (fun _ => 0))), (q17, .inl (cI, k, .inl (fun _ => 0))), (q18, .inl (cI, k, .inl (fun _ => 0))), (q19, .inl (cI, k, .inl (fun _ => 0))), (q20, .inl (cI, k, .inl (fun _ => 0)))] := hD
  refine lv_aload_n hx hb dX1_init_87 rfl (lv_at hl 0 rfl) ?_
  refine lv_iconst (v := 0) hx hb dX1_init_88 (by decide) ?_
  refine va_put (D := D) (ci := 0) (v := .int 0) (ty := .int) (C := RX1) (T := TX1) (N := 12) hx hb hts (fun _ h9 => iw_X1_init_X1 _ h9) tyX1 tyX1_ok nmX1 hown hK hP hD hS 0 rfl rfl 11 (by decide) (hts (.fieldLink RX1 46 "ModEngine$Ring" "minusInverse" "I") (by decide +kernel)) (fun _ h9 => h9) rfl (by decide +kernel) rfl rfl (Nat.le_of_ble_eq_true rfl) dX1_init_89 (fun H locs hP hD hS => ?_)
  have hP : va_P D vwCl [(h0, .inr (0, [.ref q12, .int (nI k), .int (nI (32 * k)), .ref q13, .ref q14, .ref q15, .ref q16, .ref q17, .ref q18, .ref q19, .ref q20, .int 0])), (q12, .inl (cI, k, .inl (fun _ => 0))), (q13, .inl (cI, k, .inl (upd (fun _ => 0) 0 1))), (q14, .inl (cI, k, .inl (fun _ => 0))), (q15, .inl (cI, k, .inl (fun _ => 0))), (q16, .inl (cI, k, .inl (fun _ => 0))), (q17, .inl (cI, k, .inl (fun _ => 0))), (q18, .inl (cI, k, .inl (fun _ => 0))), (q19, .inl (cI, k, .inl (fun _ => 0))), (q20, .inl (cI, k, .inl (fun _ => 0)))] H := hP
  have hD : va_D A [(h0, .inr (0, [.ref q12, .int (nI k), .int (nI (32 * k)), .ref q13, .ref q14, .ref q15, .ref q16, .ref q17, .ref q18, .ref q19, .ref q20, .int 0])), (q12, .inl (cI, k, .inl (fun _ => 0))), (q13, .inl (cI, k, .inl (upd (fun _ => 0) 0 1))), (q14, .inl (cI, k, .inl (fun _ => 0))), (q15, .inl (cI, k, .inl (fun _ => 0))), (q16, .inl (cI, k, .inl (fun _ => 0))), (q17, .inl (cI, k, .inl (fun _ => 0))), (q18, .inl (cI, k, .inl (fun _ => 0))), (q19, .inl (cI, k, .inl (fun _ => 0))), (q20, .inl (cI, k, .inl (fun _ => 0)))] := hD
  have hP9 : va_P D vwCl (ringW cI h0 k (fun i => [q12, q13, q14, q15, q16, q17, q18, q19, q20].getD (i - 12) 0)) H := hP
  have hD9 : va_D A (ringW cI h0 k (fun i => [q12, q13, q14, q15, q16, q17, q18, q19, q20].getD (i - 12) 0)) := hD
  refine W.widen (k := 9) (n := 72) (by omega) (by omega) ?_
  exact W.vret hx hb hr (fun t ht hW => ⟨⟨(fun i => [q12, q13, q14, q15, q16, q17, q18, q19, q20].getD (i - 12) 0), rfl, trivial, by rw [ht]; exact hP9, va_K.moved hW.alike hK, hD9⟩, hS.F ht⟩) hS.2.2 dX1_init_92 hlocks
/-- a new reference with its rows, at Q 4 .. Q 11 -/
def modW (cJ : ClassId) (h0 k n : Nat) (Q : Nat → Nat) : va_W := [(h0, .inr (2, [.int (nI k), .int (nI n), .ref (Q 4), .int 0, .ref (Q 5), .ref (Q 6), .ref (Q 7), .ref (Q 8), .ref (Q 9), .ref (Q 10), .ref (Q 11)])), (Q 4, .inl (cJ, 81, .inr (.inl (fun _ => 0)))), (Q 5, .inl (cJ, 9, .inr (.inl (fun _ => 0)))), (Q 6, .inl (cJ, 9, .inr (.inl (fun _ => 0)))), (Q 7, .inl (cJ, 9, .inr (.inl (fun _ => 0)))), (Q 8, .inl (cJ, 9, .inr (.inl (fun _ => 0)))), (Q 9, .inl (cJ, 9, .inr (.inl (fun _ => 0)))), (Q 10, .inl (cJ, 9, .inr (.inl (fun _ => 0)))), (Q 11, .inl (cJ, 9, .inr (.inl (fun _ => 0))))]
set_option maxHeartbeats 4000000 in
set_option maxRecDepth 100000 in
/-- ModEngineModel(k, n) -/
theorem c_model (l : Launch) (D : va_G) (cJ : ClassId) (h0 sz : Nat) (a b : Int32) : Met l yX3_init wsX3_init ({ frames := 1, cells := 8, slots := 144, locals := 20 }) (va_Pc [.ref h0, .int a, .int b] (fun U => U.heap.size = sz ∧ va_P D vwCl [(h0, .inr (2, [.int 0, .int 0, .null, .int 0, .null, .null, .null, .null, .null, .null, .null]))] U.heap ∧ va_K D vwCl [(cJ, .long)] U ∧ va_D (fun _ => True) [(h0, .inr (2, [.int 0, .int 0, .null, .int 0, .null, .null, .null, .null, .null, .null, .null]))])) (va_Qv (fun _ : Nat → Nat => True) (fun Q t => va_P D vwCl (modW cJ h0 (cl8 a) (cl8 b) Q) t.heap ∧ va_K D vwCl [(cJ, .long)] t ∧ va_D (va_A [(h0, .inr (2, [.int 0, .int 0, .null, .int 0, .null, .null, .null, .null, .null, .null, .null]))] sz) (modW cJ h0 (cl8 a) (cl8 b) Q)) (va_A [(h0, .inr (2, [.int 0, .int 0, .null, .int 0, .null, .null, .null, .null, .null, .null, .null]))] sz)) 8 144 (va_A [(h0, .inr (2, [.int 0, .int 0, .null, .int 0, .null, .null, .null, .null, .null, .null, .null]))] sz) := by
  refine Met.ofW (cc := cX3_init) (maxL := 3) (ret := none) (by decide) rfl ?_
  intro p e s m args below meth c s₁ B hml hv
  obtain ⟨rfl, hsz, hP, hK, hD0⟩ := hv
  have hx := B.exec
  have hb := B.bytes
  have hr := B.returns
  have hts := atoms_spec (ws := wsX3_init) B.pre
  have hown : s.vm.findClass RX3 = some m.cls := findClass_of_methodNamed B.named
  have hlocks := B.notSynchronized
  have hin : meth.name = "<init>" := (name_of_methodNamed B.named B.method).1
  subst hsz
  have hD := hD0.self (sz := s.heap.size)
  generalize hAe : va_A [(h0, .inr (2, [.int 0, .int 0, .null, .int 0, .null, .null, .null, .null, .null, .null, .null]))] s.heap.size = A at hD ⊢
  have hA : ∀ q : Nat, s.heap.size ≤ q → A q := fun q h => by rw [← hAe]; exact Or.inr h
  have hS : va_S A s.heap s.heap [] := va_S.rf
  have hl := lv_entry ([.ref h0, .int a, .int b]) (n := 3) (Nat.le_of_ble_eq_true rfl)
  rw [lg_entry_eq]
  generalize (lg_sl ([.ref h0, .int a, .int b]) ++ List.replicate (3 - (lg_sl ([.ref h0, .int a, .int b])).length) Slot.unset).toArray = ls at hl ⊢
  have hl : lv_has ls 3 [(0, .ref h0), (1, .int a), (2, .int b)] := hl
  have hP : va_P D vwCl [(h0, .inr (2, [.int 0, .int 0, .null, .int 0, .null, .null, .null, .null, .null, .null, .null]))] s.heap := hP
  refine lv_aload_n hx hb dX3_init_0 rfl (lv_at hl 0 rfl) ?_
  refine W.objInit hx hb hown (hts (.methodLink RX3 1 objectInit) (by decide +kernel)) (hts (.instanceMethod objectInit) (by decide +kernel)) (hts _ (List.mem_cons_of_mem _ (List.mem_append_left _ (List.mem_of_getElem? (i := 2) rfl)))) rfl (by rw [hml]; exact hl.1) rfl dX3_init_1 (Nat.le_of_ble_eq_true rfl) (Nat.le_of_ble_eq_true rfl) ?_
  refine W.eq (g2 := F0 m 4 ls []) rfl ?_
  refine lv_aload_n hx hb dX3_init_4 rfl (lv_at hl 0 rfl) ?_
  refine lv_bipush (v := 81) hx hb dX3_init_5 (by decide) ?_
  refine c_newl hx hb (hts (.arrayClass .long) (by decide +kernel)) (cI := cJ) 0 rfl hK hP hD hS hA (n := 81) rfl (by omega) (by show _ + 1 ≤ 8; omega) (by show _ + 81 ≤ 144; omega) dX3_init_7 (fun q4 H hP hD hS => ?_)
  have hP : va_P D vwCl [(h0, .inr (2, [.int 0, .int 0, .null, .int 0, .null, .null, .null, .null, .null, .null, .null])), (q4, .inl (cJ, 81, .inr (.inl (fun _ => 0))))] H := hP
  have hD : va_D A [(h0, .inr (2, [.int 0, .int 0, .null, .int 0, .null, .null, .null, .null, .null, .null, .null])), (q4, .inl (cJ, 81, .inr (.inl (fun _ => 0))))] := hD
  refine va_putF (D := D) (ci := 2) (v := .ref q4) (ty := .array .long) (C := RX3) (T := TX3) (N := 11) hx hb hts (fun _ h9 => iw_X3_init_X3 _ h9) tyX3 tyX3_ok nmX3 hown hK hP hD hS 0 rfl rfl 2 (by decide) (hts (.fieldLink RX3 7 "ModEngineModel" "held" "[J") (by decide +kernel)) (fun _ h9 => h9) rfl hin rfl (by decide +kernel) rfl rfl (Nat.le_of_ble_eq_true rfl) dX3_init_9 (fun H locs hP hD hS => ?_)
  have hP : va_P D vwCl [(h0, .inr (2, [.int 0, .int 0, .ref q4, .int 0, .null, .null, .null, .null, .null, .null, .null])), (q4, .inl (cJ, 81, .inr (.inl (fun _ => 0))))] H := hP
  have hD : va_D A [(h0, .inr (2, [.int 0, .int 0, .ref q4, .int 0, .null, .null, .null, .null, .null, .null, .null])), (q4, .inl (cJ, 81, .inr (.inl (fun _ => 0))))] := hD
  refine lv_aload_n hx hb dX3_init_12 rfl (lv_at hl 0 rfl) ?_
  refine lv_bipush (v := 9) hx hb dX3_init_13 (by decide) ?_
  refine c_newl hx hb (hts (.arrayClass .long) (by decide +kernel)) (cI := cJ) 0 rfl hK hP hD hS hA (n := 9) rfl (by omega) (by show _ + 1 ≤ 8; omega) (by show _ + 9 ≤ 144; omega) dX3_init_15 (fun q5 H hP hD hS => ?_)
  have hP : va_P D vwCl [(h0, .inr (2, [.int 0, .int 0, .ref q4, .int 0, .null, .null, .null, .null, .null, .null, .null])), (q4, .inl (cJ, 81, .inr (.inl (fun _ => 0)))), (q5, .inl (cJ, 9, .inr (.inl (fun _ => 0))))] H := hP
  have hD : va_D A [(h0, .inr (2, [.int 0, .int 0, .ref q4, .int 0, .null, .null, .null, .null, .null, .null, .null])), (q4, .inl (cJ, 81, .inr (.inl (fun _ => 0)))), (q5, .inl (cJ, 9, .inr (.inl (fun _ => 0))))] := hD
  refine va_putF (D := D) (ci := 2) (v := .ref q5) (ty := .array .long) (C := RX3) (T := TX3) (N := 11) hx hb hts (fun _ h9 => iw_X3_init_X3 _ h9) tyX3 tyX3_ok nmX3 hown hK hP hD hS 0 rfl rfl 4 (by decide) (hts (.fieldLink RX3 13 "ModEngineModel" "modulus" "[J") (by decide +kernel)) (fun _ h9 => h9) rfl hin rfl (by decide +kernel) rfl rfl (Nat.le_of_ble_eq_true rfl) dX3_init_17 (fun H locs hP hD hS => ?_)
  have hP : va_P D vwCl [(h0, .inr (2, [.int 0, .int 0, .ref q4, .int 0, .ref q5, .null, .null, .null, .null, .null, .null])), (q4, .inl (cJ, 81, .inr (.inl (fun _ => 0)))), (q5, .inl (cJ, 9, .inr (.inl (fun _ => 0))))] H := hP
  have hD : va_D A [(h0, .inr (2, [.int 0, .int 0, .ref q4, .int 0, .ref q5, .null, .null, .null, .null, .null, .null])), (q4, .inl (cJ, 81, .inr (.inl (fun _ => 0)))), (q5, .inl (cJ, 9, .inr (.inl (fun _ => 0))))] := hD
  refine lv_aload_n hx hb dX3_init_20 rfl (lv_at hl 0 rfl) ?_
  refine lv_bipush (v := 9) hx hb dX3_init_21 (by decide) ?_
  refine c_newl hx hb (hts (.arrayClass .long) (by decide +kernel)) (cI := cJ) 0 rfl hK hP hD hS hA (n := 9) rfl (by omega) (by show _ + 1 ≤ 8; omega) (by show _ + 9 ≤ 144; omega) dX3_init_23 (fun q6 H hP hD hS => ?_)
  have hP : va_P D vwCl [(h0, .inr (2, [.int 0, .int 0, .ref q4, .int 0, .ref q5, .null, .null, .null, .null, .null, .null])), (q4, .inl (cJ, 81, .inr (.inl (fun _ => 0)))), (q5, .inl (cJ, 9, .inr (.inl (fun _ => 0)))), (q6, .inl (cJ, 9, .inr (.inl (fun _ => 0))))] H := hP
  have hD : va_D A [(h0, .inr (2, [.int 0, .int 0, .ref q4, .int 0, .ref q5, .null, .null, .null, .null, .null, .null])), (q4, .inl (cJ, 81, .inr (.inl (fun _ => 0)))), (q5, .inl (cJ, 9, .inr (.inl (fun _ => 0)))), (q6, .inl (cJ, 9, .inr (.inl (fun _ => 0))))] := hD
  refine va_putF (D := D) (ci := 2) (v := .ref q6) (ty := .array .long) (C := RX3) (T := TX3) (N := 11) hx hb hts (fun _ h9 => iw_X3_init_X3 _ h9) tyX3 tyX3_ok nmX3 hown hK hP hD hS 0 rfl rfl 5 (by decide) (hts (.fieldLink RX3 16 "ModEngineModel" "first" "[J") (by decide +kernel)) (fun _ h9 => h9) rfl hin rfl (by decide +kernel) rfl rfl (Nat.le_of_ble_eq_true rfl) dX3_init_25 (fun H locs hP hD hS => ?_)
  have hP : va_P D vwCl [(h0, .inr (2, [.int 0, .int 0, .ref q4, .int 0, .ref q5, .ref q6, .null, .null, .null, .null, .null])), (q4, .inl (cJ, 81, .inr (.inl (fun _ => 0)))), (q5, .inl (cJ, 9, .inr (.inl (fun _ => 0)))), (q6, .inl (cJ, 9, .inr (.inl (fun _ => 0))))] H := hP
  have hD : va_D A [(h0, .inr (2, [.int 0, .int 0, .ref q4, .int 0, .ref q5, .ref q6, .null, .null, .null, .null, .null])), (q4, .inl (cJ, 81, .inr (.inl (fun _ => 0)))), (q5, .inl (cJ, 9, .inr (.inl (fun _ => 0)))), (q6, .inl (cJ, 9, .inr (.inl (fun _ => 0))))] := hD
  refine lv_aload_n hx hb dX3_init_28 rfl (lv_at hl 0 rfl) ?_
  refine lv_bipush (v := 9) hx hb dX3_init_29 (by decide) ?_
  refine c_newl hx hb (hts (.arrayClass .long) (by decide +kernel)) (cI := cJ) 0 rfl hK hP hD hS hA (n := 9) rfl (by omega) (by show _ + 1 ≤ 8; omega) (by show _ + 9 ≤ 144; omega) dX3_init_31 (fun q7 H hP hD hS => ?_)
  have hP : va_P D vwCl [(h0, .inr (2, [.int 0, .int 0, .ref q4, .int 0, .ref q5, .ref q6, .null, .null, .null, .null, .null])), (q4, .inl (cJ, 81, .inr (.inl (fun _ => 0)))), (q5, .inl (cJ, 9, .inr (.inl (fun _ => 0)))), (q6, .inl (cJ, 9, .inr (.inl (fun _ => 0)))), (q7, .inl (cJ, 9, .inr (.inl (fun _ => 0))))] H := hP
  have hD : va_D A [(h0, .inr (2, [.int 0, .int 0, .ref q4, .int 0, .ref q5, .ref q6, .null, .null, .null, .null, .null])), (q4, .inl (cJ, 81, .inr (.inl (fun _ => 0)))), (q5, .inl (cJ, 9, .inr (.inl (fun _ => 0)))), (q6, .inl (cJ, 9, .inr (.inl (fun _ => 0)))), (q7, .inl (cJ, 9, .inr (.inl (fun _ => 0))))] := hD
  refine va_putF (D := D) (ci := 2) (v := .ref q7) (ty := .array .long) (C := RX3) (T := TX3) (N := 11) hx hb hts (fun _ h9 => iw_X3_init_X3 _ h9) tyX3 tyX3_ok nmX3 hown hK hP hD hS 0 rfl rfl 6 (by decide) (hts (.fieldLink RX3 19 "ModEngineModel" "second" "[J") (by decide +kernel)) (fun _ h9 => h9) rfl hin rfl (by decide +kernel) rfl rfl (Nat.le_of_ble_eq_true rfl) dX3_init_33 (fun H locs hP hD hS => ?_)
  have hP : va_P D vwCl [(h0, .inr (2, [.int 0, .int 0, .ref q4, .int 0, .ref q5, .ref q6, .ref q7, .null, .null, .null, .null])), (q4, .inl (cJ, 81, .inr (.inl (fun _ => 0)))), (q5, .inl (cJ, 9, .inr (.inl (fun _ => 0)))), (q6, .inl (cJ, 9, .inr (.inl (fun _ => 0)))), (q7, .inl (cJ, 9, .inr (.inl (fun _ => 0))))] H := hP
  have hD : va_D A [(h0, .inr (2, [.int 0, .int 0, .ref q4, .int 0, .ref q5, .ref q6, .ref q7, .null, .null, .null, .null])), (q4, .inl (cJ, 81, .inr (.inl (fun _ => 0)))), (q5, .inl (cJ, 9, .inr (.inl (fun _ => 0)))), (q6, .inl (cJ, 9, .inr (.inl (fun _ => 0)))), (q7, .inl (cJ, 9, .inr (.inl (fun _ => 0))))] := hD
  refine lv_aload_n hx hb dX3_init_36 rfl (lv_at hl 0 rfl) ?_
  refine lv_bipush (v := 9) hx hb dX3_init_37 (by decide) ?_
  refine c_newl hx hb (hts (.arrayClass .long) (by decide +kernel)) (cI := cJ) 0 rfl hK hP hD hS hA (n := 9) rfl (by omega) (by show _ + 1 ≤ 8; omega) (by show _ + 9 ≤ 144; omega) dX3_init_39 (fun q8 H hP hD hS => ?_)
  have hP : va_P D vwCl [(h0, .inr (2, [.int 0, .int 0, .ref q4, .int 0, .ref q5, .ref q6, .ref q7, .null, .null, .null, .null])), (q4, .inl (cJ, 81, .inr (.inl (fun _ => 0)))), (q5, .inl (cJ, 9, .inr (.inl (fun _ => 0)))), (q6, .inl (cJ, 9, .inr (.inl (fun _ => 0)))), (q7, .inl (cJ, 9, .inr (.inl (fun _ => 0)))), (q8, .inl (cJ, 9, .inr (.inl (fun _ => 0))))] H := hP
  have hD : va_D A [(h0, .inr (2, [.int 0, .int 0, .ref q4, .int 0, .ref q5, .ref q6, .ref q7, .null, .null, .null, .null])), (q4, .inl (cJ, 81, .inr (.inl (fun _ => 0)))), (q5, .inl (cJ, 9, .inr (.inl (fun _ => 0)))), (q6, .inl (cJ, 9, .inr (.inl (fun _ => 0)))), (q7, .inl (cJ, 9, .inr (.inl (fun _ => 0)))), (q8, .inl (cJ, 9, .inr (.inl (fun _ => 0))))] := hD
  refine va_putF (D := D) (ci := 2) (v := .ref q8) (ty := .array .long) (C := RX3) (T := TX3) (N := 11) hx hb hts (fun _ h9 => iw_X3_init_X3 _ h9) tyX3 tyX3_ok nmX3 hown hK hP hD hS 0 rfl rfl 7 (by decide) (hts (.fieldLink RX3 22 "ModEngineModel" "result" "[J") (by decide +kernel)) (fun _ h9 => h9) rfl hin rfl (by decide +kernel) rfl rfl (Nat.le_of_ble_eq_true rfl) dX3_init_41 (fun H locs hP hD hS => ?_)
  have hP : va_P D vwCl [(h0, .inr (2, [.int 0, .int 0, .ref q4, .int 0, .ref q5, .ref q6, .ref q7, .ref q8, .null, .null, .null])), (q4, .inl (cJ, 81, .inr (.inl (fun _ => 0)))), (q5, .inl (cJ, 9, .inr (.inl (fun _ => 0)))), (q6, .inl (cJ, 9, .inr (.inl (fun _ => 0)))), (q7, .inl (cJ, 9, .inr (.inl (fun _ => 0)))), (q8, .inl (cJ, 9, .inr (.inl (fun _ => 0))))] H := hP
  have hD : va_D A [(h0, .inr (2, [.int 0, .int 0, .ref q4, .int 0, .ref q5, .ref q6, .ref q7, .ref q8, .null, .null, .null])), (q4, .inl (cJ, 81, .inr (.inl (fun _ => 0)))), (q5, .inl (cJ, 9, .inr (.inl (fun _ => 0)))), (q6, .inl (cJ, 9, .inr (.inl (fun _ => 0)))), (q7, .inl (cJ, 9, .inr (.inl (fun _ => 0)))), (q8, .inl (cJ, 9, .inr (.inl (fun _ => 0))))] := hD
  refine lv_aload_n hx hb dX3_init_44 rfl (lv_at hl 0 rfl) ?_
  refine lv_bipush (v := 9) hx hb dX3_init_45 (by decide) ?_
  refine c_newl hx hb (hts (.arrayClass .long) (by decide +kernel)) (cI := cJ) 0 rfl hK hP hD hS hA (n := 9) rfl (by omega) (by show _ + 1 ≤ 8; omega) (by show _ + 9 ≤ 144; omega) dX3_init_47 (fun q9 H hP hD hS => ?_)
  have hP : va_P D vwCl [(h0, .inr (2, [.int 0, .int 0, .ref q4, .int 0, .ref q5, .ref q6, .ref q7, .ref q8, .null, .null, .null])), (q4, .inl (cJ, 81, .inr (.inl (fun _ => 0)))), (q5, .inl (cJ, 9, .inr (.inl (fun _ => 0)))), (q6, .inl (cJ, 9, .inr (.inl (fun _ => 0)))), (q7, .inl (cJ, 9, .inr (.inl (fun _ => 0)))), (q8, .inl (cJ, 9, .inr (.inl (fun _ => 0)))), (q9, .inl (cJ, 9, .inr (.inl (fun _ => 0))))] H := hP
  have hD : va_D A [(h0, .inr (2, [.int 0, .int 0, .ref q4, .int 0, .ref q5, .ref q6, .ref q7, .ref q8, .null, .null, .null])), (q4, .inl (cJ, 81, .inr (.inl (fun _ => 0)))), (q5, .inl (cJ, 9, .inr (.inl (fun _ => 0)))), (q6, .inl (cJ, 9, .inr (.inl (fun _ => 0)))), (q7, .inl (cJ, 9, .inr (.inl (fun _ => 0)))), (q8, .inl (cJ, 9, .inr (.inl (fun _ => 0)))), (q9, .inl (cJ, 9, .inr (.inl (fun _ => 0))))] := hD
  refine va_putF (D := D) (ci := 2) (v := .ref q9) (ty := .array .long) (C := RX3) (T := TX3) (N := 11) hx hb hts (fun _ h9 => iw_X3_init_X3 _ h9) tyX3 tyX3_ok nmX3 hown hK hP hD hS 0 rfl rfl 8 (by decide) (hts (.fieldLink RX3 25 "ModEngineModel" "factor" "[J") (by decide +kernel)) (fun _ h9 => h9) rfl hin rfl (by decide +kernel) rfl rfl (Nat.le_of_ble_eq_true rfl) dX3_init_49 (fun H locs hP hD hS => ?_)
  have hP : va_P D vwCl [(h0, .inr (2, [.int 0, .int 0, .ref q4, .int 0, .ref q5, .ref q6, .ref q7, .ref q8, .ref q9, .null, .null])), (q4, .inl (cJ, 81, .inr (.inl (fun _ => 0)))), (q5, .inl (cJ, 9, .inr (.inl (fun _ => 0)))), (q6, .inl (cJ, 9, .inr (.inl (fun _ => 0)))), (q7, .inl (cJ, 9, .inr (.inl (fun _ => 0)))), (q8, .inl (cJ, 9, .inr (.inl (fun _ => 0)))), (q9, .inl (cJ, 9, .inr (.inl (fun _ => 0))))] H := hP
  have hD : va_D A [(h0, .inr (2, [.int 0, .int 0, .ref q4, .int 0, .ref q5, .ref q6, .ref q7, .ref q8, .ref q9, .null, .null])), (q4, .inl (cJ, 81, .inr (.inl (fun _ => 0)))), (q5, .inl (cJ, 9, .inr (.inl (fun _ => 0)))), (q6, .inl (cJ, 9, .inr (.inl (fun _ => 0)))), (q7, .inl (cJ, 9, .inr (.inl (fun _ => 0)))), (q8, .inl (cJ, 9, .inr (.inl (fun _ => 0)))), (q9, .inl (cJ, 9, .inr (.inl (fun _ => 0))))] := hD
  refine lv_aload_n hx hb dX3_init_52 rfl (lv_at hl 0 rfl) ?_
  refine lv_bipush (v := 9) hx hb dX3_init_53 (by decide) ?_
  refine c_newl hx hb (hts (.arrayClass .long) (by decide +kernel)) (cI := cJ) 0 rfl hK hP hD hS hA (n := 9) rfl (by omega) (by show _ + 1 ≤ 8; omega) (by show _ + 9 ≤ 144; omega) dX3_init_55 (fun q10 H hP hD hS => ?_)
  have hP : va_P D vwCl [(h0, .inr (2, [.int 0, .int 0, .ref q4, .int 0, .ref q5, .ref q6, .ref q7, .ref q8, .ref q9, .null, .null])), (q4, .inl (cJ, 81, .inr (.inl (fun _ => 0)))), (q5, .inl (cJ, 9, .inr (.inl (fun _ => 0)))), (q6, .inl (cJ, 9, .inr (.inl (fun _ => 0)))), (q7, .inl (cJ, 9, .inr (.inl (fun _ => 0)))), (q8, .inl (cJ, 9, .inr (.inl (fun _ => 0)))), (q9, .inl (cJ, 9, .inr (.inl (fun _ => 0)))), (q10, .inl (cJ, 9, .inr (.inl (fun _ => 0))))] H := hP
  have hD : va_D A [(h0, .inr (2, [.int 0, .int 0, .ref q4, .int 0, .ref q5, .ref q6, .ref q7, .ref q8, .ref q9, .null, .null])), (q4, .inl (cJ, 81, .inr (.inl (fun _ => 0)))), (q5, .inl (cJ, 9, .inr (.inl (fun _ => 0)))), (q6, .inl (cJ, 9, .inr (.inl (fun _ => 0)))), (q7, .inl (cJ, 9, .inr (.inl (fun _ => 0)))), (q8, .inl (cJ, 9, .inr (.inl (fun _ => 0)))), (q9, .inl (cJ, 9, .inr (.inl (fun _ => 0)))), (q10, .inl (cJ, 9, .inr (.inl (fun _ => 0))))] := hD
  refine va_putF (D := D) (ci := 2) (v := .ref q10) (ty := .array .long) (C := RX3) (T := TX3) (N := 11) hx hb hts (fun _ h9 => iw_X3_init_X3 _ h9) tyX3 tyX3_ok nmX3 hown hK hP hD hS 0 rfl rfl 9 (by decide) (hts (.fieldLink RX3 28 "ModEngineModel" "base" "[J") (by decide +kernel)) (fun _ h9 => h9) rfl hin rfl (by decide +kernel) rfl rfl (Nat.le_of_ble_eq_true rfl) dX3_init_57 (fun H locs hP hD hS => ?_)
  have hP : va_P D vwCl [(h0, .inr (2, [.int 0, .int 0, .ref q4, .int 0, .ref q5, .ref q6, .ref q7, .ref q8, .ref q9, .ref q10, .null])), (q4, .inl (cJ, 81, .inr (.inl (fun _ => 0)))), (q5, .inl (cJ, 9, .inr (.inl (fun _ => 0)))), (q6, .inl (cJ, 9, .inr (.inl (fun _ => 0)))), (q7, .inl (cJ, 9, .inr (.inl (fun _ => 0)))), (q8, .inl (cJ, 9, .inr (.inl (fun _ => 0)))), (q9, .inl (cJ, 9, .inr (.inl (fun _ => 0)))), (q10, .inl (cJ, 9, .inr (.inl (fun _ => 0))))] H := hP
  have hD : va_D A [(h0, .inr (2, [.int 0, .int 0, .ref q4, .int 0, .ref q5, .ref q6, .ref q7, .ref q8, .ref q9, .ref q10, .null])), (q4, .inl (cJ, 81, .inr (.inl (fun _ => 0)))), (q5, .inl (cJ, 9, .inr (.inl (fun _ => 0)))), (q6, .inl (cJ, 9, .inr (.inl (fun _ => 0)))), (q7, .inl (cJ, 9, .inr (.inl (fun _ => 0)))), (q8, .inl (cJ, 9, .inr (.inl (fun _ => 0)))), (q9, .inl (cJ, 9, .inr (.inl (fun _ => 0)))), (q10, .inl (cJ, 9, .inr (.inl (fun _ => 0))))] := hD
  refine lv_aload_n hx hb dX3_init_60 rfl (lv_at hl 0 rfl) ?_
  refine lv_bipush (v := 9) hx hb dX3_init_61 (by decide) ?_
  refine c_newl hx hb (hts (.arrayClass .long) (by decide +kernel)) (cI := cJ) 0 rfl hK hP hD hS hA (n := 9) rfl (by omega) (by show _ + 1 ≤ 8; omega) (by show _ + 9 ≤ 144; omega) dX3_init_63 (fun q11 H hP hD hS => ?_)
  have hP : va_P D vwCl [(h0, .inr (2, [.int 0, .int 0, .ref q4, .int 0, .ref q5, .ref q6, .ref q7, .ref q8, .ref q9, .ref q10, .null])), (q4, .inl (cJ, 81, .inr (.inl (fun _ => 0)))), (q5, .inl (cJ, 9, .inr (.inl (fun _ => 0)))), (q6, .inl (cJ, 9, .inr (.inl (fun _ => 0)))), (q7, .inl (cJ, 9, .inr (.inl (fun _ => 0)))), (q8, .inl (cJ, 9, .inr (.inl (fun _ => 0)))), (q9, .inl (cJ, 9, .inr (.inl (fun _ => 0)))), (q10, .inl (cJ, 9, .inr (.inl (fun _ => 0)))), (q11, .inl (cJ, 9, .inr (.inl (fun _ => 0))))] H := hP
  have hD : va_D A [(h0, .inr (2, [.int 0, .int 0, .ref q4, .int 0, .ref q5, .ref q6, .ref q7, .ref q8, .ref q9, .ref q10, .null])), (q4, .inl (cJ, 81, .inr (.inl (fun _ => 0)))), (q5, .inl (cJ, 9, .inr (.inl (fun _ => 0)))), (q6, .inl (cJ, 9, .inr (.inl (fun _ => 0)))), (q7, .inl (cJ, 9, .inr (.inl (fun _ => 0)))), (q8, .inl (cJ, 9, .inr (.inl (fun _ => 0)))), (q9, .inl (cJ, 9, .inr (.inl (fun _ => 0)))), (q10, .inl (cJ, 9, .inr (.inl (fun _ => 0)))), (q11, .inl (cJ, 9, .inr (.inl (fun _ => 0))))] := hD
  refine va_putF (D := D) (ci := 2) (v := .ref q11) (ty := .array .long) (C := RX3) (T := TX3) (N := 11) hx hb hts (fun _ h9 => iw_X3_init_X3 _ h9) tyX3 tyX3_ok nmX3 hown hK hP hD hS 0 rfl rfl 10 (by decide) (hts (.fieldLink RX3 31 "ModEngineModel" "power" "[J") (by decide +kernel)) (fun _ h9 => h9) rfl hin rfl (by decide +kernel) rfl rfl (Nat.le_of_ble_eq_true rfl) dX3_init_65 (fun H locs hP hD hS => ?_)
  have hP : va_P D vwCl [(h0, .inr (2, [.int 0, .int 0, .ref q4, .int 0, .ref q5, .ref q6, .ref q7, .ref q8, .ref q9, .ref q10, .ref q11])), (q4, .inl (cJ, 81, .inr (.inl (fun _ => 0)))), (q5, .inl (cJ, 9, .inr (.inl (fun _ => 0)))), (q6, .inl (cJ, 9, .inr (.inl (fun _ => 0)))), (q7, .inl (cJ, 9, .inr (.inl (fun _ => 0)))), (q8, .inl (cJ, 9, .inr (.inl (fun _ => 0)))), (q9, .inl (cJ, 9, .inr (.inl (fun _ => 0)))), (q10, .inl (cJ, 9, .inr (.inl (fun _ => 0)))), (q11, .inl (cJ, 9, .inr (.inl (fun _ => 0))))] H := hP
  have hD : va_D A [(h0, .inr (2, [.int 0, .int 0, .ref q4, .int 0, .ref q5, .ref q6, .ref q7, .ref q8, .ref q9, .ref q10, .ref q11])), (q4, .inl (cJ, 81, .inr (.inl (fun _ => 0)))), (q5, .inl (cJ, 9, .inr (.inl (fun _ => 0)))), (q6, .inl (cJ, 9, .inr (.inl (fun _ => 0)))), (q7, .inl (cJ, 9, .inr (.inl (fun _ => 0)))), (q8, .inl (cJ, 9, .inr (.inl (fun _ => 0)))), (q9, .inl (cJ, 9, .inr (.inl (fun _ => 0)))), (q10, .inl (cJ, 9, .inr (.inl (fun _ => 0)))), (q11, .inl (cJ, 9, .inr (.inl (fun _ => 0))))] := hD
  refine lv_aload_n hx hb dX3_init_68 rfl (lv_at hl 0 rfl) ?_
  refine lv_iload_n hx hb dX3_init_69 rfl (lv_at hl 1 rfl) ?_
  refine va_calli (va_runS (As := [.int a]) (rest := [.ref h0]) ⟨hx, hb, hml, hown, hts⟩ (p_within l a) (va_cwS 1 hts gX3_init_X3_within rfl rfl rfl (by decide +kernel) ⟨by decide, by decide⟩) ⟨fun a9 U g9 mk q9 => q9, fun U hU hWm => ⟨rfl, trivial⟩⟩ rfl rfl hl.1 rfl (lv_room (Nat.le_of_ble_eq_true rfl)) dX3_init_70 ⟨by show _ + 0 ≤ 8; omega, by show _ + 0 ≤ 144; omega⟩) hS (fun _ _ h => h.elim) (fun _ h => h.elim) (fun r u t H1 locs ht hvm hw hB hz1 hk1 hS => ?_)
  have hP := hP.kept (fun k9 q9 h9 => hk1 q9.1 ((hP k9 q9 h9).lt) (fun z => z))
  generalize H1 = H at hP hS ⊢
  refine q_ti (y := nI (cl8 a)) hw ?_
  refine va_putF (D := D) (ci := 2) (v := .int (nI (cl8 a))) (ty := .int) (C := RX3) (T := TX3) (N := 11) hx hb hts (fun _ h9 => iw_X3_init_X3 _ h9) tyX3 tyX3_ok nmX3 hown hK hP hD hS 0 rfl rfl 0 (by decide) (hts (.fieldLink RX3 38 "ModEngineModel" "limbs" "I") (by decide +kernel)) (fun _ h9 => h9) rfl hin rfl (by decide +kernel) rfl rfl (Nat.le_of_ble_eq_true rfl) dX3_init_73 (fun H locs hP hD hS => ?_)
  have hP : va_P D vwCl [(h0, .inr (2, [.int (nI (cl8 a)), .int 0, .ref q4, .int 0, .ref q5, .ref q6, .ref q7, .ref q8, .ref q9, .ref q10, .ref q11])), (q4, .inl (cJ, 81, .inr (.inl (fun _ => 0)))), (q5, .inl (cJ, 9, .inr (.inl (fun _ => 0)))), (q6, .inl (cJ, 9, .inr (.inl (fun _ => 0)))), (q7, .inl (cJ, 9, .inr (.inl (fun _ => 0)))), (q8, .inl (cJ, 9, .inr (.inl (fun _ => 0)))), (q9, .inl (cJ, 9, .inr (.inl (fun _ => 0)))), (q10, .inl (cJ, 9, .inr (.inl (fun _ => 0)))), (q11, .inl (cJ, 9, .inr (.inl (fun _ => 0))))] H := hP
  have hD : va_D A [(h0, .inr (2, [.int (nI (cl8 a)), .int 0, .ref q4, .int 0, .ref q5, .ref q6, .ref q7, .ref q8, .ref q9, .ref q10, .ref q11])), (q4, .inl (cJ, 81, .inr (.inl (fun _ => 0)))), (q5, .inl (cJ, 9, .inr (.inl (fun _ => 0)))), (q6, .inl (cJ, 9, .inr (.inl (fun _ => 0)))), (q7, .inl (cJ, 9, .inr (.inl (fun _ => 0)))), (q8, .inl (cJ, 9, .inr (.inl (fun _ => 0)))), (q9, .inl (cJ, 9, .inr (.inl (fun _ => 0)))), (q10, .inl (cJ, 9, .inr (.inl (fun _ => 0)))), (q11, .inl (cJ, 9, .inr (.inl (fun _ => 0))))] := hD
  refine lv_aload_n hx hb dX3_init_76 rfl (lv_at hl 0 rfl) ?_
  refine lv_iload_n hx hb dX3_init_77 rfl (lv_at hl 2 rfl) ?_
  refine va_calli (va_runS (As := [.int b]) (rest := [.ref h0]) ⟨hx, hb, hml, hown, hts⟩ (p_within l b) (va_cwS 1 hts gX3_init_X3_within rfl rfl rfl (by decide +kernel) ⟨by decide, by decide⟩) ⟨fun a9 U g9 mk q9 => q9, fun U hU hWm => ⟨rfl, trivial⟩⟩ rfl rfl hl.1 rfl (lv_room (Nat.le_of_ble_eq_true rfl)) dX3_init_78 ⟨by show _ + 0 ≤ 8; omega, by show _ + 0 ≤ 144; omega⟩) hS (fun _ _ h => h.elim) (fun _ h => h.elim) (fun r u t H1 locs ht hvm hw hB hz1 hk1 hS => ?_)
  have hP := hP.kept (fun k9 q9 h9 => hk1 q9.1 ((hP k9 q9 h9).lt) (fun z => z))
  generalize H1 = H at hP hS ⊢
  refine q_ti (y := nI (cl8 b)) hw ?_
  refine va_putF (D := D) (ci := 2) (v := .int (nI (cl8 b))) (ty := .int) (C := RX3) (T := TX3) (N := 11) hx hb hts (fun _ h9 => iw_X3_init_X3 _ h9) tyX3 tyX3_ok nmX3 hown hK hP hD hS 0 rfl rfl 1 (by decide) (hts (.fieldLink RX3 42 "ModEngineModel" "registers" "I") (by decide +kernel)) (fun _ h9 => h9) rfl hin rfl (by decide +kernel) rfl rfl (Nat.le_of_ble_eq_true rfl) dX3_init_81 (fun H locs hP hD hS => ?_)
  have hP : va_P D vwCl [(h0, .inr (2, [.int (nI (cl8 a)), .int (nI (cl8 b)), .ref q4, .int 0, .ref q5, .ref q6, .ref q7, .ref q8, .ref q9, .ref q10, .ref q11])), (q4, .inl (cJ, 81, .inr (.inl (fun _ => 0)))), (q5, .inl (cJ, 9, .inr (.inl (fun _ => 0)))), (q6, .inl (cJ, 9, .inr (.inl (fun _ => 0)))), (q7, .inl (cJ, 9, .inr (.inl (fun _ => 0)))), (q8, .inl (cJ, 9, .inr (.inl (fun _ => 0)))), (q9, .inl (cJ, 9, .inr (.inl (fun _ => 0)))), (q10, .inl (cJ, 9, .inr (.inl (fun _ => 0)))), (q11, .inl (cJ, 9, .inr (.inl (fun _ => 0))))] H := hP
  have hD : va_D A [(h0, .inr (2, [.int (nI (cl8 a)), .int (nI (cl8 b)), .ref q4, .int 0, .ref q5, .ref q6, .ref q7, .ref q8, .ref q9, .ref q10, .ref q11])), (q4, .inl (cJ, 81, .inr (.inl (fun _ => 0)))), (q5, .inl (cJ, 9, .inr (.inl (fun _ => 0)))), (q6, .inl (cJ, 9, .inr (.inl (fun _ => 0)))), (q7, .inl (cJ, 9, .inr (.inl (fun _ => 0)))), (q8, .inl (cJ, 9, .inr (.inl (fun _ => 0)))), (q9, .inl (cJ, 9, .inr (.inl (fun _ => 0)))), (q10, .inl (cJ, 9, .inr (.inl (fun _ => 0)))), (q11, .inl (cJ, 9, .inr (.inl (fun _ => 0))))] := hD
  have hP9 : va_P D vwCl (modW cJ h0 (cl8 a) (cl8 b) (fun i => [q4, q5, q6, q7, q8, q9, q10, q11].getD (i - 4) 0)) H := hP
  have hD9 : va_D A (modW cJ h0 (cl8 a) (cl8 b) (fun i => [q4, q5, q6, q7, q8, q9, q10, q11].getD (i - 4) 0)) := hD
  refine W.widen (k := 8) (n := 144) (by omega) (by omega) ?_
  exact W.vret hx hb hr (fun t ht hW => ⟨⟨(fun i => [q4, q5, q6, q7, q8, q9, q10, q11].getD (i - 4) 0), rfl, trivial, by rw [ht]; exact hP9, va_K.moved hW.alike hK, hD9⟩, hS.F ht⟩) hS.2.2 dX3_init_84 hlocks
/-- the registers' rows -/
def rowsW (cI : ClassId) (k n : Nat) (r : Nat → Nat) : va_W := (List.range n).map (fun i => (r i, .inl (cI, k, .inl (fun _ => 0))))
theorem rowsW_pool {cI : ClassId} {k n : Nat} {r : Nat → Nat} {f : Nat → va_E} : va_pl ([] ++ (List.range n).map r) (vr_up f ((List.range n).map r) (.inl (cI, k, .inl (fun _ => 0)))) = rowsW cI k n r := by
  unfold va_pl rowsW
  rw [List.nil_append, List.map_map]
  apply List.map_congr_left
  intro i hi
  show (r i, vr_up f _ _ (r i)) = _
  rw [vr_up_in (List.mem_map.mpr ⟨i, hi, rfl⟩)]
theorem va_P_one {D : va_G} {cl : List vw_C} {ws : va_W} {H : Heap} {i : Nat} {x : Nat × va_E} (h : va_P D cl ws H) (hi : ws[i]? = some x) : va_P D cl [x] H := fun k q hq => by
  have h0 : k < 1 := (List.getElem?_eq_some_iff.mp hq).1
  rw [show k = 0 by omega] at hq
  cases hq
  exact h i _ hi
theorem va_D_one {A : Nat → Prop} {x : Nat × va_E} (hx : A x.1) : va_D A [x] := ⟨fun i j a b hi hj _ => by
    have h0 : i < 1 := (List.getElem?_eq_some_iff.mp hi).1
    have h1 : j < 1 := (List.getElem?_eq_some_iff.mp hj).1
    omega, fun k q hq => by
    have h0 : k < 1 := (List.getElem?_eq_some_iff.mp hq).1
    rw [show k = 0 by omega] at hq
    cases hq
    exact hx⟩
theorem free_one {A : Nat → Prop} {ws : va_W} {H0 H : Heap} {locs : List Loc} {i : Nat} {x : Nat × va_E} (hD : va_D A ws) (hS : va_S A H0 H locs) (hA : ∀ q, H0.size ≤ q → A q) (hi : ws[i]? = some x) : ∀ q, va_A [x] H.size q → A q := fun q h => by
  rcases h with ⟨k, e, hq⟩ | h
  · have h0 : k < 1 := (List.getElem?_eq_some_iff.mp hq).1
    rw [show k = 0 by omega] at hq
    cases hq
    exact hD.2 i _ hi
  · exact hA q (Nat.le_trans hS.1 h)
/-- a new ModEngine: itself at h0, its registers from Q 2 on, its Ring at Q 1 -/
def engW (cI cO : ClassId) (h0 k n : Nat) (Q : Nat → Nat) : va_W := ([(h0, .inr (1, [.int (nI k), .int (nI n), .ref (Q 2), .ref (Q 1), .int 0])), (Q 2, .inl (cO, n, .inr (.inr (.inr (.inr (fun i => if i < n then some (Q (21 + i)) else none))))))] ++ ringW cI (Q 1) k Q) ++ rowsW cI k n (fun i => Q (21 + i))
set_option maxHeartbeats 4000000 in
set_option maxRecDepth 100000 in
/-- ModEngine(k, n) -/
theorem c_engine (l : Launch) (D : va_G) (cI : ClassId) (h0 sz : Nat) (a b : Int32) : Met l yX2_init wsX2_init ({ frames := 2, cells := 19, slots := 156, locals := 33 }) (va_Pc [.ref h0, .int a, .int b] (fun U => U.heap.size = sz ∧ va_P D vwCl [(h0, .inr (1, [.int 0, .int 0, .null, .null, .int 0]))] U.heap ∧ va_K D vwCl [(cI, .int)] U ∧ va_D (fun _ => True) [(h0, .inr (1, [.int 0, .int 0, .null, .null, .int 0]))] ∧ va_AOA .int U)) (va_Qv (fun _ : (Nat → Nat) × ClassId => True) (fun Q t => va_P D vwCl (engW cI Q.2 h0 (cl8 a) (cl8 b) Q.1) t.heap ∧ va_K D vwCl [(cI, .int), (Q.2, .array .int)] t ∧ va_D (va_A [(h0, .inr (1, [.int 0, .int 0, .null, .null, .int 0]))] sz) (engW cI Q.2 h0 (cl8 a) (cl8 b) Q.1)) (va_A [(h0, .inr (1, [.int 0, .int 0, .null, .null, .int 0]))] sz)) 19 156 (va_A [(h0, .inr (1, [.int 0, .int 0, .null, .null, .int 0]))] sz) := by
  refine Met.ofW (cc := cX2_init) (maxL := 3) (ret := none) (by decide) rfl ?_
  intro p e s m args below meth c s₁ B hml hv
  obtain ⟨rfl, hsz, hP, hK, hD0, hAO⟩ := hv
  have hx := B.exec
  have hb := B.bytes
  have hr := B.returns
  have hts := atoms_spec (ws := wsX2_init) B.pre
  have hown : s.vm.findClass RX2 = some m.cls := findClass_of_methodNamed B.named
  have hlocks := B.notSynchronized
  have hin : meth.name = "<init>" := (name_of_methodNamed B.named B.method).1
  subst hsz
  have hD := hD0.self (sz := s.heap.size)
  generalize hAe : va_A [(h0, .inr (1, [.int 0, .int 0, .null, .null, .int 0]))] s.heap.size = A at hD ⊢
  have hA : ∀ q : Nat, s.heap.size ≤ q → A q := fun q h => by rw [← hAe]; exact Or.inr h
  have hS : va_S A s.heap s.heap [] := va_S.rf
  have hl := lv_entry ([.ref h0, .int a, .int b]) (n := 3) (Nat.le_of_ble_eq_true rfl)
  rw [lg_entry_eq]
  generalize (lg_sl ([.ref h0, .int a, .int b]) ++ List.replicate (3 - (lg_sl ([.ref h0, .int a, .int b])).length) Slot.unset).toArray = ls at hl ⊢
  have hl : lv_has ls 3 [(0, .ref h0), (1, .int a), (2, .int b)] := hl
  have hP : va_P D vwCl [(h0, .inr (1, [.int 0, .int 0, .null, .null, .int 0]))] s.heap := hP
  have hka := cl8_in a
  have hkb := cl8_in b
  refine lv_aload_n hx hb dX2_init_0 rfl (lv_at hl 0 rfl) ?_
  refine W.objInit hx hb hown (hts (.methodLink RX2 1 objectInit) (by decide +kernel)) (hts (.instanceMethod objectInit) (by decide +kernel)) (hts _ (List.mem_cons_of_mem _ (List.mem_append_left _ (List.mem_append_left _ (List.mem_append_left _ (List.mem_of_getElem? (i := 2) rfl)))))) rfl (by rw [hml]; exact hl.1) rfl dX2_init_1 (Nat.le_of_ble_eq_true rfl) (Nat.le_of_ble_eq_true rfl) ?_
  refine W.eq (g2 := F0 m 4 ls []) rfl ?_
  refine lv_aload_n hx hb dX2_init_4 rfl (lv_at hl 0 rfl) ?_
  refine lv_iconst (v := 1) hx hb dX2_init_5 (by decide) ?_
  refine lv_iload_n hx hb dX2_init_6 rfl (lv_at hl 1 rfl) ?_
  refine lv_bipush (v := 8) hx hb dX2_init_7 (by decide) ?_
  refine va_mmin hx hb (hml.trans hl.1.symm) hown (hts _ (List.mem_cons_of_mem _ (List.mem_append_left _ (List.mem_append_left _ (List.mem_append_left _ (List.mem_of_getElem? (i := 3) rfl)))))) (hts _ (List.mem_cons_of_mem _ (List.mem_append_left _ (List.mem_append_left _ (List.mem_append_left _ (List.mem_of_getElem? (i := 4) rfl)))))) (hts _ (List.mem_cons_of_mem _ (List.mem_append_left _ (List.mem_append_left _ (List.mem_append_left _ (List.mem_of_getElem? (i := 5) rfl)))))) (hts _ (List.mem_cons_of_mem _ (List.mem_append_left _ (List.mem_append_left _ (List.mem_append_left _ (List.mem_of_getElem? (i := 6) rfl)))))) (Nat.le_of_ble_eq_true rfl) (Nat.le_of_ble_eq_true rfl) (Nat.zero_le _) (Nat.zero_le _) dX2_init_9 ?_
  refine va_mmax hx hb (hml.trans hl.1.symm) hown (hts _ (List.mem_cons_of_mem _ (List.mem_append_left _ (List.mem_append_left _ (List.mem_append_left _ (List.mem_of_getElem? (i := 7) rfl)))))) (hts _ (List.mem_cons_of_mem _ (List.mem_append_left _ (List.mem_append_left _ (List.mem_append_left _ (List.mem_of_getElem? (i := 8) rfl)))))) (hts _ (List.mem_cons_of_mem _ (List.mem_append_left _ (List.mem_append_left _ (List.mem_append_left _ (List.mem_of_getElem? (i := 5) rfl)))))) (hts _ (List.mem_cons_of_mem _ (List.mem_append_left _ (List.mem_append_left _ (List.mem_append_left _ (List.mem_of_getElem? (i := 9) rfl)))))) (Nat.le_of_ble_eq_true rfl) (Nat.le_of_ble_eq_true rfl) (Nat.zero_le _) (Nat.zero_le _) dX2_init_12 ?_
  refine q_ti (y := nI (cl8 a)) (cl8_max a) ?_
  refine va_putF (D := D) (ci := 1) (v := .int (nI (cl8 a))) (ty := .int) (C := RX2) (T := TX2) (N := 5) hx hb hts (fun _ h9 => iw_X2_init_X2 _ h9) tyX2 tyX2_ok nmX2 hown hK hP hD hS 0 rfl rfl 0 (by decide) (hts (.fieldLink RX2 18 "ModEngine" "limbs" "I") (by decide +kernel)) (fun _ h9 => h9) rfl hin rfl (by decide +kernel) rfl rfl (Nat.le_of_ble_eq_true rfl) dX2_init_15 (fun H locs hP hD hS => ?_)
  have hP : va_P D vwCl [(h0, .inr (1, [.int (nI (cl8 a)), .int 0, .null, .null, .int 0]))] H := hP
  have hD : va_D A [(h0, .inr (1, [.int (nI (cl8 a)), .int 0, .null, .null, .int 0]))] := hD
  refine lv_aload_n hx hb dX2_init_18 rfl (lv_at hl 0 rfl) ?_
  refine lv_iconst (v := 1) hx hb dX2_init_19 (by decide) ?_
  refine lv_iload_n hx hb dX2_init_20 rfl (lv_at hl 2 rfl) ?_
  refine lv_bipush (v := 8) hx hb dX2_init_21 (by decide) ?_
  refine va_mmin hx hb (hml.trans hl.1.symm) hown (hts _ (List.mem_cons_of_mem _ (List.mem_append_left _ (List.mem_append_left _ (List.mem_append_left _ (List.mem_of_getElem? (i := 3) rfl)))))) (hts _ (List.mem_cons_of_mem _ (List.mem_append_left _ (List.mem_append_left _ (List.mem_append_left _ (List.mem_of_getElem? (i := 4) rfl)))))) (hts _ (List.mem_cons_of_mem _ (List.mem_append_left _ (List.mem_append_left _ (List.mem_append_left _ (List.mem_of_getElem? (i := 5) rfl)))))) (hts _ (List.mem_cons_of_mem _ (List.mem_append_left _ (List.mem_append_left _ (List.mem_append_left _ (List.mem_of_getElem? (i := 6) rfl)))))) (Nat.le_of_ble_eq_true rfl) (Nat.le_of_ble_eq_true rfl) (Nat.zero_le _) (Nat.zero_le _) dX2_init_23 ?_
  refine va_mmax hx hb (hml.trans hl.1.symm) hown (hts _ (List.mem_cons_of_mem _ (List.mem_append_left _ (List.mem_append_left _ (List.mem_append_left _ (List.mem_of_getElem? (i := 7) rfl)))))) (hts _ (List.mem_cons_of_mem _ (List.mem_append_left _ (List.mem_append_left _ (List.mem_append_left _ (List.mem_of_getElem? (i := 8) rfl)))))) (hts _ (List.mem_cons_of_mem _ (List.mem_append_left _ (List.mem_append_left _ (List.mem_append_left _ (List.mem_of_getElem? (i := 5) rfl)))))) (hts _ (List.mem_cons_of_mem _ (List.mem_append_left _ (List.mem_append_left _ (List.mem_append_left _ (List.mem_of_getElem? (i := 9) rfl)))))) (Nat.le_of_ble_eq_true rfl) (Nat.le_of_ble_eq_true rfl) (Nat.zero_le _) (Nat.zero_le _) dX2_init_26 ?_
  refine q_ti (y := nI (cl8 b)) (cl8_max b) ?_
  refine va_putF (D := D) (ci := 1) (v := .int (nI (cl8 b))) (ty := .int) (C := RX2) (T := TX2) (N := 5) hx hb hts (fun _ h9 => iw_X2_init_X2 _ h9) tyX2 tyX2_ok nmX2 hown hK hP hD hS 0 rfl rfl 1 (by decide) (hts (.fieldLink RX2 22 "ModEngine" "count" "I") (by decide +kernel)) (fun _ h9 => h9) rfl hin rfl (by decide +kernel) rfl rfl (Nat.le_of_ble_eq_true rfl) dX2_init_29 (fun H locs hP hD hS => ?_)
  have hP : va_P D vwCl [(h0, .inr (1, [.int (nI (cl8 a)), .int (nI (cl8 b)), .null, .null, .int 0]))] H := hP
  have hD : va_D A [(h0, .inr (1, [.int (nI (cl8 a)), .int (nI (cl8 b)), .null, .null, .int 0]))] := hD
  generalize cl8 a = k at *
  generalize cl8 b = n at *
  refine lv_aload_n hx hb dX2_init_32 rfl (lv_at hl 0 rfl) ?_
  refine lv_aload_n hx hb dX2_init_33 rfl (lv_at hl 0 rfl) ?_
  refine va_get (D := D) (ci := 1) (v := .int (nI n)) (C := RX2) (T := TX2) (N := 5) hx hb hts (fun _ h9 => iw_X2_init_X2 _ h9) hown hK hP 0 rfl rfl 1 (by decide) (hts (.fieldLink RX2 22 "ModEngine" "count" "I") (by decide +kernel)) (fun _ h9 => h9) rfl dX2_init_34 ?_
  refine lv_aload_n hx hb dX2_init_37 rfl (lv_at hl 0 rfl) ?_
  refine va_get (D := D) (ci := 1) (v := .int (nI k)) (C := RX2) (T := TX2) (N := 5) hx hb hts (fun _ h9 => iw_X2_init_X2 _ h9) hown hK hP 0 rfl rfl 0 (by decide) (hts (.fieldLink RX2 18 "ModEngine" "limbs" "I") (by decide +kernel)) (fun _ h9 => h9) rfl dX2_init_38 ?_
  have hnk : n * k ≤ 8 * 8 := Nat.mul_le_mul hkb.2 hka.2
  refine va_mna (D := D) (cl := vwCl) (X := [(h0, .inr (1, [.int (nI k), .int (nI n), .null, .null, .int 0]))]) (L := []) (f := fun _ => .inl (cI, 0, .inl (fun _ => 0))) (ty := .int) (cy := cI) (N' := n) (K' := k) (z := (k, .inl (fun _ => 0))) hx hb hown (hts (.classLink RX2 25 "[[I") (by decide +kernel)) hAO (hts (.arrayClass .int) (by decide +kernel)) (hK.2 0 _ rfl).2 hK hP hD hS hA (nI_pos (by omega)) (nI_pos (by omega)) (nI_clamp (by omega)) (nI_clamp (by omega)) (by omega) (by show k * 4 ≤ _; omega) (by omega) rfl rfl (by show 0 + (1 + n) ≤ 19; omega) (by show 0 + (n + n * k) ≤ 156; omega) (fun c9 => by rw [vp_cell_i, ← arrV_new]; rfl) dX2_init_41 (fun q2 r cO H hinj hnl hK hP hD hS => ?_)
  rw [rowsW_pool] at hP hD
  have hP : va_P D vwCl ([(h0, .inr (1, [.int (nI k), .int (nI n), .null, .null, .int 0])), (q2, .inl (cO, n, .inr (.inr (.inr (.inr (fun i => if i < n then some (r i) else none))))))] ++ rowsW cI k n r) H := hP
  have hD : va_D A ([(h0, .inr (1, [.int (nI k), .int (nI n), .null, .null, .int 0])), (q2, .inl (cO, n, .inr (.inr (.inr (.inr (fun i => if i < n then some (r i) else none))))))] ++ rowsW cI k n r) := hD
  refine W.widen (k := 9) (n := 72) (by omega) (by omega) ?_
  refine va_putF (D := D) (ci := 1) (v := .ref q2) (ty := .array (.array .int)) (C := RX2) (T := TX2) (N := 5) hx hb hts (fun _ h9 => iw_X2_init_X2 _ h9) tyX2 tyX2_ok nmX2 hown hK hP hD hS 0 rfl rfl 2 (by decide) (hts (.fieldLink RX2 27 "ModEngine" "registers" "[[I") (by decide +kernel)) (fun _ h9 => h9) rfl hin rfl (by decide +kernel) rfl rfl (Nat.le_of_ble_eq_true rfl) dX2_init_45 (fun H locs hP hD hS => ?_)
  have hP : va_P D vwCl ([(h0, .inr (1, [.int (nI k), .int (nI n), .ref q2, .null, .int 0])), (q2, .inl (cO, n, .inr (.inr (.inr (.inr (fun i => if i < n then some (r i) else none))))))] ++ rowsW cI k n r) H := hP
  have hD : va_D A ([(h0, .inr (1, [.int (nI k), .int (nI n), .ref q2, .null, .int 0])), (q2, .inl (cO, n, .inr (.inr (.inr (.inr (fun i => if i < n then some (r i) else none))))))] ++ rowsW cI k n r) := hD
  refine lv_aload_n hx hb dX2_init_48 rfl (lv_at hl 0 rfl) ?_
  refine va_new (ci := 0) (fs := [.null, .int 0, .int 0, .null, .null, .null, .null, .null, .null, .null, .null, .int 0]) (C := RX1) (T := TX1) (N := 12) hx hb hts (fun _ h9 => iw_X2_init_X1 _ h9) tyX1 tyX1_ok hown (hts (.classLink RX2 30 RX1) (by decide +kernel)) (hts (.instantiable RX1 12) (by decide +kernel)) (hts (.initialized RX1) (by decide +kernel)) hK hP hD hS hA rfl (fun j hj => by rcases (show j = 0 ∨ j = 1 ∨ j = 2 ∨ j = 3 ∨ j = 4 ∨ j = 5 ∨ j = 6 ∨ j = 7 ∨ j = 8 ∨ j = 9 ∨ j = 10 ∨ j = 11 by omega) with rfl | rfl | rfl | rfl | rfl | rfl | rfl | rfl | rfl | rfl | rfl | rfl <;> rfl) (Nat.le_of_ble_eq_true rfl) (Nat.le_of_ble_eq_true rfl) dX2_init_49 (fun q1 H hP hD hS => ?_)
  have hP := va_P.swap hP
  have hD := va_D.swap hD
  have hP : va_P D vwCl ([(h0, .inr (1, [.int (nI k), .int (nI n), .ref q2, .null, .int 0])), (q2, .inl (cO, n, .inr (.inr (.inr (.inr (fun i => if i < n then some (r i) else none)))))), (q1, .inr (0, [.null, .int 0, .int 0, .null, .null, .null, .null, .null, .null, .null, .null, .int 0]))] ++ rowsW cI k n r) H := hP
  have hD : va_D A ([(h0, .inr (1, [.int (nI k), .int (nI n), .ref q2, .null, .int 0])), (q2, .inl (cO, n, .inr (.inr (.inr (.inr (fun i => if i < n then some (r i) else none)))))), (q1, .inr (0, [.null, .int 0, .int 0, .null, .null, .null, .null, .null, .null, .null, .null, .int 0]))] ++ rowsW cI k n r) := hD
  refine lv_dup hx hb dX2_init_52 rfl ?_
  refine lv_aload_n hx hb dX2_init_53 rfl (lv_at hl 0 rfl) ?_
  refine va_get (D := D) (ci := 1) (v := .int (nI k)) (C := RX2) (T := TX2) (N := 5) hx hb hts (fun _ h9 => iw_X2_init_X2 _ h9) hown hK hP 0 rfl rfl 0 (by decide) (hts (.fieldLink RX2 18 "ModEngine" "limbs" "I") (by decide +kernel)) (fun _ h9 => h9) rfl dX2_init_54 ?_
  have hPc := va_P_one hP (i := 2) (x := (q1, .inr (0, [.null, .int 0, .int 0, .null, .null, .null, .null, .null, .null, .null, .null, .int 0]))) rfl
  have hFc := free_one hD hS hA (i := 2) (x := (q1, .inr (0, [.null, .int 0, .int 0, .null, .null, .null, .null, .null, .null, .null, .null, .int 0]))) rfl
  refine va_callv (va_runI (As := [.int (nI k)]) (rest := [.ref q1, .ref h0]) ⟨hx, hb, hml, hown, hts⟩ (c_ring l D cI q1 H.size k hka.1 hka.2) (cwI 1 hts gX2_init_X1_init rfl rfl rfl (hts (.initialized RX1) (by decide +kernel)) (hts (.methodLink RX2 32 yX1_init) (by decide +kernel)) (hts (.instanceMethod yX1_init) (by decide +kernel)) rfl (by decide +kernel) ⟨by decide, by decide⟩) ⟨fun a9 U g9 mk q9 => by obtain ⟨z0, z1, zP, zK, zD⟩ := q9; exact ⟨z0, z1, zP, va_K.moved (u := U) (U := U.calling g9 mk a9) (Vm.Alike.refl U.vm) zK, zD⟩, fun U hU hWm => ⟨rfl, by rw [hU], by rw [hU]; exact hPc, va_K.moved hWm.alike (hK.sub [0] rfl), va_D_one trivial⟩⟩ rfl rfl hl.1 rfl (lv_room (Nat.le_of_ble_eq_true rfl)) dX2_init_57 ⟨Nat.le_of_ble_eq_true rfl, Nat.le_of_ble_eq_true rfl⟩) hS (fun q9 _ h => hFc q9 h) hFc (fun Q t H1 locs ht hvm hw hB hz1 hk1 hS => ?_)
  obtain ⟨hP1, hK1, hD1⟩ := hB
  rw [ht] at hP1
  obtain ⟨hP, hD⟩ := va_joinQ (wr := [(h0, .inr (1, [.int (nI k), .int (nI n), .ref q2, .null, .int 0])), (q2, .inl (cO, n, .inr (.inr (.inr (.inr (fun i => if i < n then some (r i) else none))))))]) (w1 := ringW cI q1 k Q) hP hD [2] [0, 1] rfl rfl (by decide) (by decide) hk1 hFc hP1 hD1
  generalize H1 = H at hP hS ⊢
  have hP : va_P D vwCl (([(h0, .inr (1, [.int (nI k), .int (nI n), .ref q2, .null, .int 0])), (q2, .inl (cO, n, .inr (.inr (.inr (.inr (fun i => if i < n then some (r i) else none))))))] ++ ringW cI q1 k Q) ++ rowsW cI k n r) H := hP
  have hD : va_D A (([(h0, .inr (1, [.int (nI k), .int (nI n), .ref q2, .null, .int 0])), (q2, .inl (cO, n, .inr (.inr (.inr (.inr (fun i => if i < n then some (r i) else none))))))] ++ ringW cI q1 k Q) ++ rowsW cI k n r) := hD
  refine va_putF (D := D) (ci := 1) (v := .ref q1) (ty := .object "ModEngine$Ring") (C := RX2) (T := TX2) (N := 5) hx hb hts (fun _ h9 => iw_X2_init_X2 _ h9) tyX2 tyX2_ok nmX2 hown hK hP hD hS 0 rfl rfl 3 (by decide) (hts (.fieldLink RX2 35 "ModEngine" "ring" "LModEngine$Ring;") (by decide +kernel)) (fun _ h9 => h9) rfl hin rfl (by decide +kernel) rfl rfl (Nat.le_of_ble_eq_true rfl) dX2_init_60 (fun H locs hP hD hS => ?_)
  have hP : va_P D vwCl (([(h0, .inr (1, [.int (nI k), .int (nI n), .ref q2, .ref q1, .int 0])), (q2, .inl (cO, n, .inr (.inr (.inr (.inr (fun i => if i < n then some (r i) else none))))))] ++ ringW cI q1 k Q) ++ rowsW cI k n r) H := hP
  have hD : va_D A (([(h0, .inr (1, [.int (nI k), .int (nI n), .ref q2, .ref q1, .int 0])), (q2, .inl (cO, n, .inr (.inr (.inr (.inr (fun i => if i < n then some (r i) else none))))))] ++ ringW cI q1 k Q) ++ rowsW cI k n r) := hD
  refine lv_aload_n hx hb dX2_init_63 rfl (lv_at hl 0 rfl) ?_
  refine lv_iconst (v := 0) hx hb dX2_init_64 (by decide) ?_
  refine va_put (D := D) (ci := 1) (v := .int 0) (ty := .boolean) (C := RX2) (T := TX2) (N := 5) hx hb hts (fun _ h9 => iw_X2_init_X2 _ h9) tyX2 tyX2_ok nmX2 hown hK hP hD hS 0 rfl rfl 4 (by decide) (hts (.fieldLink RX2 39 "ModEngine" "isReady" "Z") (by decide +kernel)) (fun _ h9 => h9) rfl (by decide +kernel) rfl rfl (Nat.le_of_ble_eq_true rfl) dX2_init_65 (fun H locs hP hD hS => ?_)
  have hP : va_P D vwCl (([(h0, .inr (1, [.int (nI k), .int (nI n), .ref q2, .ref q1, .int 0])), (q2, .inl (cO, n, .inr (.inr (.inr (.inr (fun i => if i < n then some (r i) else none))))))] ++ ringW cI q1 k Q) ++ rowsW cI k n r) H := hP
  have hD : va_D A (([(h0, .inr (1, [.int (nI k), .int (nI n), .ref q2, .ref q1, .int 0])), (q2, .inl (cO, n, .inr (.inr (.inr (.inr (fun i => if i < n then some (r i) else none))))))] ++ ringW cI q1 k Q) ++ rowsW cI k n r) := hD
  have hrw : ∀ i, (fun i => if i = 1 then q1 else if i = 2 then q2 else if i < 21 then Q i else r (i - 21)) (21 + i) = r i := fun i => by
    show (if 21 + i = 1 then q1 else if 21 + i = 2 then q2 else if 21 + i < 21 then Q (21 + i) else r (21 + i - 21)) = r i
    rw [if_neg (by omega), if_neg (by omega), if_neg (by omega), show 21 + i - 21 = i by omega]
  have hE : engW cI cO h0 k n (fun i => if i = 1 then q1 else if i = 2 then q2 else if i < 21 then Q i else r (i - 21)) = (([(h0, .inr (1, [.int (nI k), .int (nI n), .ref q2, .ref q1, .int 0])), (q2, .inl (cO, n, .inr (.inr (.inr (.inr (fun i => if i < n then some (r i) else none))))))] ++ ringW cI q1 k Q) ++ rowsW cI k n r) := by
    unfold engW
    simp only [hrw]
    rfl
  rw [← hE] at hP hD
  refine W.widen (k := 19) (n := 156) (by omega) (by omega) ?_
  exact W.vret hx hb hr (fun t ht hW => ⟨⟨((fun i => if i = 1 then q1 else if i = 2 then q2 else if i < 21 then Q i else r (i - 21)), cO), rfl, trivial, by rw [ht]; exact hP, va_K.moved hW.alike hK, hD⟩, hS.F ht⟩) hS.2.2 dX2_init_68 hlocks
