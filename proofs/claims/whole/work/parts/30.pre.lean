/-! ===== making cells ===== -/
theorem va_AOA.moved {ty : FieldType} {u U : State} (hvm : u.vm.Alike U.vm) (h : va_AOA ty u) : va_AOA ty U := arrayOver_alikeB hvm h
/-- a clamp to 1 .. 8 -/
def cl8 (x : Int32) : Nat := if x < 1 then 1 else if 8 < x then 8 else x.toNatClampNeg
theorem cl8_mid {x : Int32} (h1 : ¬ x < 1) (h2 : ¬ 8 < x) : ∃ j : Nat, 1 ≤ j ∧ j ≤ 8 ∧ x = nI j := by
  have e1 : ¬ x < 0 := fun q => h1 (Int32.lt_trans q (by decide))
  obtain ⟨j, hj, rfl⟩ := nI_of2 (M := 8) (n := 8) (by decide) e1 (Int32.not_lt.mp h2)
  refine ⟨j, ?_, hj, rfl⟩
  rcases Nat.eq_zero_or_pos j with z | z
  · subst z
    exact absurd (by decide) h1
  · exact z
theorem cl8_in (x : Int32) : 1 ≤ cl8 x ∧ cl8 x ≤ 8 := by
  unfold cl8
  split
  · omega
  · split
    · omega
    · rename_i h1 h2
      obtain ⟨j, h3, h4, rfl⟩ := cl8_mid h1 h2
      rw [nI_clamp (by omega)]
      omega
theorem cl8_max (x : Int32) : (if (1 : Int32) < (if (8 : Int32) < x then 8 else x) then (if (8 : Int32) < x then 8 else x) else 1) = nI (cl8 x) := by
  unfold cl8
  by_cases h2 : (8 : Int32) < x
  · have h1 : ¬ x < 1 := fun q => absurd (Int32.lt_trans h2 q) (by decide)
    rw [if_pos h2, if_pos (by decide), if_neg h1, if_pos h2]
    rfl
  · rw [if_neg h2, if_neg h2]
    by_cases h1 : x < 1
    · rw [if_pos h1, if_neg (fun q => absurd (Int32.lt_trans q h1) (by decide))]
      rfl
    · rw [if_neg h1]
      obtain ⟨j, h3, h4, rfl⟩ := cl8_mid h1 h2
      rw [nI_clamp (by omega)]
      split
      · rfl
      · rename_i h5
        have h6 : ¬ 1 < j := fun q => h5 ((nI_ltI (a := 1) (by decide) (by omega)).mpr q)
        rw [show j = 1 by omega]
        rfl
section QN
variable {p : Program} {l : Launch} {e : Env} {R : Room} {s : State} {m : MethodId} {args : Array Value} {below : List Frame} {meth : Method} {c : Code} {H : Heap} {locs : List Loc} {cells slots : Nat} {Q : State → Prop}
variable {cc : ByteArray} {pc : Nat} {ls : Array Slot} {rest : List Value} {D : va_G} {cl : List vw_C} {A : Nat → Prop} {tys : List (ClassId × FieldType)} {ws : va_W} {H0 : Heap}
theorem c_newi (hx : p.tables.exec = Jvm.exec) (hb : c.code = cc) (harr : (Cond.arrayClass .int).before args s = true) {cI : ClassId} (t0 : Nat) (ht : tys[t0]? = some (cI, .int)) (hK : va_K D cl tys s) (hP : va_P D cl ws H) (hD : va_D A ws) (hS : va_S A H0 H locs) (hA : ∀ q, H0.size ≤ q → A q) {n : Nat} {x : Int32} (ex : x = nI n) (hn : n ≤ 81) (hcells : cells + 1 ≤ R.cells) (hslots : slots + n ≤ R.slots) (hdg : decode cc pc = .ok (.newarray .int, 2))
    (kk : ∀ (q : Nat) (H1 : Heap), va_P D cl (ws ++ [(q, .inl (cI, n, .inl (fun _ => 0)))]) H1 → va_D A (ws ++ [(q, .inl (cI, n, .inl (fun _ => 0)))]) → va_S A H0 H1 locs → W p l e R s m args below meth c H1 locs (cells + 1) (slots + n) Q (F0 m (pc + 2) ls (.ref q :: rest))) : W p l e R s m args below meth c H locs cells slots Q (F0 m pc ls (.int x :: rest)) := by
  subst ex
  refine va_newa (atype := .int) (ty := .int) (n := nI n) (N' := n) (a0 := (n, .inl (fun _ => 0))) hx hb harr rfl hK hP hD hS hA (fun _ => rfl) (nI_pos (by omega)) (nI_clamp (by omega)) (by show n * 4 ≤ _; omega) hcells hslots hdg (fun q cA H1 hK1 hP1 hD1 hS1 => ?_)
  have e1 : s.vm.findClass ("[" ++ FieldType.int.toString) = some cA := (hK1.2 tys.length (cA, .int) (by rw [List.getElem?_append_right (Nat.le_refl _)]; simp)).2
  have e2 : s.vm.findClass ("[" ++ FieldType.int.toString) = some cI := (hK.2 t0 _ ht).2
  have e3 : cA = cI := Option.some.inj (e1.symm.trans e2)
  subst e3
  exact kk q H1 hP1 hD1 hS1
theorem c_newl (hx : p.tables.exec = Jvm.exec) (hb : c.code = cc) (harr : (Cond.arrayClass .long).before args s = true) {cI : ClassId} (t0 : Nat) (ht : tys[t0]? = some (cI, .long)) (hK : va_K D cl tys s) (hP : va_P D cl ws H) (hD : va_D A ws) (hS : va_S A H0 H locs) (hA : ∀ q, H0.size ≤ q → A q) {n : Nat} {x : Int32} (ex : x = nI n) (hn : n ≤ 81) (hcells : cells + 1 ≤ R.cells) (hslots : slots + n ≤ R.slots) (hdg : decode cc pc = .ok (.newarray .long, 2))
    (kk : ∀ (q : Nat) (H1 : Heap), va_P D cl (ws ++ [(q, .inl (cI, n, .inr (.inl (fun _ => 0))))]) H1 → va_D A (ws ++ [(q, .inl (cI, n, .inr (.inl (fun _ => 0))))]) → va_S A H0 H1 locs → W p l e R s m args below meth c H1 locs (cells + 1) (slots + n) Q (F0 m (pc + 2) ls (.ref q :: rest))) : W p l e R s m args below meth c H locs cells slots Q (F0 m pc ls (.int x :: rest)) := by
  subst ex
  refine va_newa (atype := .long) (ty := .long) (n := nI n) (N' := n) (a0 := (n, .inr (.inl (fun _ => 0)))) hx hb harr rfl hK hP hD hS hA (fun _ => rfl) (nI_pos (by omega)) (nI_clamp (by omega)) (by show n * 8 ≤ _; omega) hcells hslots hdg (fun q cA H1 hK1 hP1 hD1 hS1 => ?_)
  have e1 : s.vm.findClass ("[" ++ FieldType.long.toString) = some cA := (hK1.2 tys.length (cA, .long) (by rw [List.getElem?_append_right (Nat.le_refl _)]; simp)).2
  have e2 : s.vm.findClass ("[" ++ FieldType.long.toString) = some cI := (hK.2 t0 _ ht).2
  have e3 : cA = cI := Option.some.inj (e1.symm.trans e2)
  subst e3
  exact kk q H1 hP1 hD1 hS1
end QN
/-- a method that looks at its arguments alone -/
abbrev pCI (l : Launch) (y : MethodName) (ws : List Cond) (fr lo : Nat) (As : List Value) (B : State → Prop) (post : Int32 → Prop) : Prop :=
  Met l y ws (rmm fr lo) (va_Pc As B) (va_Qi (fun r (_ : Unit) => post r) (fun _ _ => True) (fun _ => False)) 0 0 (fun _ => False)
theorem p_within (l : Launch) (x : Int32) : pCI l yX3_within wsX3_within 0 0 [.int x] (fun _ => True) (fun r => r = nI (cl8 x)) := by
  refine Met.ofW (cc := cX3_within) (maxL := 1) (ret := some .int) (by decide) rfl ?_
  intro p e s m args below meth c s₁ B hml hv
  obtain ⟨rfl, -⟩ := hv
  have hx := B.exec
  have hb := B.bytes
  have hr := B.returns
  have hlocks := B.notSynchronized
  have hl := lv_entry ([.int x]) (n := 1) (Nat.le_of_ble_eq_true rfl)
  rw [lg_entry_eq]
  generalize (lg_sl ([.int x]) ++ List.replicate (1 - (lg_sl ([.int x])).length) Slot.unset).toArray = ls at hl ⊢
  have hl : lv_has ls 1 [(0, .int x)] := hl
  have fin : ∀ (r : Int32) (pc : Nat) (ls : Array Slot), r = nI (cl8 x) → decode cX3_within pc = .ok (.ireturn, 1) → W p l e (rmm 0 0) s m #[Value.int x] below meth c s.heap [] 0 0 (MQ below (va_Qi (fun r (_ : Unit) => r = nI (cl8 x)) (fun _ _ => True) (fun _ => False)) #[Value.int x] s 0 0 (fun _ => False)) (F0 m pc ls [.int r]) := fun r pc ls hr2 hd =>
    W.iret hx hb hr (fun t ht hWm => ⟨⟨r, (), rfl, hr2, trivial⟩, (va_S.rf (A := fun _ => False)).F ht⟩) (fun _ h => by cases h) hd hlocks
  refine lv_iload_n hx hb dX3_within_0 rfl (lv_at hl 0 rfl) ?_
  refine lv_iconst (v := 1) hx hb dX3_within_1 (by decide) ?_
  refine lv_icmp_ge (tgt := 9) hx hb dX3_within_2 (by decide) (fun c1 => ?_) (fun c1 => ?_)
  · have h1 : ¬ x < 1 := Int32.not_lt.mpr c1
    refine lv_iload_n hx hb dX3_within_9 rfl (lv_at hl 0 rfl) ?_
    refine lv_bipush (v := 8) hx hb dX3_within_10 (by decide) ?_
    refine lv_icmp_le (tgt := 20) hx hb dX3_within_12 (by decide) (fun c2 => ?_) (fun c2 => ?_)
    · have h2 : ¬ 8 < x := Int32.not_lt.mpr c2
      refine lv_iload_n hx hb dX3_within_20 rfl (lv_at hl 0 rfl) ?_
      refine fin x _ ls ?_ dX3_within_21
      obtain ⟨j, h3, h4, rfl⟩ := cl8_mid h1 h2
      unfold cl8
      rw [if_neg h1, if_neg h2, nI_clamp (by omega)]
    · have h2 : 8 < x := Int32.not_le.mp c2
      refine lv_bipush (v := 8) hx hb dX3_within_15 (by decide) ?_
      refine lv_goto (tgt := 21) hx hb dX3_within_17 (by decide) ?_
      refine fin 8 _ ls ?_ dX3_within_21
      unfold cl8
      rw [if_neg h1, if_pos h2]
      rfl
  · have h1 : x < 1 := Int32.not_le.mp c1
    refine lv_iconst (v := 1) hx hb dX3_within_5 (by decide) ?_
    refine lv_goto (tgt := 21) hx hb dX3_within_6 (by decide) ?_
    refine fin 1 _ ls ?_ dX3_within_21
    unfold cl8
    rw [if_pos h1]
    rfl
/-- cell(script, j): an int of the script, or 0 -/
theorem p_cell (l : Launch) (b L j : Nat) (xs : Nat → Int32) (hL : L ≤ 2050) (hj : j < 2050) : pCI l yL_cell wsL_cell 0 0 [.ref b, .int (nI j)] (fun U => va_X b L xs U U.heap ∧ b < U.heap.size) (fun r => r = if j < L then xs j else 0) := by
  refine Met.ofW (cc := cL_cell) (maxL := 2) (ret := some .int) (by decide) rfl ?_
  intro p e s m args below meth c s₁ B hml hv
  obtain ⟨rfl, hX, hbl⟩ := hv
  have hx := B.exec
  have hb := B.bytes
  have hr := B.returns
  have hlocks := B.notSynchronized
  have hS : va_S (fun _ => False) s.heap s.heap [] := va_S.rf
  have hl := lv_entry ([.ref b, .int (nI j)]) (n := 2) (Nat.le_of_ble_eq_true rfl)
  rw [lg_entry_eq]
  generalize (lg_sl ([.ref b, .int (nI j)]) ++ List.replicate (2 - (lg_sl ([.ref b, .int (nI j)])).length) Slot.unset).toArray = ls at hl ⊢
  have hl : lv_has ls 2 [(0, .ref b), (1, .int (nI j))] := hl
  have fin : ∀ (r : Int32) (pc : Nat) (ls : Array Slot), (r = if j < L then xs j else 0) → decode cL_cell pc = .ok (.ireturn, 1) → W p l e (rmm 0 0) s m #[Value.ref b, Value.int (nI j)] below meth c s.heap [] 0 0 (MQ below (va_Qi (fun r (_ : Unit) => r = if j < L then xs j else 0) (fun _ _ => True) (fun _ => False)) #[Value.ref b, Value.int (nI j)] s 0 0 (fun _ => False)) (F0 m pc ls [.int r]) := fun r pc ls hr2 hd =>
    W.iret hx hb hr (fun t ht hWm => ⟨⟨r, (), rfl, hr2, trivial⟩, hS.F ht⟩) (fun _ h => by cases h) hd hlocks
  refine lv_iload_n hx hb dL_cell_0 rfl (lv_at hl 1 rfl) ?_
  refine lv_aload_n hx hb dL_cell_1 rfl (lv_at hl 0 rfl) ?_
  refine va_slen hx hb hX hbl (fun q => q) hS dL_cell_2 ?_
  refine lv_icmp_ge (tgt := 12) hx hb dL_cell_3 (by decide) (fun c1 => ?_) (fun c1 => ?_)
  · have h1 : L ≤ j := nle c1 (by omega) (by omega)
    refine lv_iconst (v := 0) hx hb dL_cell_12 (by decide) ?_
    exact fin 0 _ ls (if_neg (by omega)).symm dL_cell_13
  · have h1 : j < L := nge c1 (by omega)
    refine lv_aload_n hx hb dL_cell_6 rfl (lv_at hl 0 rfl) ?_
    refine lv_iload_n hx hb dL_cell_7 rfl (lv_at hl 1 rfl) ?_
    refine va_sld hx hb hX hbl (fun q => q) hS (vp_in_nI h1 (by omega)) dL_cell_8 ?_
    rw [nI_clamp (by omega)]
    refine lv_goto (tgt := 13) hx hb dL_cell_9 (by decide) ?_
    exact fin _ _ ls (if_pos h1).symm dL_cell_13
