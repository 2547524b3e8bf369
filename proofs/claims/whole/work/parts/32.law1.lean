/-! ===== the law ===== -/
/-- class and reference agree -/
def LI (g : qCfg) (σ : qSt) (M : Nat) (X : Nat → Nat) : Prop := cInv g σ ∧ cAbs g σ M X ∧ mAbs g σ M X ∧ mInv σ M ∧ σ.rd = σ.rm
theorem law_mid {g : qCfg} {σ σ1 : qSt} {M : Nat} {X : Nat → Nat} {sp : Int32 → Nat → (Nat → Nat) → Int32 → Prop} {r1 : Int32} (h : LI g σ M X) (h1 : cPost g σ sp r1 σ1) : mAbs g σ1 M X ∧ mInv σ1 M := by
  obtain ⟨hJ, hm⟩ := h1.1
  refine ⟨?_, ?_⟩
  · unfold mAbs
    rw [hJ]
    exact h.2.2.1
  · unfold mInv
    rw [hm]
    exact h.2.2.2.1
theorem law_step {g : qCfg} {σ σ1 σ2 : qSt} {M : Nat} {X : Nat → Nat} {sp : Int32 → Int32 → Nat → (Nat → Nat) → Int32 → Prop} {r1 r2 : Int32} (h : LI g σ M X) (h1 : cPost g σ (sp σ.rd) r1 σ1) (h2 : mPost g σ1 (sp σ1.rm) r2 σ2)
    (ho : ∀ {rd r1 r2 d1 d2 : Int32} {M1 M2 : Nat} {X1 X2 : Nat → Nat}, sp rd r1 M1 X1 d1 → sp rd r2 M2 X2 d2 → one1 r1 r2 M1 M2 X1 X2 d1 d2) : r1 = r2 ∧ ∃ M' X', LI g σ2 M' X' := by
  obtain ⟨⟨hJ, hm⟩, hi1, M1, X1, ha1, hs1⟩ := h1
  obtain ⟨⟨hF, hmi, hrd⟩, M2, X2, ha2, hi2, hs2⟩ := h2
  rw [hm, ← h.2.2.2.2] at hs2
  obtain ⟨e1, e2, e3, e4⟩ := ho hs1 hs2
  subst e2
  subst e3
  refine ⟨e1, M1, X1, ?_, ?_, ha2, hi2, ?_⟩
  · unfold cInv
    rw [hF, hmi, hrd]
    exact hi1
  · unfold cAbs
    rw [hF]
    exact ha1
  · rw [hrd]
    exact e4
section QL
variable {p : Program} {l : Launch} {e : Env} {R : Room} {s : State} {m : MethodId} {args : Array Value} {below : List Frame} {meth : Method} {c : Code} {H : Heap} {locs : List Loc} {cells slots : Nat} {Q : State → Prop}
variable {cc : ByteArray} {pc : Nat} {ls : Array Slot} {rest : List Value} {A : Nat → Prop} {H0 : Heap}
theorem q_sld (hx : p.tables.exec = Jvm.exec) (hb : c.code = cc) {b L : Nat} {xs : Nat → Int32} (hX : va_X b L xs s H0) (hbl : b < H0.size) (hbA : ¬ A b) (hS : va_S A H0 H locs) {j : Nat} {x : Int32} (hj : j < L) (hL : L ≤ 2050) (ej : x = nI j) (hdg : decode cc pc = .ok (.iaload, 1))
    (kk : W p l e R s m args below meth c H locs cells slots Q (F0 m (pc + 1) ls (.int (xs j) :: rest))) : W p l e R s m args below meth c H locs cells slots Q (F0 m pc ls (.int x :: .ref b :: rest)) := by
  subst ej
  refine va_sld hx hb hX hbl hbA hS (vp_in_nI hj (by omega)) hdg ?_
  rw [nI_clamp (by omega)]
  exact kk
end QL
theorem law_in {i L : Nat} (hi : i < 2 ^ 30) (hL : L < 2 ^ 30) (h : ¬ nI L - 4 < nI i) : i + 4 ≤ L := by
  rw [Int32.lt_iff_toInt_lt, show (4 : Int32) = nI 4 from rfl, pk_sub_toInt hL (by decide), nI_toInt (by omega)] at h
  omega
set_option maxHeartbeats 4000000 in
set_option maxRecDepth 100000 in
/-- case 0: pokeMod -/
theorem law_pokeMod {p : Program} {l : Launch} {e : Env} {s : State} {m : MethodId} {below : List Frame} {meth : Method} {c : Code} {g : qCfg} (hg : g.ok) {b L : Nat} {xs : Nat → Int32} (hL : L ≤ 2050) (C0 : lw_At p s m meth c b L xs) {i : Nat} (hiL : i + 4 ≤ L) {σ : qSt} {M : Nat} {X : Nat → Nat} (hLI : LI g σ M X) {H : Heap} {locs : List Loc} {ls : Array Slot} (hW : Wo g (fun q : Nat => s.heap.size ≤ q) s H locs σ) (hl : lv_has ls 4 [(3, .int (nI i)), (1, .ref (g.P 0)), (2, .ref (g.P 3)), (0, .ref b)]) (next : (∀ (σ2 : qSt) (M2 : Nat) (X2 : Nat → Nat) (H : Heap) (locs : List Loc) (ls : Array Slot), LI g σ2 M2 X2 → Wo g (fun q : Nat => s.heap.size ≤ q) s H locs σ2 → lv_has ls 4 [(3, .int (nI i)), (1, .ref (g.P 0)), (2, .ref (g.P 3)), (0, .ref b)] → W p l e room_1 s m #[Value.ref b] below meth c H locs 600000 7302250 (lw_Z below #[Value.ref b] s) (F0 m 613 ls []))) : W p l e room_1 s m #[Value.ref b] below meth c H locs 600000 7302250 (lw_Z below #[Value.ref b] s) (F0 m 128 ls []) := by
  obtain ⟨hx, hb, hr, hml, hown0, hts0, hX, hbl, hlocks, hgv⟩ := id C0
  have hown : s.vm.findClass RL = some m.cls := hown0
  have hts : ∀ w ∈ wsL_law, w.before #[Value.ref b] s = true := fun w h => hts0 w (wsL_law_in w h)
  have S : qFx p m c cL_law 4 s #[Value.ref b] wsL_law RL meth ret := ⟨hx, hb, hml, hown, hts, hr, hlocks⟩
  have hA : ∀ q : Nat, s.heap.size ≤ q → (fun q : Nat => s.heap.size ≤ q) q := fun _ h => h
  have hbA : ¬ (fun q : Nat => s.heap.size ≤ q) b := Nat.not_le.mpr hbl
  refine lv_aload_n hx hb dL_law_128 rfl (lv_at hl 1 rfl) ?_
  refine lv_aload_n hx hb dL_law_129 rfl (lv_at hl 3 rfl) ?_
  refine lv_iload_n hx hb dL_law_130 rfl (lv_at hl 0 rfl) ?_
  refine lv_iconst (v := 1) hx hb dL_law_131 (by decide) ?_
  refine lv_iadd hx hb dL_law_132 ?_
  refine q_sld hx hb hX hbl hbA hW.2.2.1 (j := i + 1) (by omega) hL (nI_add _ 1) dL_law_133 ?_
  refine lv_aload_n hx hb dL_law_134 rfl (lv_at hl 3 rfl) ?_
  refine lv_iload_n hx hb dL_law_135 rfl (lv_at hl 0 rfl) ?_
  refine lv_iconst (v := 2) hx hb dL_law_136 (by decide) ?_
  refine lv_iadd hx hb dL_law_137 ?_
  refine q_sld hx hb hX hbl hbA hW.2.2.1 (j := i + 2) (by omega) hL (nI_add _ 2) dL_law_138 ?_
  refine q_i (q_runV (As := [.int (xs (i + 1)), .int (xs (i + 2))]) (rest := []) (i := 0) S hW (by decide) rfl rfl (m_pokeMod l g hg σ hLI.1 hLI.2.1 (xs (i + 1)) (xs (i + 2))) gL_law_X2_pokeMod rfl (nA := 2) ⟨rfl, by decide +kernel, ⟨by decide, by decide⟩⟩ rfl hl.1 rfl (Nat.le_of_ble_eq_true rfl) dL_law_139 ⟨Nat.le_refl _, Nat.le_refl _⟩) hW hA (fun r1 σ1 H locs hp1 hW => ?_)
  obtain ⟨haM, hiM⟩ := law_mid hLI hp1
  refine lv_aload_n hx hb dL_law_142 rfl (lv_at hl 2 rfl) ?_
  refine lv_aload_n hx hb dL_law_143 rfl (lv_at hl 3 rfl) ?_
  refine lv_iload_n hx hb dL_law_144 rfl (lv_at hl 0 rfl) ?_
  refine lv_iconst (v := 1) hx hb dL_law_145 (by decide) ?_
  refine lv_iadd hx hb dL_law_146 ?_
  refine q_sld hx hb hX hbl hbA hW.2.2.1 (j := i + 1) (by omega) hL (nI_add _ 1) dL_law_147 ?_
  refine lv_aload_n hx hb dL_law_148 rfl (lv_at hl 3 rfl) ?_
  refine lv_iload_n hx hb dL_law_149 rfl (lv_at hl 0 rfl) ?_
  refine lv_iconst (v := 2) hx hb dL_law_150 (by decide) ?_
  refine lv_iadd hx hb dL_law_151 ?_
  refine q_sld hx hb hX hbl hbA hW.2.2.1 (j := i + 2) (by omega) hL (nI_add _ 2) dL_law_152 ?_
  refine q_i (q_runV (As := [.int (xs (i + 1)), .int (xs (i + 2))]) (rest := [.int r1]) (i := 3) S hW (by decide) rfl rfl (n_pokeMod l g hg σ1 haM hiM (xs (i + 1)) (xs (i + 2))) gL_law_X3_pokeMod rfl (nA := 2) ⟨rfl, by decide +kernel, ⟨by decide, by decide⟩⟩ rfl hl.1 rfl (Nat.le_of_ble_eq_true rfl) dL_law_153 ⟨Nat.le_refl _, Nat.le_refl _⟩) hW hA (fun r2 σ2 H locs hp2 hW => ?_)
  obtain ⟨er, M2, X2, hLI2⟩ := law_step (sp := sPokeMod g.k (xs (i + 1)) (xs (i + 2)) M X) hLI hp1 hp2 (o_pokeMod hg.2.1)
  refine lv_icmp_eq (tgt := 613) hx hb dL_law_156 (by decide) (fun _ => ?_) (fun c9 => absurd er c9)
  exact next σ2 M2 X2 H locs ls hLI2 hW hl
set_option maxHeartbeats 4000000 in
set_option maxRecDepth 100000 in
/-- case 1: peekMod -/
theorem law_peekMod {p : Program} {l : Launch} {e : Env} {s : State} {m : MethodId} {below : List Frame} {meth : Method} {c : Code} {g : qCfg} (hg : g.ok) {b L : Nat} {xs : Nat → Int32} (hL : L ≤ 2050) (C0 : lw_At p s m meth c b L xs) {i : Nat} (hiL : i + 4 ≤ L) {σ : qSt} {M : Nat} {X : Nat → Nat} (hLI : LI g σ M X) {H : Heap} {locs : List Loc} {ls : Array Slot} (hW : Wo g (fun q : Nat => s.heap.size ≤ q) s H locs σ) (hl : lv_has ls 4 [(3, .int (nI i)), (1, .ref (g.P 0)), (2, .ref (g.P 3)), (0, .ref b)]) (next : (∀ (σ2 : qSt) (M2 : Nat) (X2 : Nat → Nat) (H : Heap) (locs : List Loc) (ls : Array Slot), LI g σ2 M2 X2 → Wo g (fun q : Nat => s.heap.size ≤ q) s H locs σ2 → lv_has ls 4 [(3, .int (nI i)), (1, .ref (g.P 0)), (2, .ref (g.P 3)), (0, .ref b)] → W p l e room_1 s m #[Value.ref b] below meth c H locs 600000 7302250 (lw_Z below #[Value.ref b] s) (F0 m 613 ls []))) : W p l e room_1 s m #[Value.ref b] below meth c H locs 600000 7302250 (lw_Z below #[Value.ref b] s) (F0 m 161 ls []) := by
  obtain ⟨hx, hb, hr, hml, hown0, hts0, hX, hbl, hlocks, hgv⟩ := id C0
  have hown : s.vm.findClass RL = some m.cls := hown0
  have hts : ∀ w ∈ wsL_law, w.before #[Value.ref b] s = true := fun w h => hts0 w (wsL_law_in w h)
  have S : qFx p m c cL_law 4 s #[Value.ref b] wsL_law RL meth ret := ⟨hx, hb, hml, hown, hts, hr, hlocks⟩
  have hA : ∀ q : Nat, s.heap.size ≤ q → (fun q : Nat => s.heap.size ≤ q) q := fun _ h => h
  have hbA : ¬ (fun q : Nat => s.heap.size ≤ q) b := Nat.not_le.mpr hbl
  refine lv_aload_n hx hb dL_law_161 rfl (lv_at hl 1 rfl) ?_
  refine lv_aload_n hx hb dL_law_162 rfl (lv_at hl 3 rfl) ?_
  refine lv_iload_n hx hb dL_law_163 rfl (lv_at hl 0 rfl) ?_
  refine lv_iconst (v := 1) hx hb dL_law_164 (by decide) ?_
  refine lv_iadd hx hb dL_law_165 ?_
  refine q_sld hx hb hX hbl hbA hW.2.2.1 (j := i + 1) (by omega) hL (nI_add _ 1) dL_law_166 ?_
  refine q_i (q_runV (As := [.int (xs (i + 1))]) (rest := []) (i := 0) S hW (by decide) rfl rfl (m_peekMod l g hg σ hLI.1 hLI.2.1 (xs (i + 1))) gL_law_X2_peekMod rfl (nA := 1) ⟨rfl, by decide +kernel, ⟨by decide, by decide⟩⟩ rfl hl.1 rfl (Nat.le_of_ble_eq_true rfl) dL_law_167 ⟨Nat.le_refl _, Nat.le_refl _⟩) hW hA (fun r1 σ1 H locs hp1 hW => ?_)
  obtain ⟨haM, hiM⟩ := law_mid hLI hp1
  refine lv_aload_n hx hb dL_law_170 rfl (lv_at hl 2 rfl) ?_
  refine lv_aload_n hx hb dL_law_171 rfl (lv_at hl 3 rfl) ?_
  refine lv_iload_n hx hb dL_law_172 rfl (lv_at hl 0 rfl) ?_
  refine lv_iconst (v := 1) hx hb dL_law_173 (by decide) ?_
  refine lv_iadd hx hb dL_law_174 ?_
  refine q_sld hx hb hX hbl hbA hW.2.2.1 (j := i + 1) (by omega) hL (nI_add _ 1) dL_law_175 ?_
  refine q_i (q_runV (As := [.int (xs (i + 1))]) (rest := [.int r1]) (i := 3) S hW (by decide) rfl rfl (n_peekMod l g hg σ1 haM hiM (xs (i + 1))) gL_law_X3_peekMod rfl (nA := 1) ⟨rfl, by decide +kernel, ⟨by decide, by decide⟩⟩ rfl hl.1 rfl (Nat.le_of_ble_eq_true rfl) dL_law_176 ⟨Nat.le_refl _, Nat.le_refl _⟩) hW hA (fun r2 σ2 H locs hp2 hW => ?_)
  obtain ⟨er, M2, X2, hLI2⟩ := law_step (sp := sPeekMod g.k (xs (i + 1)) M X) hLI hp1 hp2 (o_peekMod hg.2.1)
  refine lv_icmp_eq (tgt := 613) hx hb dL_law_179 (by decide) (fun _ => ?_) (fun c9 => absurd er c9)
  exact next σ2 M2 X2 H locs ls hLI2 hW hl
set_option maxHeartbeats 4000000 in
set_option maxRecDepth 100000 in
/-- case 2: init -/
theorem law_init {p : Program} {l : Launch} {e : Env} {s : State} {m : MethodId} {below : List Frame} {meth : Method} {c : Code} {g : qCfg} (hg : g.ok) {b L : Nat} {xs : Nat → Int32} (hL : L ≤ 2050) (C0 : lw_At p s m meth c b L xs) {i : Nat} (hiL : i + 4 ≤ L) {σ : qSt} {M : Nat} {X : Nat → Nat} (hLI : LI g σ M X) {H : Heap} {locs : List Loc} {ls : Array Slot} (hW : Wo g (fun q : Nat => s.heap.size ≤ q) s H locs σ) (hl : lv_has ls 4 [(3, .int (nI i)), (1, .ref (g.P 0)), (2, .ref (g.P 3)), (0, .ref b)]) (next : (∀ (σ2 : qSt) (M2 : Nat) (X2 : Nat → Nat) (H : Heap) (locs : List Loc) (ls : Array Slot), LI g σ2 M2 X2 → Wo g (fun q : Nat => s.heap.size ≤ q) s H locs σ2 → lv_has ls 4 [(3, .int (nI i)), (1, .ref (g.P 0)), (2, .ref (g.P 3)), (0, .ref b)] → W p l e room_1 s m #[Value.ref b] below meth c H locs 600000 7302250 (lw_Z below #[Value.ref b] s) (F0 m 613 ls []))) : W p l e room_1 s m #[Value.ref b] below meth c H locs 600000 7302250 (lw_Z below #[Value.ref b] s) (F0 m 184 ls []) := by
  obtain ⟨hx, hb, hr, hml, hown0, hts0, hX, hbl, hlocks, hgv⟩ := id C0
  have hown : s.vm.findClass RL = some m.cls := hown0
  have hts : ∀ w ∈ wsL_law, w.before #[Value.ref b] s = true := fun w h => hts0 w (wsL_law_in w h)
  have S : qFx p m c cL_law 4 s #[Value.ref b] wsL_law RL meth ret := ⟨hx, hb, hml, hown, hts, hr, hlocks⟩
  have hA : ∀ q : Nat, s.heap.size ≤ q → (fun q : Nat => s.heap.size ≤ q) q := fun _ h => h
  have hbA : ¬ (fun q : Nat => s.heap.size ≤ q) b := Nat.not_le.mpr hbl
  refine lv_aload_n hx hb dL_law_184 rfl (lv_at hl 1 rfl) ?_
  refine q_i (q_runV (As := []) (rest := []) (i := 0) S hW (by decide) rfl rfl (m_init l g hg σ hLI.1 hLI.2.1 ) gL_law_X2_init_ rfl (nA := 0) ⟨rfl, by decide +kernel, ⟨by decide, by decide⟩⟩ rfl hl.1 rfl (Nat.le_of_ble_eq_true rfl) dL_law_185 ⟨Nat.le_refl _, Nat.le_refl _⟩) hW hA (fun r1 σ1 H locs hp1 hW => ?_)
  obtain ⟨haM, hiM⟩ := law_mid hLI hp1
  refine lv_aload_n hx hb dL_law_188 rfl (lv_at hl 2 rfl) ?_
  refine q_i (q_runV (As := []) (rest := [.int r1]) (i := 3) S hW (by decide) rfl rfl (n_init l g hg σ1 haM hiM ) gL_law_X3_init_ rfl (nA := 0) ⟨rfl, by decide +kernel, ⟨by decide, by decide⟩⟩ rfl hl.1 rfl (Nat.le_of_ble_eq_true rfl) dL_law_189 ⟨Nat.le_refl _, Nat.le_refl _⟩) hW hA (fun r2 σ2 H locs hp2 hW => ?_)
  obtain ⟨er, M2, X2, hLI2⟩ := law_step (sp := sInit M X) hLI hp1 hp2 o_init
  refine lv_icmp_eq (tgt := 613) hx hb dL_law_192 (by decide) (fun _ => ?_) (fun c9 => absurd er c9)
  exact next σ2 M2 X2 H locs ls hLI2 hW hl
set_option maxHeartbeats 4000000 in
set_option maxRecDepth 100000 in
/-- case 3: ready -/
theorem law_ready {p : Program} {l : Launch} {e : Env} {s : State} {m : MethodId} {below : List Frame} {meth : Method} {c : Code} {g : qCfg} (hg : g.ok) {b L : Nat} {xs : Nat → Int32} (hL : L ≤ 2050) (C0 : lw_At p s m meth c b L xs) {i : Nat} (hiL : i + 4 ≤ L) {σ : qSt} {M : Nat} {X : Nat → Nat} (hLI : LI g σ M X) {H : Heap} {locs : List Loc} {ls : Array Slot} (hW : Wo g (fun q : Nat => s.heap.size ≤ q) s H locs σ) (hl : lv_has ls 4 [(3, .int (nI i)), (1, .ref (g.P 0)), (2, .ref (g.P 3)), (0, .ref b)]) (next : (∀ (σ2 : qSt) (M2 : Nat) (X2 : Nat → Nat) (H : Heap) (locs : List Loc) (ls : Array Slot), LI g σ2 M2 X2 → Wo g (fun q : Nat => s.heap.size ≤ q) s H locs σ2 → lv_has ls 4 [(3, .int (nI i)), (1, .ref (g.P 0)), (2, .ref (g.P 3)), (0, .ref b)] → W p l e room_1 s m #[Value.ref b] below meth c H locs 600000 7302250 (lw_Z below #[Value.ref b] s) (F0 m 613 ls []))) : W p l e room_1 s m #[Value.ref b] below meth c H locs 600000 7302250 (lw_Z below #[Value.ref b] s) (F0 m 197 ls []) := by
  obtain ⟨hx, hb, hr, hml, hown0, hts0, hX, hbl, hlocks, hgv⟩ := id C0
  have hown : s.vm.findClass RL = some m.cls := hown0
  have hts : ∀ w ∈ wsL_law, w.before #[Value.ref b] s = true := fun w h => hts0 w (wsL_law_in w h)
  have S : qFx p m c cL_law 4 s #[Value.ref b] wsL_law RL meth ret := ⟨hx, hb, hml, hown, hts, hr, hlocks⟩
  have hA : ∀ q : Nat, s.heap.size ≤ q → (fun q : Nat => s.heap.size ≤ q) q := fun _ h => h
  have hbA : ¬ (fun q : Nat => s.heap.size ≤ q) b := Nat.not_le.mpr hbl
  refine lv_aload_n hx hb dL_law_197 rfl (lv_at hl 1 rfl) ?_
  refine q_i (q_runV (As := []) (rest := []) (i := 0) S hW (by decide) rfl rfl (m_ready l g hg σ hLI.1 hLI.2.1 ) gL_law_X2_ready rfl (nA := 0) ⟨rfl, by decide +kernel, ⟨by decide, by decide⟩⟩ rfl hl.1 rfl (Nat.le_of_ble_eq_true rfl) dL_law_198 ⟨Nat.le_refl _, Nat.le_refl _⟩) hW hA (fun r1 σ1 H locs hp1 hW => ?_)
  obtain ⟨haM, hiM⟩ := law_mid hLI hp1
  refine lv_aload_n hx hb dL_law_201 rfl (lv_at hl 2 rfl) ?_
  refine q_i (q_runV (As := []) (rest := [.int r1]) (i := 3) S hW (by decide) rfl rfl (n_ready l g hg σ1 haM hiM ) gL_law_X3_ready rfl (nA := 0) ⟨rfl, by decide +kernel, ⟨by decide, by decide⟩⟩ rfl hl.1 rfl (Nat.le_of_ble_eq_true rfl) dL_law_202 ⟨Nat.le_refl _, Nat.le_refl _⟩) hW hA (fun r2 σ2 H locs hp2 hW => ?_)
  obtain ⟨er, M2, X2, hLI2⟩ := law_step (sp := sReady M X) hLI hp1 hp2 o_ready
  refine lv_icmp_eq (tgt := 613) hx hb dL_law_205 (by decide) (fun _ => ?_) (fun c9 => absurd er c9)
  exact next σ2 M2 X2 H locs ls hLI2 hW hl
set_option maxHeartbeats 4000000 in
set_option maxRecDepth 100000 in
/-- case 4: poke -/
theorem law_poke {p : Program} {l : Launch} {e : Env} {s : State} {m : MethodId} {below : List Frame} {meth : Method} {c : Code} {g : qCfg} (hg : g.ok) {b L : Nat} {xs : Nat → Int32} (hL : L ≤ 2050) (C0 : lw_At p s m meth c b L xs) {i : Nat} (hiL : i + 4 ≤ L) {σ : qSt} {M : Nat} {X : Nat → Nat} (hLI : LI g σ M X) {H : Heap} {locs : List Loc} {ls : Array Slot} (hW : Wo g (fun q : Nat => s.heap.size ≤ q) s H locs σ) (hl : lv_has ls 4 [(3, .int (nI i)), (1, .ref (g.P 0)), (2, .ref (g.P 3)), (0, .ref b)]) (next : (∀ (σ2 : qSt) (M2 : Nat) (X2 : Nat → Nat) (H : Heap) (locs : List Loc) (ls : Array Slot), LI g σ2 M2 X2 → Wo g (fun q : Nat => s.heap.size ≤ q) s H locs σ2 → lv_has ls 4 [(3, .int (nI i)), (1, .ref (g.P 0)), (2, .ref (g.P 3)), (0, .ref b)] → W p l e room_1 s m #[Value.ref b] below meth c H locs 600000 7302250 (lw_Z below #[Value.ref b] s) (F0 m 613 ls []))) : W p l e room_1 s m #[Value.ref b] below meth c H locs 600000 7302250 (lw_Z below #[Value.ref b] s) (F0 m 210 ls []) := by
  obtain ⟨hx, hb, hr, hml, hown0, hts0, hX, hbl, hlocks, hgv⟩ := id C0
  have hown : s.vm.findClass RL = some m.cls := hown0
  have hts : ∀ w ∈ wsL_law, w.before #[Value.ref b] s = true := fun w h => hts0 w (wsL_law_in w h)
  have S : qFx p m c cL_law 4 s #[Value.ref b] wsL_law RL meth ret := ⟨hx, hb, hml, hown, hts, hr, hlocks⟩
  have hA : ∀ q : Nat, s.heap.size ≤ q → (fun q : Nat => s.heap.size ≤ q) q := fun _ h => h
  have hbA : ¬ (fun q : Nat => s.heap.size ≤ q) b := Nat.not_le.mpr hbl
  refine lv_aload_n hx hb dL_law_210 rfl (lv_at hl 1 rfl) ?_
  refine lv_aload_n hx hb dL_law_211 rfl (lv_at hl 3 rfl) ?_
  refine lv_iload_n hx hb dL_law_212 rfl (lv_at hl 0 rfl) ?_
  refine lv_iconst (v := 1) hx hb dL_law_213 (by decide) ?_
  refine lv_iadd hx hb dL_law_214 ?_
  refine q_sld hx hb hX hbl hbA hW.2.2.1 (j := i + 1) (by omega) hL (nI_add _ 1) dL_law_215 ?_
  refine lv_aload_n hx hb dL_law_216 rfl (lv_at hl 3 rfl) ?_
  refine lv_iload_n hx hb dL_law_217 rfl (lv_at hl 0 rfl) ?_
  refine lv_iconst (v := 2) hx hb dL_law_218 (by decide) ?_
  refine lv_iadd hx hb dL_law_219 ?_
  refine q_sld hx hb hX hbl hbA hW.2.2.1 (j := i + 2) (by omega) hL (nI_add _ 2) dL_law_220 ?_
  refine lv_aload_n hx hb dL_law_221 rfl (lv_at hl 3 rfl) ?_
  refine lv_iload_n hx hb dL_law_222 rfl (lv_at hl 0 rfl) ?_
  refine lv_iconst (v := 3) hx hb dL_law_223 (by decide) ?_
  refine lv_iadd hx hb dL_law_224 ?_
  refine q_sld hx hb hX hbl hbA hW.2.2.1 (j := i + 3) (by omega) hL (nI_add _ 3) dL_law_225 ?_
  refine q_i (q_runV (As := [.int (xs (i + 1)), .int (xs (i + 2)), .int (xs (i + 3))]) (rest := []) (i := 0) S hW (by decide) rfl rfl (m_poke l g hg σ hLI.1 hLI.2.1 (xs (i + 1)) (xs (i + 2)) (xs (i + 3))) gL_law_X2_poke rfl (nA := 3) ⟨rfl, by decide +kernel, ⟨by decide, by decide⟩⟩ rfl hl.1 rfl (Nat.le_of_ble_eq_true rfl) dL_law_226 ⟨Nat.le_refl _, Nat.le_refl _⟩) hW hA (fun r1 σ1 H locs hp1 hW => ?_)
  obtain ⟨haM, hiM⟩ := law_mid hLI hp1
  refine lv_aload_n hx hb dL_law_229 rfl (lv_at hl 2 rfl) ?_
  refine lv_aload_n hx hb dL_law_230 rfl (lv_at hl 3 rfl) ?_
  refine lv_iload_n hx hb dL_law_231 rfl (lv_at hl 0 rfl) ?_
  refine lv_iconst (v := 1) hx hb dL_law_232 (by decide) ?_
  refine lv_iadd hx hb dL_law_233 ?_
  refine q_sld hx hb hX hbl hbA hW.2.2.1 (j := i + 1) (by omega) hL (nI_add _ 1) dL_law_234 ?_
  refine lv_aload_n hx hb dL_law_235 rfl (lv_at hl 3 rfl) ?_
  refine lv_iload_n hx hb dL_law_236 rfl (lv_at hl 0 rfl) ?_
  refine lv_iconst (v := 2) hx hb dL_law_237 (by decide) ?_
  refine lv_iadd hx hb dL_law_238 ?_
  refine q_sld hx hb hX hbl hbA hW.2.2.1 (j := i + 2) (by omega) hL (nI_add _ 2) dL_law_239 ?_
  refine lv_aload_n hx hb dL_law_240 rfl (lv_at hl 3 rfl) ?_
  refine lv_iload_n hx hb dL_law_241 rfl (lv_at hl 0 rfl) ?_
  refine lv_iconst (v := 3) hx hb dL_law_242 (by decide) ?_
  refine lv_iadd hx hb dL_law_243 ?_
  refine q_sld hx hb hX hbl hbA hW.2.2.1 (j := i + 3) (by omega) hL (nI_add _ 3) dL_law_244 ?_
  refine q_i (q_runV (As := [.int (xs (i + 1)), .int (xs (i + 2)), .int (xs (i + 3))]) (rest := [.int r1]) (i := 3) S hW (by decide) rfl rfl (n_poke l g hg σ1 haM hiM (xs (i + 1)) (xs (i + 2)) (xs (i + 3))) gL_law_X3_poke rfl (nA := 3) ⟨rfl, by decide +kernel, ⟨by decide, by decide⟩⟩ rfl hl.1 rfl (Nat.le_of_ble_eq_true rfl) dL_law_245 ⟨Nat.le_refl _, Nat.le_refl _⟩) hW hA (fun r2 σ2 H locs hp2 hW => ?_)
  obtain ⟨er, M2, X2, hLI2⟩ := law_step (sp := sPoke g.n g.k (xs (i + 1)) (xs (i + 2)) (xs (i + 3)) M X) hLI hp1 hp2 (o_poke hg.2.2.2 hg.2.1)
  refine lv_icmp_eq (tgt := 613) hx hb dL_law_248 (by decide) (fun _ => ?_) (fun c9 => absurd er c9)
  exact next σ2 M2 X2 H locs ls hLI2 hW hl
set_option maxHeartbeats 4000000 in
set_option maxRecDepth 100000 in
/-- case 5: peek -/
theorem law_peek {p : Program} {l : Launch} {e : Env} {s : State} {m : MethodId} {below : List Frame} {meth : Method} {c : Code} {g : qCfg} (hg : g.ok) {b L : Nat} {xs : Nat → Int32} (hL : L ≤ 2050) (C0 : lw_At p s m meth c b L xs) {i : Nat} (hiL : i + 4 ≤ L) {σ : qSt} {M : Nat} {X : Nat → Nat} (hLI : LI g σ M X) {H : Heap} {locs : List Loc} {ls : Array Slot} (hW : Wo g (fun q : Nat => s.heap.size ≤ q) s H locs σ) (hl : lv_has ls 4 [(3, .int (nI i)), (1, .ref (g.P 0)), (2, .ref (g.P 3)), (0, .ref b)]) (next : (∀ (σ2 : qSt) (M2 : Nat) (X2 : Nat → Nat) (H : Heap) (locs : List Loc) (ls : Array Slot), LI g σ2 M2 X2 → Wo g (fun q : Nat => s.heap.size ≤ q) s H locs σ2 → lv_has ls 4 [(3, .int (nI i)), (1, .ref (g.P 0)), (2, .ref (g.P 3)), (0, .ref b)] → W p l e room_1 s m #[Value.ref b] below meth c H locs 600000 7302250 (lw_Z below #[Value.ref b] s) (F0 m 613 ls []))) : W p l e room_1 s m #[Value.ref b] below meth c H locs 600000 7302250 (lw_Z below #[Value.ref b] s) (F0 m 253 ls []) := by
  obtain ⟨hx, hb, hr, hml, hown0, hts0, hX, hbl, hlocks, hgv⟩ := id C0
  have hown : s.vm.findClass RL = some m.cls := hown0
  have hts : ∀ w ∈ wsL_law, w.before #[Value.ref b] s = true := fun w h => hts0 w (wsL_law_in w h)
  have S : qFx p m c cL_law 4 s #[Value.ref b] wsL_law RL meth ret := ⟨hx, hb, hml, hown, hts, hr, hlocks⟩
  have hA : ∀ q : Nat, s.heap.size ≤ q → (fun q : Nat => s.heap.size ≤ q) q := fun _ h => h
  have hbA : ¬ (fun q : Nat => s.heap.size ≤ q) b := Nat.not_le.mpr hbl
  refine lv_aload_n hx hb dL_law_253 rfl (lv_at hl 1 rfl) ?_
  refine lv_aload_n hx hb dL_law_254 rfl (lv_at hl 3 rfl) ?_
  refine lv_iload_n hx hb dL_law_255 rfl (lv_at hl 0 rfl) ?_
  refine lv_iconst (v := 1) hx hb dL_law_256 (by decide) ?_
  refine lv_iadd hx hb dL_law_257 ?_
  refine q_sld hx hb hX hbl hbA hW.2.2.1 (j := i + 1) (by omega) hL (nI_add _ 1) dL_law_258 ?_
  refine lv_aload_n hx hb dL_law_259 rfl (lv_at hl 3 rfl) ?_
  refine lv_iload_n hx hb dL_law_260 rfl (lv_at hl 0 rfl) ?_
  refine lv_iconst (v := 2) hx hb dL_law_261 (by decide) ?_
  refine lv_iadd hx hb dL_law_262 ?_
  refine q_sld hx hb hX hbl hbA hW.2.2.1 (j := i + 2) (by omega) hL (nI_add _ 2) dL_law_263 ?_
  refine q_i (q_runV (As := [.int (xs (i + 1)), .int (xs (i + 2))]) (rest := []) (i := 0) S hW (by decide) rfl rfl (m_peek l g hg σ hLI.1 hLI.2.1 (xs (i + 1)) (xs (i + 2))) gL_law_X2_peek rfl (nA := 2) ⟨rfl, by decide +kernel, ⟨by decide, by decide⟩⟩ rfl hl.1 rfl (Nat.le_of_ble_eq_true rfl) dL_law_264 ⟨Nat.le_refl _, Nat.le_refl _⟩) hW hA (fun r1 σ1 H locs hp1 hW => ?_)
  obtain ⟨haM, hiM⟩ := law_mid hLI hp1
  refine lv_aload_n hx hb dL_law_267 rfl (lv_at hl 2 rfl) ?_
  refine lv_aload_n hx hb dL_law_268 rfl (lv_at hl 3 rfl) ?_
  refine lv_iload_n hx hb dL_law_269 rfl (lv_at hl 0 rfl) ?_
  refine lv_iconst (v := 1) hx hb dL_law_270 (by decide) ?_
  refine lv_iadd hx hb dL_law_271 ?_
  refine q_sld hx hb hX hbl hbA hW.2.2.1 (j := i + 1) (by omega) hL (nI_add _ 1) dL_law_272 ?_
  refine lv_aload_n hx hb dL_law_273 rfl (lv_at hl 3 rfl) ?_
  refine lv_iload_n hx hb dL_law_274 rfl (lv_at hl 0 rfl) ?_
  refine lv_iconst (v := 2) hx hb dL_law_275 (by decide) ?_
  refine lv_iadd hx hb dL_law_276 ?_
  refine q_sld hx hb hX hbl hbA hW.2.2.1 (j := i + 2) (by omega) hL (nI_add _ 2) dL_law_277 ?_
  refine q_i (q_runV (As := [.int (xs (i + 1)), .int (xs (i + 2))]) (rest := [.int r1]) (i := 3) S hW (by decide) rfl rfl (n_peek l g hg σ1 haM hiM (xs (i + 1)) (xs (i + 2))) gL_law_X3_peek rfl (nA := 2) ⟨rfl, by decide +kernel, ⟨by decide, by decide⟩⟩ rfl hl.1 rfl (Nat.le_of_ble_eq_true rfl) dL_law_278 ⟨Nat.le_refl _, Nat.le_refl _⟩) hW hA (fun r2 σ2 H locs hp2 hW => ?_)
  obtain ⟨er, M2, X2, hLI2⟩ := law_step (sp := sPeek g.n g.k (xs (i + 1)) (xs (i + 2)) M X) hLI hp1 hp2 (o_peek hg.2.2.2 hg.2.1)
  refine lv_icmp_eq (tgt := 613) hx hb dL_law_281 (by decide) (fun _ => ?_) (fun c9 => absurd er c9)
  exact next σ2 M2 X2 H locs ls hLI2 hW hl
set_option maxHeartbeats 4000000 in
set_option maxRecDepth 100000 in
/-- case 6: reduce -/
theorem law_reduce {p : Program} {l : Launch} {e : Env} {s : State} {m : MethodId} {below : List Frame} {meth : Method} {c : Code} {g : qCfg} (hg : g.ok) {b L : Nat} {xs : Nat → Int32} (hL : L ≤ 2050) (C0 : lw_At p s m meth c b L xs) {i : Nat} (hiL : i + 4 ≤ L) {σ : qSt} {M : Nat} {X : Nat → Nat} (hLI : LI g σ M X) {H : Heap} {locs : List Loc} {ls : Array Slot} (hW : Wo g (fun q : Nat => s.heap.size ≤ q) s H locs σ) (hl : lv_has ls 4 [(3, .int (nI i)), (1, .ref (g.P 0)), (2, .ref (g.P 3)), (0, .ref b)]) (next : (∀ (σ2 : qSt) (M2 : Nat) (X2 : Nat → Nat) (H : Heap) (locs : List Loc) (ls : Array Slot), LI g σ2 M2 X2 → Wo g (fun q : Nat => s.heap.size ≤ q) s H locs σ2 → lv_has ls 4 [(3, .int (nI i)), (1, .ref (g.P 0)), (2, .ref (g.P 3)), (0, .ref b)] → W p l e room_1 s m #[Value.ref b] below meth c H locs 600000 7302250 (lw_Z below #[Value.ref b] s) (F0 m 613 ls []))) : W p l e room_1 s m #[Value.ref b] below meth c H locs 600000 7302250 (lw_Z below #[Value.ref b] s) (F0 m 286 ls []) := by
  obtain ⟨hx, hb, hr, hml, hown0, hts0, hX, hbl, hlocks, hgv⟩ := id C0
  have hown : s.vm.findClass RL = some m.cls := hown0
  have hts : ∀ w ∈ wsL_law, w.before #[Value.ref b] s = true := fun w h => hts0 w (wsL_law_in w h)
  have S : qFx p m c cL_law 4 s #[Value.ref b] wsL_law RL meth ret := ⟨hx, hb, hml, hown, hts, hr, hlocks⟩
  have hA : ∀ q : Nat, s.heap.size ≤ q → (fun q : Nat => s.heap.size ≤ q) q := fun _ h => h
  have hbA : ¬ (fun q : Nat => s.heap.size ≤ q) b := Nat.not_le.mpr hbl
  refine lv_aload_n hx hb dL_law_286 rfl (lv_at hl 1 rfl) ?_
  refine lv_aload_n hx hb dL_law_287 rfl (lv_at hl 3 rfl) ?_
  refine lv_iload_n hx hb dL_law_288 rfl (lv_at hl 0 rfl) ?_
  refine lv_iconst (v := 1) hx hb dL_law_289 (by decide) ?_
  refine lv_iadd hx hb dL_law_290 ?_
  refine q_sld hx hb hX hbl hbA hW.2.2.1 (j := i + 1) (by omega) hL (nI_add _ 1) dL_law_291 ?_
  refine q_i (q_runV (As := [.int (xs (i + 1))]) (rest := []) (i := 0) S hW (by decide) rfl rfl (m_reduce l g hg σ hLI.1 hLI.2.1 (xs (i + 1))) gL_law_X2_reduce rfl (nA := 1) ⟨rfl, by decide +kernel, ⟨by decide, by decide⟩⟩ rfl hl.1 rfl (Nat.le_of_ble_eq_true rfl) dL_law_292 ⟨Nat.le_refl _, Nat.le_refl _⟩) hW hA (fun r1 σ1 H locs hp1 hW => ?_)
  obtain ⟨haM, hiM⟩ := law_mid hLI hp1
  refine lv_aload_n hx hb dL_law_295 rfl (lv_at hl 2 rfl) ?_
  refine lv_aload_n hx hb dL_law_296 rfl (lv_at hl 3 rfl) ?_
  refine lv_iload_n hx hb dL_law_297 rfl (lv_at hl 0 rfl) ?_
  refine lv_iconst (v := 1) hx hb dL_law_298 (by decide) ?_
  refine lv_iadd hx hb dL_law_299 ?_
  refine q_sld hx hb hX hbl hbA hW.2.2.1 (j := i + 1) (by omega) hL (nI_add _ 1) dL_law_300 ?_
  refine q_i (q_runV (As := [.int (xs (i + 1))]) (rest := [.int r1]) (i := 3) S hW (by decide) rfl rfl (n_reduce l g hg σ1 haM hiM (xs (i + 1))) gL_law_X3_reduce rfl (nA := 1) ⟨rfl, by decide +kernel, ⟨by decide, by decide⟩⟩ rfl hl.1 rfl (Nat.le_of_ble_eq_true rfl) dL_law_301 ⟨Nat.le_refl _, Nat.le_refl _⟩) hW hA (fun r2 σ2 H locs hp2 hW => ?_)
  obtain ⟨er, M2, X2, hLI2⟩ := law_step (sp := sReg g.n pRes (xs (i + 1)) (xs (i + 1)) (xs (i + 1)) M X) hLI hp1 hp2 (o_reg (fun _ _ _ _ _ h h2 => h.trans h2.symm) hg.2.2.2)
  refine lv_icmp_eq (tgt := 613) hx hb dL_law_304 (by decide) (fun _ => ?_) (fun c9 => absurd er c9)
  exact next σ2 M2 X2 H locs ls hLI2 hW hl
set_option maxHeartbeats 4000000 in
set_option maxRecDepth 100000 in
/-- case 7: addMod -/
theorem law_addMod {p : Program} {l : Launch} {e : Env} {s : State} {m : MethodId} {below : List Frame} {meth : Method} {c : Code} {g : qCfg} (hg : g.ok) {b L : Nat} {xs : Nat → Int32} (hL : L ≤ 2050) (C0 : lw_At p s m meth c b L xs) {i : Nat} (hiL : i + 4 ≤ L) {σ : qSt} {M : Nat} {X : Nat → Nat} (hLI : LI g σ M X) {H : Heap} {locs : List Loc} {ls : Array Slot} (hW : Wo g (fun q : Nat => s.heap.size ≤ q) s H locs σ) (hl : lv_has ls 4 [(3, .int (nI i)), (1, .ref (g.P 0)), (2, .ref (g.P 3)), (0, .ref b)]) (next : (∀ (σ2 : qSt) (M2 : Nat) (X2 : Nat → Nat) (H : Heap) (locs : List Loc) (ls : Array Slot), LI g σ2 M2 X2 → Wo g (fun q : Nat => s.heap.size ≤ q) s H locs σ2 → lv_has ls 4 [(3, .int (nI i)), (1, .ref (g.P 0)), (2, .ref (g.P 3)), (0, .ref b)] → W p l e room_1 s m #[Value.ref b] below meth c H locs 600000 7302250 (lw_Z below #[Value.ref b] s) (F0 m 613 ls []))) : W p l e room_1 s m #[Value.ref b] below meth c H locs 600000 7302250 (lw_Z below #[Value.ref b] s) (F0 m 309 ls []) := by
  obtain ⟨hx, hb, hr, hml, hown0, hts0, hX, hbl, hlocks, hgv⟩ := id C0
  have hown : s.vm.findClass RL = some m.cls := hown0
  have hts : ∀ w ∈ wsL_law, w.before #[Value.ref b] s = true := fun w h => hts0 w (wsL_law_in w h)
  have S : qFx p m c cL_law 4 s #[Value.ref b] wsL_law RL meth ret := ⟨hx, hb, hml, hown, hts, hr, hlocks⟩
  have hA : ∀ q : Nat, s.heap.size ≤ q → (fun q : Nat => s.heap.size ≤ q) q := fun _ h => h
  have hbA : ¬ (fun q : Nat => s.heap.size ≤ q) b := Nat.not_le.mpr hbl
  refine lv_aload_n hx hb dL_law_309 rfl (lv_at hl 1 rfl) ?_
  refine lv_aload_n hx hb dL_law_310 rfl (lv_at hl 3 rfl) ?_
  refine lv_iload_n hx hb dL_law_311 rfl (lv_at hl 0 rfl) ?_
  refine lv_iconst (v := 1) hx hb dL_law_312 (by decide) ?_
  refine lv_iadd hx hb dL_law_313 ?_
  refine q_sld hx hb hX hbl hbA hW.2.2.1 (j := i + 1) (by omega) hL (nI_add _ 1) dL_law_314 ?_
  refine lv_aload_n hx hb dL_law_315 rfl (lv_at hl 3 rfl) ?_
  refine lv_iload_n hx hb dL_law_316 rfl (lv_at hl 0 rfl) ?_
  refine lv_iconst (v := 2) hx hb dL_law_317 (by decide) ?_
  refine lv_iadd hx hb dL_law_318 ?_
  refine q_sld hx hb hX hbl hbA hW.2.2.1 (j := i + 2) (by omega) hL (nI_add _ 2) dL_law_319 ?_
  refine lv_aload_n hx hb dL_law_320 rfl (lv_at hl 3 rfl) ?_
  refine lv_iload_n hx hb dL_law_321 rfl (lv_at hl 0 rfl) ?_
  refine lv_iconst (v := 3) hx hb dL_law_322 (by decide) ?_
  refine lv_iadd hx hb dL_law_323 ?_
  refine q_sld hx hb hX hbl hbA hW.2.2.1 (j := i + 3) (by omega) hL (nI_add _ 3) dL_law_324 ?_
  refine q_i (q_runV (As := [.int (xs (i + 1)), .int (xs (i + 2)), .int (xs (i + 3))]) (rest := []) (i := 0) S hW (by decide) rfl rfl (m_addMod l g hg σ hLI.1 hLI.2.1 (xs (i + 1)) (xs (i + 2)) (xs (i + 3))) gL_law_X2_addMod rfl (nA := 3) ⟨rfl, by decide +kernel, ⟨by decide, by decide⟩⟩ rfl hl.1 rfl (Nat.le_of_ble_eq_true rfl) dL_law_325 ⟨Nat.le_refl _, Nat.le_refl _⟩) hW hA (fun r1 σ1 H locs hp1 hW => ?_)
  obtain ⟨haM, hiM⟩ := law_mid hLI hp1
  refine lv_aload_n hx hb dL_law_328 rfl (lv_at hl 2 rfl) ?_
  refine lv_aload_n hx hb dL_law_329 rfl (lv_at hl 3 rfl) ?_
  refine lv_iload_n hx hb dL_law_330 rfl (lv_at hl 0 rfl) ?_
  refine lv_iconst (v := 1) hx hb dL_law_331 (by decide) ?_
  refine lv_iadd hx hb dL_law_332 ?_
  refine q_sld hx hb hX hbl hbA hW.2.2.1 (j := i + 1) (by omega) hL (nI_add _ 1) dL_law_333 ?_
  refine lv_aload_n hx hb dL_law_334 rfl (lv_at hl 3 rfl) ?_
  refine lv_iload_n hx hb dL_law_335 rfl (lv_at hl 0 rfl) ?_
  refine lv_iconst (v := 2) hx hb dL_law_336 (by decide) ?_
  refine lv_iadd hx hb dL_law_337 ?_
  refine q_sld hx hb hX hbl hbA hW.2.2.1 (j := i + 2) (by omega) hL (nI_add _ 2) dL_law_338 ?_
  refine lv_aload_n hx hb dL_law_339 rfl (lv_at hl 3 rfl) ?_
  refine lv_iload_n hx hb dL_law_340 rfl (lv_at hl 0 rfl) ?_
  refine lv_iconst (v := 3) hx hb dL_law_341 (by decide) ?_
  refine lv_iadd hx hb dL_law_342 ?_
  refine q_sld hx hb hX hbl hbA hW.2.2.1 (j := i + 3) (by omega) hL (nI_add _ 3) dL_law_343 ?_
  refine q_i (q_runV (As := [.int (xs (i + 1)), .int (xs (i + 2)), .int (xs (i + 3))]) (rest := [.int r1]) (i := 3) S hW (by decide) rfl rfl (n_addMod l g hg σ1 haM hiM (xs (i + 1)) (xs (i + 2)) (xs (i + 3))) gL_law_X3_addMod rfl (nA := 3) ⟨rfl, by decide +kernel, ⟨by decide, by decide⟩⟩ rfl hl.1 rfl (Nat.le_of_ble_eq_true rfl) dL_law_344 ⟨Nat.le_refl _, Nat.le_refl _⟩) hW hA (fun r2 σ2 H locs hp2 hW => ?_)
  obtain ⟨er, M2, X2, hLI2⟩ := law_step (sp := sReg g.n pAdd (xs (i + 1)) (xs (i + 2)) (xs (i + 3)) M X) hLI hp1 hp2 (o_reg (fun _ _ _ _ _ h h2 => h.trans h2.symm) hg.2.2.2)
  refine lv_icmp_eq (tgt := 613) hx hb dL_law_347 (by decide) (fun _ => ?_) (fun c9 => absurd er c9)
  exact next σ2 M2 X2 H locs ls hLI2 hW hl
set_option maxHeartbeats 4000000 in
set_option maxRecDepth 100000 in
/-- case 8: subMod -/
theorem law_subMod {p : Program} {l : Launch} {e : Env} {s : State} {m : MethodId} {below : List Frame} {meth : Method} {c : Code} {g : qCfg} (hg : g.ok) {b L : Nat} {xs : Nat → Int32} (hL : L ≤ 2050) (C0 : lw_At p s m meth c b L xs) {i : Nat} (hiL : i + 4 ≤ L) {σ : qSt} {M : Nat} {X : Nat → Nat} (hLI : LI g σ M X) {H : Heap} {locs : List Loc} {ls : Array Slot} (hW : Wo g (fun q : Nat => s.heap.size ≤ q) s H locs σ) (hl : lv_has ls 4 [(3, .int (nI i)), (1, .ref (g.P 0)), (2, .ref (g.P 3)), (0, .ref b)]) (next : (∀ (σ2 : qSt) (M2 : Nat) (X2 : Nat → Nat) (H : Heap) (locs : List Loc) (ls : Array Slot), LI g σ2 M2 X2 → Wo g (fun q : Nat => s.heap.size ≤ q) s H locs σ2 → lv_has ls 4 [(3, .int (nI i)), (1, .ref (g.P 0)), (2, .ref (g.P 3)), (0, .ref b)] → W p l e room_1 s m #[Value.ref b] below meth c H locs 600000 7302250 (lw_Z below #[Value.ref b] s) (F0 m 613 ls []))) : W p l e room_1 s m #[Value.ref b] below meth c H locs 600000 7302250 (lw_Z below #[Value.ref b] s) (F0 m 352 ls []) := by
  obtain ⟨hx, hb, hr, hml, hown0, hts0, hX, hbl, hlocks, hgv⟩ := id C0
  have hown : s.vm.findClass RL = some m.cls := hown0
  have hts : ∀ w ∈ wsL_law, w.before #[Value.ref b] s = true := fun w h => hts0 w (wsL_law_in w h)
  have S : qFx p m c cL_law 4 s #[Value.ref b] wsL_law RL meth ret := ⟨hx, hb, hml, hown, hts, hr, hlocks⟩
  have hA : ∀ q : Nat, s.heap.size ≤ q → (fun q : Nat => s.heap.size ≤ q) q := fun _ h => h
  have hbA : ¬ (fun q : Nat => s.heap.size ≤ q) b := Nat.not_le.mpr hbl
  refine lv_aload_n hx hb dL_law_352 rfl (lv_at hl 1 rfl) ?_
  refine lv_aload_n hx hb dL_law_353 rfl (lv_at hl 3 rfl) ?_
  refine lv_iload_n hx hb dL_law_354 rfl (lv_at hl 0 rfl) ?_
  refine lv_iconst (v := 1) hx hb dL_law_355 (by decide) ?_
  refine lv_iadd hx hb dL_law_356 ?_
  refine q_sld hx hb hX hbl hbA hW.2.2.1 (j := i + 1) (by omega) hL (nI_add _ 1) dL_law_357 ?_
  refine lv_aload_n hx hb dL_law_358 rfl (lv_at hl 3 rfl) ?_
  refine lv_iload_n hx hb dL_law_359 rfl (lv_at hl 0 rfl) ?_
  refine lv_iconst (v := 2) hx hb dL_law_360 (by decide) ?_
  refine lv_iadd hx hb dL_law_361 ?_
  refine q_sld hx hb hX hbl hbA hW.2.2.1 (j := i + 2) (by omega) hL (nI_add _ 2) dL_law_362 ?_
  refine lv_aload_n hx hb dL_law_363 rfl (lv_at hl 3 rfl) ?_
  refine lv_iload_n hx hb dL_law_364 rfl (lv_at hl 0 rfl) ?_
  refine lv_iconst (v := 3) hx hb dL_law_365 (by decide) ?_
  refine lv_iadd hx hb dL_law_366 ?_
  refine q_sld hx hb hX hbl hbA hW.2.2.1 (j := i + 3) (by omega) hL (nI_add _ 3) dL_law_367 ?_
  refine q_i (q_runV (As := [.int (xs (i + 1)), .int (xs (i + 2)), .int (xs (i + 3))]) (rest := []) (i := 0) S hW (by decide) rfl rfl (m_subMod l g hg σ hLI.1 hLI.2.1 (xs (i + 1)) (xs (i + 2)) (xs (i + 3))) gL_law_X2_subMod rfl (nA := 3) ⟨rfl, by decide +kernel, ⟨by decide, by decide⟩⟩ rfl hl.1 rfl (Nat.le_of_ble_eq_true rfl) dL_law_368 ⟨Nat.le_refl _, Nat.le_refl _⟩) hW hA (fun r1 σ1 H locs hp1 hW => ?_)
  obtain ⟨haM, hiM⟩ := law_mid hLI hp1
  refine lv_aload_n hx hb dL_law_371 rfl (lv_at hl 2 rfl) ?_
  refine lv_aload_n hx hb dL_law_372 rfl (lv_at hl 3 rfl) ?_
  refine lv_iload_n hx hb dL_law_373 rfl (lv_at hl 0 rfl) ?_
  refine lv_iconst (v := 1) hx hb dL_law_374 (by decide) ?_
  refine lv_iadd hx hb dL_law_375 ?_
  refine q_sld hx hb hX hbl hbA hW.2.2.1 (j := i + 1) (by omega) hL (nI_add _ 1) dL_law_376 ?_
  refine lv_aload_n hx hb dL_law_377 rfl (lv_at hl 3 rfl) ?_
  refine lv_iload_n hx hb dL_law_378 rfl (lv_at hl 0 rfl) ?_
  refine lv_iconst (v := 2) hx hb dL_law_379 (by decide) ?_
  refine lv_iadd hx hb dL_law_380 ?_
  refine q_sld hx hb hX hbl hbA hW.2.2.1 (j := i + 2) (by omega) hL (nI_add _ 2) dL_law_381 ?_
  refine lv_aload_n hx hb dL_law_382 rfl (lv_at hl 3 rfl) ?_
  refine lv_iload_n hx hb dL_law_383 rfl (lv_at hl 0 rfl) ?_
  refine lv_iconst (v := 3) hx hb dL_law_384 (by decide) ?_
  refine lv_iadd hx hb dL_law_385 ?_
  refine q_sld hx hb hX hbl hbA hW.2.2.1 (j := i + 3) (by omega) hL (nI_add _ 3) dL_law_386 ?_
  refine q_i (q_runV (As := [.int (xs (i + 1)), .int (xs (i + 2)), .int (xs (i + 3))]) (rest := [.int r1]) (i := 3) S hW (by decide) rfl rfl (n_subMod l g hg σ1 haM hiM (xs (i + 1)) (xs (i + 2)) (xs (i + 3))) gL_law_X3_subMod rfl (nA := 3) ⟨rfl, by decide +kernel, ⟨by decide, by decide⟩⟩ rfl hl.1 rfl (Nat.le_of_ble_eq_true rfl) dL_law_387 ⟨Nat.le_refl _, Nat.le_refl _⟩) hW hA (fun r2 σ2 H locs hp2 hW => ?_)
  obtain ⟨er, M2, X2, hLI2⟩ := law_step (sp := sReg g.n pSub (xs (i + 1)) (xs (i + 2)) (xs (i + 3)) M X) hLI hp1 hp2 (o_reg (fun _ _ _ _ _ h h2 => h.trans h2.symm) hg.2.2.2)
  refine lv_icmp_eq (tgt := 613) hx hb dL_law_390 (by decide) (fun _ => ?_) (fun c9 => absurd er c9)
  exact next σ2 M2 X2 H locs ls hLI2 hW hl
set_option maxHeartbeats 4000000 in
set_option maxRecDepth 100000 in
/-- case 9: mulMod -/
theorem law_mulMod {p : Program} {l : Launch} {e : Env} {s : State} {m : MethodId} {below : List Frame} {meth : Method} {c : Code} {g : qCfg} (hg : g.ok) {b L : Nat} {xs : Nat → Int32} (hL : L ≤ 2050) (C0 : lw_At p s m meth c b L xs) {i : Nat} (hiL : i + 4 ≤ L) {σ : qSt} {M : Nat} {X : Nat → Nat} (hLI : LI g σ M X) {H : Heap} {locs : List Loc} {ls : Array Slot} (hW : Wo g (fun q : Nat => s.heap.size ≤ q) s H locs σ) (hl : lv_has ls 4 [(3, .int (nI i)), (1, .ref (g.P 0)), (2, .ref (g.P 3)), (0, .ref b)]) (next : (∀ (σ2 : qSt) (M2 : Nat) (X2 : Nat → Nat) (H : Heap) (locs : List Loc) (ls : Array Slot), LI g σ2 M2 X2 → Wo g (fun q : Nat => s.heap.size ≤ q) s H locs σ2 → lv_has ls 4 [(3, .int (nI i)), (1, .ref (g.P 0)), (2, .ref (g.P 3)), (0, .ref b)] → W p l e room_1 s m #[Value.ref b] below meth c H locs 600000 7302250 (lw_Z below #[Value.ref b] s) (F0 m 613 ls []))) : W p l e room_1 s m #[Value.ref b] below meth c H locs 600000 7302250 (lw_Z below #[Value.ref b] s) (F0 m 395 ls []) := by
  obtain ⟨hx, hb, hr, hml, hown0, hts0, hX, hbl, hlocks, hgv⟩ := id C0
  have hown : s.vm.findClass RL = some m.cls := hown0
  have hts : ∀ w ∈ wsL_law, w.before #[Value.ref b] s = true := fun w h => hts0 w (wsL_law_in w h)
  have S : qFx p m c cL_law 4 s #[Value.ref b] wsL_law RL meth ret := ⟨hx, hb, hml, hown, hts, hr, hlocks⟩
  have hA : ∀ q : Nat, s.heap.size ≤ q → (fun q : Nat => s.heap.size ≤ q) q := fun _ h => h
  have hbA : ¬ (fun q : Nat => s.heap.size ≤ q) b := Nat.not_le.mpr hbl
  refine lv_aload_n hx hb dL_law_395 rfl (lv_at hl 1 rfl) ?_
  refine lv_aload_n hx hb dL_law_396 rfl (lv_at hl 3 rfl) ?_
  refine lv_iload_n hx hb dL_law_397 rfl (lv_at hl 0 rfl) ?_
  refine lv_iconst (v := 1) hx hb dL_law_398 (by decide) ?_
  refine lv_iadd hx hb dL_law_399 ?_
  refine q_sld hx hb hX hbl hbA hW.2.2.1 (j := i + 1) (by omega) hL (nI_add _ 1) dL_law_400 ?_
  refine lv_aload_n hx hb dL_law_401 rfl (lv_at hl 3 rfl) ?_
  refine lv_iload_n hx hb dL_law_402 rfl (lv_at hl 0 rfl) ?_
  refine lv_iconst (v := 2) hx hb dL_law_403 (by decide) ?_
  refine lv_iadd hx hb dL_law_404 ?_
  refine q_sld hx hb hX hbl hbA hW.2.2.1 (j := i + 2) (by omega) hL (nI_add _ 2) dL_law_405 ?_
  refine lv_aload_n hx hb dL_law_406 rfl (lv_at hl 3 rfl) ?_
  refine lv_iload_n hx hb dL_law_407 rfl (lv_at hl 0 rfl) ?_
  refine lv_iconst (v := 3) hx hb dL_law_408 (by decide) ?_
  refine lv_iadd hx hb dL_law_409 ?_
  refine q_sld hx hb hX hbl hbA hW.2.2.1 (j := i + 3) (by omega) hL (nI_add _ 3) dL_law_410 ?_
  refine q_i (q_runV (As := [.int (xs (i + 1)), .int (xs (i + 2)), .int (xs (i + 3))]) (rest := []) (i := 0) S hW (by decide) rfl rfl (m_mulMod l g hg σ hLI.1 hLI.2.1 (xs (i + 1)) (xs (i + 2)) (xs (i + 3))) gL_law_X2_mulMod rfl (nA := 3) ⟨rfl, by decide +kernel, ⟨by decide, by decide⟩⟩ rfl hl.1 rfl (Nat.le_of_ble_eq_true rfl) dL_law_411 ⟨Nat.le_refl _, Nat.le_refl _⟩) hW hA (fun r1 σ1 H locs hp1 hW => ?_)
  obtain ⟨haM, hiM⟩ := law_mid hLI hp1
  refine lv_aload_n hx hb dL_law_414 rfl (lv_at hl 2 rfl) ?_
  refine lv_aload_n hx hb dL_law_415 rfl (lv_at hl 3 rfl) ?_
  refine lv_iload_n hx hb dL_law_416 rfl (lv_at hl 0 rfl) ?_
  refine lv_iconst (v := 1) hx hb dL_law_417 (by decide) ?_
  refine lv_iadd hx hb dL_law_418 ?_
  refine q_sld hx hb hX hbl hbA hW.2.2.1 (j := i + 1) (by omega) hL (nI_add _ 1) dL_law_419 ?_
  refine lv_aload_n hx hb dL_law_420 rfl (lv_at hl 3 rfl) ?_
  refine lv_iload_n hx hb dL_law_421 rfl (lv_at hl 0 rfl) ?_
  refine lv_iconst (v := 2) hx hb dL_law_422 (by decide) ?_
  refine lv_iadd hx hb dL_law_423 ?_
  refine q_sld hx hb hX hbl hbA hW.2.2.1 (j := i + 2) (by omega) hL (nI_add _ 2) dL_law_424 ?_
  refine lv_aload_n hx hb dL_law_425 rfl (lv_at hl 3 rfl) ?_
  refine lv_iload_n hx hb dL_law_426 rfl (lv_at hl 0 rfl) ?_
  refine lv_iconst (v := 3) hx hb dL_law_427 (by decide) ?_
  refine lv_iadd hx hb dL_law_428 ?_
  refine q_sld hx hb hX hbl hbA hW.2.2.1 (j := i + 3) (by omega) hL (nI_add _ 3) dL_law_429 ?_
  refine q_i (q_runV (As := [.int (xs (i + 1)), .int (xs (i + 2)), .int (xs (i + 3))]) (rest := [.int r1]) (i := 3) S hW (by decide) rfl rfl (n_mulMod l g hg σ1 haM hiM (xs (i + 1)) (xs (i + 2)) (xs (i + 3))) gL_law_X3_mulMod rfl (nA := 3) ⟨rfl, by decide +kernel, ⟨by decide, by decide⟩⟩ rfl hl.1 rfl (Nat.le_of_ble_eq_true rfl) dL_law_430 ⟨Nat.le_refl _, Nat.le_refl _⟩) hW hA (fun r2 σ2 H locs hp2 hW => ?_)
  obtain ⟨er, M2, X2, hLI2⟩ := law_step (sp := sReg g.n pMul (xs (i + 1)) (xs (i + 2)) (xs (i + 3)) M X) hLI hp1 hp2 (o_reg (fun _ _ _ _ _ h h2 => h.trans h2.symm) hg.2.2.2)
  refine lv_icmp_eq (tgt := 613) hx hb dL_law_433 (by decide) (fun _ => ?_) (fun c9 => absurd er c9)
  exact next σ2 M2 X2 H locs ls hLI2 hW hl
set_option maxHeartbeats 4000000 in
set_option maxRecDepth 100000 in
/-- case 10: montMod -/
theorem law_montMod {p : Program} {l : Launch} {e : Env} {s : State} {m : MethodId} {below : List Frame} {meth : Method} {c : Code} {g : qCfg} (hg : g.ok) {b L : Nat} {xs : Nat → Int32} (hL : L ≤ 2050) (C0 : lw_At p s m meth c b L xs) {i : Nat} (hiL : i + 4 ≤ L) {σ : qSt} {M : Nat} {X : Nat → Nat} (hLI : LI g σ M X) {H : Heap} {locs : List Loc} {ls : Array Slot} (hW : Wo g (fun q : Nat => s.heap.size ≤ q) s H locs σ) (hl : lv_has ls 4 [(3, .int (nI i)), (1, .ref (g.P 0)), (2, .ref (g.P 3)), (0, .ref b)]) (next : (∀ (σ2 : qSt) (M2 : Nat) (X2 : Nat → Nat) (H : Heap) (locs : List Loc) (ls : Array Slot), LI g σ2 M2 X2 → Wo g (fun q : Nat => s.heap.size ≤ q) s H locs σ2 → lv_has ls 4 [(3, .int (nI i)), (1, .ref (g.P 0)), (2, .ref (g.P 3)), (0, .ref b)] → W p l e room_1 s m #[Value.ref b] below meth c H locs 600000 7302250 (lw_Z below #[Value.ref b] s) (F0 m 613 ls []))) : W p l e room_1 s m #[Value.ref b] below meth c H locs 600000 7302250 (lw_Z below #[Value.ref b] s) (F0 m 438 ls []) := by
  obtain ⟨hx, hb, hr, hml, hown0, hts0, hX, hbl, hlocks, hgv⟩ := id C0
  have hown : s.vm.findClass RL = some m.cls := hown0
  have hts : ∀ w ∈ wsL_law, w.before #[Value.ref b] s = true := fun w h => hts0 w (wsL_law_in w h)
  have S : qFx p m c cL_law 4 s #[Value.ref b] wsL_law RL meth ret := ⟨hx, hb, hml, hown, hts, hr, hlocks⟩
  have hA : ∀ q : Nat, s.heap.size ≤ q → (fun q : Nat => s.heap.size ≤ q) q := fun _ h => h
  have hbA : ¬ (fun q : Nat => s.heap.size ≤ q) b := Nat.not_le.mpr hbl
  refine lv_aload_n hx hb dL_law_438 rfl (lv_at hl 1 rfl) ?_
  refine lv_aload_n hx hb dL_law_439 rfl (lv_at hl 3 rfl) ?_
  refine lv_iload_n hx hb dL_law_440 rfl (lv_at hl 0 rfl) ?_
  refine lv_iconst (v := 1) hx hb dL_law_441 (by decide) ?_
  refine lv_iadd hx hb dL_law_442 ?_
  refine q_sld hx hb hX hbl hbA hW.2.2.1 (j := i + 1) (by omega) hL (nI_add _ 1) dL_law_443 ?_
  refine lv_aload_n hx hb dL_law_444 rfl (lv_at hl 3 rfl) ?_
  refine lv_iload_n hx hb dL_law_445 rfl (lv_at hl 0 rfl) ?_
  refine lv_iconst (v := 2) hx hb dL_law_446 (by decide) ?_
  refine lv_iadd hx hb dL_law_447 ?_
  refine q_sld hx hb hX hbl hbA hW.2.2.1 (j := i + 2) (by omega) hL (nI_add _ 2) dL_law_448 ?_
  refine lv_aload_n hx hb dL_law_449 rfl (lv_at hl 3 rfl) ?_
  refine lv_iload_n hx hb dL_law_450 rfl (lv_at hl 0 rfl) ?_
  refine lv_iconst (v := 3) hx hb dL_law_451 (by decide) ?_
  refine lv_iadd hx hb dL_law_452 ?_
  refine q_sld hx hb hX hbl hbA hW.2.2.1 (j := i + 3) (by omega) hL (nI_add _ 3) dL_law_453 ?_
  refine q_i (q_runV (As := [.int (xs (i + 1)), .int (xs (i + 2)), .int (xs (i + 3))]) (rest := []) (i := 0) S hW (by decide) rfl rfl (m_montMod l g hg σ hLI.1 hLI.2.1 (xs (i + 1)) (xs (i + 2)) (xs (i + 3))) gL_law_X2_montMod rfl (nA := 3) ⟨rfl, by decide +kernel, ⟨by decide, by decide⟩⟩ rfl hl.1 rfl (Nat.le_of_ble_eq_true rfl) dL_law_454 ⟨Nat.le_refl _, Nat.le_refl _⟩) hW hA (fun r1 σ1 H locs hp1 hW => ?_)
  obtain ⟨haM, hiM⟩ := law_mid hLI hp1
  refine lv_aload_n hx hb dL_law_457 rfl (lv_at hl 2 rfl) ?_
  refine lv_aload_n hx hb dL_law_458 rfl (lv_at hl 3 rfl) ?_
  refine lv_iload_n hx hb dL_law_459 rfl (lv_at hl 0 rfl) ?_
  refine lv_iconst (v := 1) hx hb dL_law_460 (by decide) ?_
  refine lv_iadd hx hb dL_law_461 ?_
  refine q_sld hx hb hX hbl hbA hW.2.2.1 (j := i + 1) (by omega) hL (nI_add _ 1) dL_law_462 ?_
  refine lv_aload_n hx hb dL_law_463 rfl (lv_at hl 3 rfl) ?_
  refine lv_iload_n hx hb dL_law_464 rfl (lv_at hl 0 rfl) ?_
  refine lv_iconst (v := 2) hx hb dL_law_465 (by decide) ?_
  refine lv_iadd hx hb dL_law_466 ?_
  refine q_sld hx hb hX hbl hbA hW.2.2.1 (j := i + 2) (by omega) hL (nI_add _ 2) dL_law_467 ?_
  refine lv_aload_n hx hb dL_law_468 rfl (lv_at hl 3 rfl) ?_
  refine lv_iload_n hx hb dL_law_469 rfl (lv_at hl 0 rfl) ?_
  refine lv_iconst (v := 3) hx hb dL_law_470 (by decide) ?_
  refine lv_iadd hx hb dL_law_471 ?_
  refine q_sld hx hb hX hbl hbA hW.2.2.1 (j := i + 3) (by omega) hL (nI_add _ 3) dL_law_472 ?_
  refine q_i (q_runV (As := [.int (xs (i + 1)), .int (xs (i + 2)), .int (xs (i + 3))]) (rest := [.int r1]) (i := 3) S hW (by decide) rfl rfl (n_montMod l g hg σ1 haM hiM (xs (i + 1)) (xs (i + 2)) (xs (i + 3))) gL_law_X3_montMod rfl (nA := 3) ⟨rfl, by decide +kernel, ⟨by decide, by decide⟩⟩ rfl hl.1 rfl (Nat.le_of_ble_eq_true rfl) dL_law_473 ⟨Nat.le_refl _, Nat.le_refl _⟩) hW hA (fun r2 σ2 H locs hp2 hW => ?_)
  obtain ⟨er, M2, X2, hLI2⟩ := law_step (sp := sReg g.n (pMon g.k) (xs (i + 1)) (xs (i + 2)) (xs (i + 3)) M X) hLI hp1 hp2 (o_reg (fun _ _ _ _ _ h h2 => pMon_one h h2) hg.2.2.2)
  refine lv_icmp_eq (tgt := 613) hx hb dL_law_476 (by decide) (fun _ => ?_) (fun c9 => absurd er c9)
  exact next σ2 M2 X2 H locs ls hLI2 hW hl
set_option maxHeartbeats 4000000 in
set_option maxRecDepth 100000 in
/-- case 11: powMod -/
theorem law_powMod {p : Program} {l : Launch} {e : Env} {s : State} {m : MethodId} {below : List Frame} {meth : Method} {c : Code} {g : qCfg} (hg : g.ok) {b L : Nat} {xs : Nat → Int32} (hL : L ≤ 2050) (C0 : lw_At p s m meth c b L xs) {i : Nat} (hiL : i + 4 ≤ L) {σ : qSt} {M : Nat} {X : Nat → Nat} (hLI : LI g σ M X) {H : Heap} {locs : List Loc} {ls : Array Slot} (hW : Wo g (fun q : Nat => s.heap.size ≤ q) s H locs σ) (hl : lv_has ls 4 [(3, .int (nI i)), (1, .ref (g.P 0)), (2, .ref (g.P 3)), (0, .ref b)]) (next : (∀ (σ2 : qSt) (M2 : Nat) (X2 : Nat → Nat) (H : Heap) (locs : List Loc) (ls : Array Slot), LI g σ2 M2 X2 → Wo g (fun q : Nat => s.heap.size ≤ q) s H locs σ2 → lv_has ls 4 [(3, .int (nI i)), (1, .ref (g.P 0)), (2, .ref (g.P 3)), (0, .ref b)] → W p l e room_1 s m #[Value.ref b] below meth c H locs 600000 7302250 (lw_Z below #[Value.ref b] s) (F0 m 613 ls []))) : W p l e room_1 s m #[Value.ref b] below meth c H locs 600000 7302250 (lw_Z below #[Value.ref b] s) (F0 m 481 ls []) := by
  obtain ⟨hx, hb, hr, hml, hown0, hts0, hX, hbl, hlocks, hgv⟩ := id C0
  have hown : s.vm.findClass RL = some m.cls := hown0
  have hts : ∀ w ∈ wsL_law, w.before #[Value.ref b] s = true := fun w h => hts0 w (wsL_law_in w h)
  have S : qFx p m c cL_law 4 s #[Value.ref b] wsL_law RL meth ret := ⟨hx, hb, hml, hown, hts, hr, hlocks⟩
  have hA : ∀ q : Nat, s.heap.size ≤ q → (fun q : Nat => s.heap.size ≤ q) q := fun _ h => h
  have hbA : ¬ (fun q : Nat => s.heap.size ≤ q) b := Nat.not_le.mpr hbl
  refine lv_aload_n hx hb dL_law_481 rfl (lv_at hl 1 rfl) ?_
  refine lv_aload_n hx hb dL_law_482 rfl (lv_at hl 3 rfl) ?_
  refine lv_iload_n hx hb dL_law_483 rfl (lv_at hl 0 rfl) ?_
  refine lv_iconst (v := 1) hx hb dL_law_484 (by decide) ?_
  refine lv_iadd hx hb dL_law_485 ?_
  refine q_sld hx hb hX hbl hbA hW.2.2.1 (j := i + 1) (by omega) hL (nI_add _ 1) dL_law_486 ?_
  refine lv_aload_n hx hb dL_law_487 rfl (lv_at hl 3 rfl) ?_
  refine lv_iload_n hx hb dL_law_488 rfl (lv_at hl 0 rfl) ?_
  refine lv_iconst (v := 2) hx hb dL_law_489 (by decide) ?_
  refine lv_iadd hx hb dL_law_490 ?_
  refine q_sld hx hb hX hbl hbA hW.2.2.1 (j := i + 2) (by omega) hL (nI_add _ 2) dL_law_491 ?_
  refine lv_aload_n hx hb dL_law_492 rfl (lv_at hl 3 rfl) ?_
  refine lv_iload_n hx hb dL_law_493 rfl (lv_at hl 0 rfl) ?_
  refine lv_iconst (v := 3) hx hb dL_law_494 (by decide) ?_
  refine lv_iadd hx hb dL_law_495 ?_
  refine q_sld hx hb hX hbl hbA hW.2.2.1 (j := i + 3) (by omega) hL (nI_add _ 3) dL_law_496 ?_
  refine q_i (q_runV (As := [.int (xs (i + 1)), .int (xs (i + 2)), .int (xs (i + 3))]) (rest := []) (i := 0) S hW (by decide) rfl rfl (m_powMod l g hg σ hLI.1 hLI.2.1 (xs (i + 1)) (xs (i + 2)) (xs (i + 3))) gL_law_X2_powMod rfl (nA := 3) ⟨rfl, by decide +kernel, ⟨by decide, by decide⟩⟩ rfl hl.1 rfl (Nat.le_of_ble_eq_true rfl) dL_law_497 ⟨Nat.le_refl _, Nat.le_refl _⟩) hW hA (fun r1 σ1 H locs hp1 hW => ?_)
  obtain ⟨haM, hiM⟩ := law_mid hLI hp1
  refine lv_aload_n hx hb dL_law_500 rfl (lv_at hl 2 rfl) ?_
  refine lv_aload_n hx hb dL_law_501 rfl (lv_at hl 3 rfl) ?_
  refine lv_iload_n hx hb dL_law_502 rfl (lv_at hl 0 rfl) ?_
  refine lv_iconst (v := 1) hx hb dL_law_503 (by decide) ?_
  refine lv_iadd hx hb dL_law_504 ?_
  refine q_sld hx hb hX hbl hbA hW.2.2.1 (j := i + 1) (by omega) hL (nI_add _ 1) dL_law_505 ?_
  refine lv_aload_n hx hb dL_law_506 rfl (lv_at hl 3 rfl) ?_
  refine lv_iload_n hx hb dL_law_507 rfl (lv_at hl 0 rfl) ?_
  refine lv_iconst (v := 2) hx hb dL_law_508 (by decide) ?_
  refine lv_iadd hx hb dL_law_509 ?_
  refine q_sld hx hb hX hbl hbA hW.2.2.1 (j := i + 2) (by omega) hL (nI_add _ 2) dL_law_510 ?_
  refine lv_aload_n hx hb dL_law_511 rfl (lv_at hl 3 rfl) ?_
  refine lv_iload_n hx hb dL_law_512 rfl (lv_at hl 0 rfl) ?_
  refine lv_iconst (v := 3) hx hb dL_law_513 (by decide) ?_
  refine lv_iadd hx hb dL_law_514 ?_
  refine q_sld hx hb hX hbl hbA hW.2.2.1 (j := i + 3) (by omega) hL (nI_add _ 3) dL_law_515 ?_
  refine q_i (q_runV (As := [.int (xs (i + 1)), .int (xs (i + 2)), .int (xs (i + 3))]) (rest := [.int r1]) (i := 3) S hW (by decide) rfl rfl (n_powMod l g hg σ1 haM hiM (xs (i + 1)) (xs (i + 2)) (xs (i + 3))) gL_law_X3_powMod rfl (nA := 3) ⟨rfl, by decide +kernel, ⟨by decide, by decide⟩⟩ rfl hl.1 rfl (Nat.le_of_ble_eq_true rfl) dL_law_516 ⟨Nat.le_refl _, Nat.le_refl _⟩) hW hA (fun r2 σ2 H locs hp2 hW => ?_)
  obtain ⟨er, M2, X2, hLI2⟩ := law_step (sp := sReg g.n pPow (xs (i + 1)) (xs (i + 2)) (xs (i + 3)) M X) hLI hp1 hp2 (o_reg (fun _ _ _ _ _ h h2 => h.trans h2.symm) hg.2.2.2)
  refine lv_icmp_eq (tgt := 613) hx hb dL_law_519 (by decide) (fun _ => ?_) (fun c9 => absurd er c9)
  exact next σ2 M2 X2 H locs ls hLI2 hW hl
set_option maxHeartbeats 4000000 in
set_option maxRecDepth 100000 in
/-- case 12: invMod -/
theorem law_invMod {p : Program} {l : Launch} {e : Env} {s : State} {m : MethodId} {below : List Frame} {meth : Method} {c : Code} {g : qCfg} (hg : g.ok) {b L : Nat} {xs : Nat → Int32} (hL : L ≤ 2050) (C0 : lw_At p s m meth c b L xs) {i : Nat} (hiL : i + 4 ≤ L) {σ : qSt} {M : Nat} {X : Nat → Nat} (hLI : LI g σ M X) {H : Heap} {locs : List Loc} {ls : Array Slot} (hW : Wo g (fun q : Nat => s.heap.size ≤ q) s H locs σ) (hl : lv_has ls 4 [(3, .int (nI i)), (1, .ref (g.P 0)), (2, .ref (g.P 3)), (0, .ref b)]) (next : (∀ (σ2 : qSt) (M2 : Nat) (X2 : Nat → Nat) (H : Heap) (locs : List Loc) (ls : Array Slot), LI g σ2 M2 X2 → Wo g (fun q : Nat => s.heap.size ≤ q) s H locs σ2 → lv_has ls 4 [(3, .int (nI i)), (1, .ref (g.P 0)), (2, .ref (g.P 3)), (0, .ref b)] → W p l e room_1 s m #[Value.ref b] below meth c H locs 600000 7302250 (lw_Z below #[Value.ref b] s) (F0 m 613 ls []))) : W p l e room_1 s m #[Value.ref b] below meth c H locs 600000 7302250 (lw_Z below #[Value.ref b] s) (F0 m 524 ls []) := by
  obtain ⟨hx, hb, hr, hml, hown0, hts0, hX, hbl, hlocks, hgv⟩ := id C0
  have hown : s.vm.findClass RL = some m.cls := hown0
  have hts : ∀ w ∈ wsL_law, w.before #[Value.ref b] s = true := fun w h => hts0 w (wsL_law_in w h)
  have S : qFx p m c cL_law 4 s #[Value.ref b] wsL_law RL meth ret := ⟨hx, hb, hml, hown, hts, hr, hlocks⟩
  have hA : ∀ q : Nat, s.heap.size ≤ q → (fun q : Nat => s.heap.size ≤ q) q := fun _ h => h
  have hbA : ¬ (fun q : Nat => s.heap.size ≤ q) b := Nat.not_le.mpr hbl
  refine lv_aload_n hx hb dL_law_524 rfl (lv_at hl 1 rfl) ?_
  refine lv_aload_n hx hb dL_law_525 rfl (lv_at hl 3 rfl) ?_
  refine lv_iload_n hx hb dL_law_526 rfl (lv_at hl 0 rfl) ?_
  refine lv_iconst (v := 1) hx hb dL_law_527 (by decide) ?_
  refine lv_iadd hx hb dL_law_528 ?_
  refine q_sld hx hb hX hbl hbA hW.2.2.1 (j := i + 1) (by omega) hL (nI_add _ 1) dL_law_529 ?_
  refine lv_aload_n hx hb dL_law_530 rfl (lv_at hl 3 rfl) ?_
  refine lv_iload_n hx hb dL_law_531 rfl (lv_at hl 0 rfl) ?_
  refine lv_iconst (v := 2) hx hb dL_law_532 (by decide) ?_
  refine lv_iadd hx hb dL_law_533 ?_
  refine q_sld hx hb hX hbl hbA hW.2.2.1 (j := i + 2) (by omega) hL (nI_add _ 2) dL_law_534 ?_
  refine q_i (q_runV (As := [.int (xs (i + 1)), .int (xs (i + 2))]) (rest := []) (i := 0) S hW (by decide) rfl rfl (m_invMod l g hg σ hLI.1 hLI.2.1 (xs (i + 1)) (xs (i + 2))) gL_law_X2_invMod rfl (nA := 2) ⟨rfl, by decide +kernel, ⟨by decide, by decide⟩⟩ rfl hl.1 rfl (Nat.le_of_ble_eq_true rfl) dL_law_535 ⟨Nat.le_refl _, Nat.le_refl _⟩) hW hA (fun r1 σ1 H locs hp1 hW => ?_)
  obtain ⟨haM, hiM⟩ := law_mid hLI hp1
  refine lv_aload_n hx hb dL_law_538 rfl (lv_at hl 2 rfl) ?_
  refine lv_aload_n hx hb dL_law_539 rfl (lv_at hl 3 rfl) ?_
  refine lv_iload_n hx hb dL_law_540 rfl (lv_at hl 0 rfl) ?_
  refine lv_iconst (v := 1) hx hb dL_law_541 (by decide) ?_
  refine lv_iadd hx hb dL_law_542 ?_
  refine q_sld hx hb hX hbl hbA hW.2.2.1 (j := i + 1) (by omega) hL (nI_add _ 1) dL_law_543 ?_
  refine lv_aload_n hx hb dL_law_544 rfl (lv_at hl 3 rfl) ?_
  refine lv_iload_n hx hb dL_law_545 rfl (lv_at hl 0 rfl) ?_
  refine lv_iconst (v := 2) hx hb dL_law_546 (by decide) ?_
  refine lv_iadd hx hb dL_law_547 ?_
  refine q_sld hx hb hX hbl hbA hW.2.2.1 (j := i + 2) (by omega) hL (nI_add _ 2) dL_law_548 ?_
  refine q_i (q_runV (As := [.int (xs (i + 1)), .int (xs (i + 2))]) (rest := [.int r1]) (i := 3) S hW (by decide) rfl rfl (n_invMod l g hg σ1 haM hiM (xs (i + 1)) (xs (i + 2))) gL_law_X3_invMod rfl (nA := 2) ⟨rfl, by decide +kernel, ⟨by decide, by decide⟩⟩ rfl hl.1 rfl (Nat.le_of_ble_eq_true rfl) dL_law_549 ⟨Nat.le_refl _, Nat.le_refl _⟩) hW hA (fun r2 σ2 H locs hp2 hW => ?_)
  obtain ⟨er, M2, X2, hLI2⟩ := law_step (sp := sInv g.n (xs (i + 1)) (xs (i + 2)) M X) hLI hp1 hp2 (o_inv hg.2.2.2)
  refine lv_icmp_eq (tgt := 613) hx hb dL_law_552 (by decide) (fun _ => ?_) (fun c9 => absurd er c9)
  exact next σ2 M2 X2 H locs ls hLI2 hW hl
set_option maxHeartbeats 4000000 in
set_option maxRecDepth 100000 in
/-- case 13: witness -/
theorem law_witness {p : Program} {l : Launch} {e : Env} {s : State} {m : MethodId} {below : List Frame} {meth : Method} {c : Code} {g : qCfg} (hg : g.ok) {b L : Nat} {xs : Nat → Int32} (hL : L ≤ 2050) (C0 : lw_At p s m meth c b L xs) {i : Nat} (hiL : i + 4 ≤ L) {σ : qSt} {M : Nat} {X : Nat → Nat} (hLI : LI g σ M X) {H : Heap} {locs : List Loc} {ls : Array Slot} (hW : Wo g (fun q : Nat => s.heap.size ≤ q) s H locs σ) (hl : lv_has ls 4 [(3, .int (nI i)), (1, .ref (g.P 0)), (2, .ref (g.P 3)), (0, .ref b)]) (next : (∀ (σ2 : qSt) (M2 : Nat) (X2 : Nat → Nat) (H : Heap) (locs : List Loc) (ls : Array Slot), LI g σ2 M2 X2 → Wo g (fun q : Nat => s.heap.size ≤ q) s H locs σ2 → lv_has ls 4 [(3, .int (nI i)), (1, .ref (g.P 0)), (2, .ref (g.P 3)), (0, .ref b)] → W p l e room_1 s m #[Value.ref b] below meth c H locs 600000 7302250 (lw_Z below #[Value.ref b] s) (F0 m 613 ls []))) : W p l e room_1 s m #[Value.ref b] below meth c H locs 600000 7302250 (lw_Z below #[Value.ref b] s) (F0 m 557 ls []) := by
  obtain ⟨hx, hb, hr, hml, hown0, hts0, hX, hbl, hlocks, hgv⟩ := id C0
  have hown : s.vm.findClass RL = some m.cls := hown0
  have hts : ∀ w ∈ wsL_law, w.before #[Value.ref b] s = true := fun w h => hts0 w (wsL_law_in w h)
  have S : qFx p m c cL_law 4 s #[Value.ref b] wsL_law RL meth ret := ⟨hx, hb, hml, hown, hts, hr, hlocks⟩
  have hA : ∀ q : Nat, s.heap.size ≤ q → (fun q : Nat => s.heap.size ≤ q) q := fun _ h => h
  have hbA : ¬ (fun q : Nat => s.heap.size ≤ q) b := Nat.not_le.mpr hbl
  refine lv_aload_n hx hb dL_law_557 rfl (lv_at hl 1 rfl) ?_
  refine lv_aload_n hx hb dL_law_558 rfl (lv_at hl 3 rfl) ?_
  refine lv_iload_n hx hb dL_law_559 rfl (lv_at hl 0 rfl) ?_
  refine lv_iconst (v := 1) hx hb dL_law_560 (by decide) ?_
  refine lv_iadd hx hb dL_law_561 ?_
  refine q_sld hx hb hX hbl hbA hW.2.2.1 (j := i + 1) (by omega) hL (nI_add _ 1) dL_law_562 ?_
  refine q_i (q_runV (As := [.int (xs (i + 1))]) (rest := []) (i := 0) S hW (by decide) rfl rfl (m_witness l g hg σ hLI.1 hLI.2.1 (xs (i + 1))) gL_law_X2_witness rfl (nA := 1) ⟨rfl, by decide +kernel, ⟨by decide, by decide⟩⟩ rfl hl.1 rfl (Nat.le_of_ble_eq_true rfl) dL_law_563 ⟨Nat.le_refl _, Nat.le_refl _⟩) hW hA (fun r1 σ1 H locs hp1 hW => ?_)
  obtain ⟨haM, hiM⟩ := law_mid hLI hp1
  refine lv_aload_n hx hb dL_law_566 rfl (lv_at hl 2 rfl) ?_
  refine lv_aload_n hx hb dL_law_567 rfl (lv_at hl 3 rfl) ?_
  refine lv_iload_n hx hb dL_law_568 rfl (lv_at hl 0 rfl) ?_
  refine lv_iconst (v := 1) hx hb dL_law_569 (by decide) ?_
  refine lv_iadd hx hb dL_law_570 ?_
  refine q_sld hx hb hX hbl hbA hW.2.2.1 (j := i + 1) (by omega) hL (nI_add _ 1) dL_law_571 ?_
  refine q_i (q_runV (As := [.int (xs (i + 1))]) (rest := [.int r1]) (i := 3) S hW (by decide) rfl rfl (n_witness l g hg σ1 haM hiM (xs (i + 1))) gL_law_X3_witness rfl (nA := 1) ⟨rfl, by decide +kernel, ⟨by decide, by decide⟩⟩ rfl hl.1 rfl (Nat.le_of_ble_eq_true rfl) dL_law_572 ⟨Nat.le_refl _, Nat.le_refl _⟩) hW hA (fun r2 σ2 H locs hp2 hW => ?_)
  obtain ⟨er, M2, X2, hLI2⟩ := law_step (sp := sWit g.n (xs (i + 1)) M X) hLI hp1 hp2 (o_wit hg.2.2.2)
  refine lv_icmp_eq (tgt := 613) hx hb dL_law_575 (by decide) (fun _ => ?_) (fun c9 => absurd er c9)
  exact next σ2 M2 X2 H locs ls hLI2 hW hl
set_option maxHeartbeats 4000000 in
set_option maxRecDepth 100000 in
/-- case 14: compare -/
theorem law_compare {p : Program} {l : Launch} {e : Env} {s : State} {m : MethodId} {below : List Frame} {meth : Method} {c : Code} {g : qCfg} (hg : g.ok) {b L : Nat} {xs : Nat → Int32} (hL : L ≤ 2050) (C0 : lw_At p s m meth c b L xs) {i : Nat} (hiL : i + 4 ≤ L) {σ : qSt} {M : Nat} {X : Nat → Nat} (hLI : LI g σ M X) {H : Heap} {locs : List Loc} {ls : Array Slot} (hW : Wo g (fun q : Nat => s.heap.size ≤ q) s H locs σ) (hl : lv_has ls 4 [(3, .int (nI i)), (1, .ref (g.P 0)), (2, .ref (g.P 3)), (0, .ref b)]) (next : (∀ (σ2 : qSt) (M2 : Nat) (X2 : Nat → Nat) (H : Heap) (locs : List Loc) (ls : Array Slot), LI g σ2 M2 X2 → Wo g (fun q : Nat => s.heap.size ≤ q) s H locs σ2 → lv_has ls 4 [(3, .int (nI i)), (1, .ref (g.P 0)), (2, .ref (g.P 3)), (0, .ref b)] → W p l e room_1 s m #[Value.ref b] below meth c H locs 600000 7302250 (lw_Z below #[Value.ref b] s) (F0 m 613 ls []))) : W p l e room_1 s m #[Value.ref b] below meth c H locs 600000 7302250 (lw_Z below #[Value.ref b] s) (F0 m 580 ls []) := by
  obtain ⟨hx, hb, hr, hml, hown0, hts0, hX, hbl, hlocks, hgv⟩ := id C0
  have hown : s.vm.findClass RL = some m.cls := hown0
  have hts : ∀ w ∈ wsL_law, w.before #[Value.ref b] s = true := fun w h => hts0 w (wsL_law_in w h)
  have S : qFx p m c cL_law 4 s #[Value.ref b] wsL_law RL meth ret := ⟨hx, hb, hml, hown, hts, hr, hlocks⟩
  have hA : ∀ q : Nat, s.heap.size ≤ q → (fun q : Nat => s.heap.size ≤ q) q := fun _ h => h
  have hbA : ¬ (fun q : Nat => s.heap.size ≤ q) b := Nat.not_le.mpr hbl
  refine lv_aload_n hx hb dL_law_580 rfl (lv_at hl 1 rfl) ?_
  refine lv_aload_n hx hb dL_law_581 rfl (lv_at hl 3 rfl) ?_
  refine lv_iload_n hx hb dL_law_582 rfl (lv_at hl 0 rfl) ?_
  refine lv_iconst (v := 1) hx hb dL_law_583 (by decide) ?_
  refine lv_iadd hx hb dL_law_584 ?_
  refine q_sld hx hb hX hbl hbA hW.2.2.1 (j := i + 1) (by omega) hL (nI_add _ 1) dL_law_585 ?_
  refine lv_aload_n hx hb dL_law_586 rfl (lv_at hl 3 rfl) ?_
  refine lv_iload_n hx hb dL_law_587 rfl (lv_at hl 0 rfl) ?_
  refine lv_iconst (v := 2) hx hb dL_law_588 (by decide) ?_
  refine lv_iadd hx hb dL_law_589 ?_
  refine q_sld hx hb hX hbl hbA hW.2.2.1 (j := i + 2) (by omega) hL (nI_add _ 2) dL_law_590 ?_
  refine q_i (q_runV (As := [.int (xs (i + 1)), .int (xs (i + 2))]) (rest := []) (i := 0) S hW (by decide) rfl rfl (m_compare l g hg σ hLI.1 hLI.2.1 (xs (i + 1)) (xs (i + 2))) gL_law_X2_compare rfl (nA := 2) ⟨rfl, by decide +kernel, ⟨by decide, by decide⟩⟩ rfl hl.1 rfl (Nat.le_of_ble_eq_true rfl) dL_law_591 ⟨Nat.le_refl _, Nat.le_refl _⟩) hW hA (fun r1 σ1 H locs hp1 hW => ?_)
  obtain ⟨haM, hiM⟩ := law_mid hLI hp1
  refine lv_aload_n hx hb dL_law_594 rfl (lv_at hl 2 rfl) ?_
  refine lv_aload_n hx hb dL_law_595 rfl (lv_at hl 3 rfl) ?_
  refine lv_iload_n hx hb dL_law_596 rfl (lv_at hl 0 rfl) ?_
  refine lv_iconst (v := 1) hx hb dL_law_597 (by decide) ?_
  refine lv_iadd hx hb dL_law_598 ?_
  refine q_sld hx hb hX hbl hbA hW.2.2.1 (j := i + 1) (by omega) hL (nI_add _ 1) dL_law_599 ?_
  refine lv_aload_n hx hb dL_law_600 rfl (lv_at hl 3 rfl) ?_
  refine lv_iload_n hx hb dL_law_601 rfl (lv_at hl 0 rfl) ?_
  refine lv_iconst (v := 2) hx hb dL_law_602 (by decide) ?_
  refine lv_iadd hx hb dL_law_603 ?_
  refine q_sld hx hb hX hbl hbA hW.2.2.1 (j := i + 2) (by omega) hL (nI_add _ 2) dL_law_604 ?_
  refine q_i (q_runV (As := [.int (xs (i + 1)), .int (xs (i + 2))]) (rest := [.int r1]) (i := 3) S hW (by decide) rfl rfl (n_compare l g hg σ1 haM hiM (xs (i + 1)) (xs (i + 2))) gL_law_X3_compare rfl (nA := 2) ⟨rfl, by decide +kernel, ⟨by decide, by decide⟩⟩ rfl hl.1 rfl (Nat.le_of_ble_eq_true rfl) dL_law_605 ⟨Nat.le_refl _, Nat.le_refl _⟩) hW hA (fun r2 σ2 H locs hp2 hW => ?_)
  obtain ⟨er, M2, X2, hLI2⟩ := law_step (sp := sCmp g.n (xs (i + 1)) (xs (i + 2)) M X) hLI hp1 hp2 (o_cmp hg.2.2.2)
  refine lv_icmp_eq (tgt := 613) hx hb dL_law_608 (by decide) (fun _ => ?_) (fun c9 => absurd er c9)
  exact next σ2 M2 X2 H locs ls hLI2 hW hl
