/-! ===== the start ===== -/
/-- the int rows of a new system: all 0, but 'one' -/
def F00 : Nat → Nat → Int32 := fun i => if i = 13 then upd (fun _ => 0) 0 1 else fun _ => 0
def σ00 : qSt := (F00, (0, 0), (fun _ _ => 0), 0)
def P00 (q0 q3 : Nat) (Qe Qm : Nat → Nat) : Nat → Nat := fun i => if i = 0 then q0 else if i = 3 then q3 else if 4 ≤ i ∧ i < 12 then Qm i else Qe i
def g00 (D : va_G) (cI cJ cO : ClassId) (q0 q3 : Nat) (Qe Qm : Nat → Nat) (k n : Nat) : qCfg := (D, (cI, cJ, cO), P00 q0 q3 Qe Qm, (k, n))
def pos00 (i : Nat) : Nat := if i = 0 then 9 else if i = 1 then 11 else if i = 2 then 10 else if i < 12 then i - 3 else i
def inv00 (p : Nat) : Nat := if p = 9 then 0 else if p = 11 then 1 else if p = 10 then 2 else if p < 9 then p + 3 else p
theorem pos00_inv (i : Nat) : inv00 (pos00 i) = i := by
  unfold pos00
  by_cases h0 : i = 0
  · rw [if_pos h0, h0]; rfl
  · rw [if_neg h0]
    by_cases h1 : i = 1
    · rw [if_pos h1, h1]; rfl
    · rw [if_neg h1]
      by_cases h2 : i = 2
      · rw [if_pos h2, h2]; rfl
      · rw [if_neg h2]
        unfold inv00
        by_cases h3 : i < 12
        · rw [if_pos h3, if_neg (by omega), if_neg (by omega), if_neg (by omega), if_pos (by omega)]; omega
        · rw [if_neg h3, if_neg (by omega), if_neg (by omega), if_neg (by omega), if_neg (by omega)]
theorem pos00_inj {i j : Nat} (h : pos00 i = pos00 j) : i = j := by rw [← pos00_inv i, h, pos00_inv]
theorem P00_hi {q0 q3 : Nat} {Qe Qm : Nat → Nat} {i : Nat} (h : 12 ≤ i) : P00 q0 q3 Qe Qm i = Qe i := by
  unfold P00
  rw [if_neg (by omega), if_neg (by omega), if_neg (by omega)]
set_option maxHeartbeats 4000000 in
set_option maxRecDepth 100000 in
theorem wl00 {D : va_G} {cI cJ cO : ClassId} {q0 q3 : Nat} {Qe Qm : Nat → Nat} {k n : Nat} : ∀ (i : Nat) (q : Nat × va_E), (wl (g00 D cI cJ cO q0 q3 Qe Qm k n) σ00)[i]? = some q → (modW cJ q3 k n Qm ++ engW cI cO q0 k n Qe)[pos00 i]? = some q := by
  intro i q hq
  obtain ⟨hi, rfl⟩ := wl_in hq
  have hN : i < 21 + n := hi
  by_cases h21 : i < 21
  · have hout : (fun r => if r < n then some (Qe (21 + r)) else none) = (fun r => if r < n then some (P00 q0 q3 Qe Qm (21 + r)) else none) := by
      funext r
      rw [P00_hi (by omega)]
    rcases (show i = 0 ∨ i = 1 ∨ i = 2 ∨ i = 3 ∨ i = 4 ∨ i = 5 ∨ i = 6 ∨ i = 7 ∨ i = 8 ∨ i = 9 ∨ i = 10 ∨ i = 11 ∨ i = 12 ∨ i = 13 ∨ i = 14 ∨ i = 15 ∨ i = 16 ∨ i = 17 ∨ i = 18 ∨ i = 19 ∨ i = 20 by omega) with rfl | rfl | rfl | rfl | rfl | rfl | rfl | rfl | rfl | rfl | rfl | rfl | rfl | rfl | rfl | rfl | rfl | rfl | rfl | rfl | rfl
    · rfl
    · rfl
    · show some (Qe 2, (Sum.inl (cO, n, .inr (.inr (.inr (.inr (fun r => if r < n then some (Qe (21 + r)) else none))))) : va_E)) = some (Qe 2, Sum.inl (cO, n, .inr (.inr (.inr (.inr (fun r => if r < n then some (P00 q0 q3 Qe Qm (21 + r)) else none))))))
      rw [hout]
    · rfl
    · rfl
    · rfl
    · rfl
    · rfl
    · rfl
    · rfl
    · rfl
    · rfl
    · rfl
    · rfl
    · rfl
    · rfl
    · rfl
    · rfl
    · rfl
    · rfl
    · rfl
  · have hp : pos00 i = i := by
      unfold pos00
      rw [if_neg (by omega), if_neg (by omega), if_neg (by omega), if_neg (by omega)]
    obtain ⟨r, rfl⟩ : ∃ r, i = 21 + r := ⟨i - 21, by omega⟩
    rw [hp, cel_I (by omega)]
    obtain ⟨pre, hpre, hlen⟩ : ∃ pre : va_W, modW cJ q3 k n Qm ++ engW cI cO q0 k n Qe = pre ++ rowsW cI k n (fun i => Qe (21 + i)) ∧ pre.length = 21 := ⟨_, by unfold engW; rw [← List.append_assoc], rfl⟩
    rw [hpre, List.getElem?_append_right (by omega), hlen, show 21 + r - 21 = r by omega]
    unfold rowsW
    rw [List.getElem?_map, List.getElem?_range (by omega)]
    have e3 : (g00 D cI cJ cO q0 q3 Qe Qm k n).P (21 + r) = Qe (21 + r) := P00_hi (by omega)
    have e4 : σ00.F (21 + r) = fun _ => 0 := by
      show F00 (21 + r) = _
      unfold F00
      rw [if_neg (by omega)]
    rw [e3, e4]
    rfl
theorem Nh00 (r : Nat) : Nh (fun _ _ => 0) r 0 := ⟨fun x _ => by show uL 0 < _; decide, dv_zero (fun x _ => by show uL 0 = 0; decide)⟩
theorem LI00 {D : va_G} {cI cJ cO : ClassId} {q0 q3 : Nat} {Qe Qm : Nat → Nat} {k n : Nat} (hk : 1 ≤ k) : LI (g00 D cI cJ cO q0 q3 Qe Qm k n) σ00 0 (fun _ => 0) := by
  have h0 : ∀ i, i ≠ 13 → qV (g00 D cI cJ cO q0 q3 Qe Qm k n) σ00.F i = 0 := fun i hi => by
    show rv (F00 i) k = 0
    unfold F00
    rw [if_neg hi]
    exact dv_zero (fun x _ => uI_0)
  refine ⟨⟨?_, Or.inl rfl, fun q => absurd (show (0 : Int32) = 1 from q) (by decide)⟩, ⟨h0 12 (by decide), fun r _ => h0 _ (by omega)⟩, ⟨Nh00 8, Nat.pow_pos (by decide), fun r _ => ⟨Nh00 r, Nat.pow_pos (by decide)⟩⟩, ⟨Or.inl rfl, fun q => absurd (show (0 : Int32) = 1 from q) (by decide)⟩, rfl⟩
  show rv (F00 13) k = 1
  unfold F00
  rw [if_pos rfl]
  show dv (fun x => uI (upd (fun _ => 0) 0 1 x)) k = 1
  rw [dv_one hk (fun x h1 _ => by rw [pk_un (by omega)]; exact uI_0), pk_us]
  exact uI_1
set_option maxHeartbeats 4000000 in
set_option maxRecDepth 100000 in
/-- THE LAW, from its entry -/
theorem whole_start {p : Program} {e : Env} {s : State} {m : MethodId} {below : List Frame} {meth : Method} {c : Code} (l : Launch) {b L : Nat} {xs : Nat → Int32} (hL : L ≤ 2050) (C0 : lw_At p s m meth c b L xs) : W p l e room_1 s m #[Value.ref b] below meth c s.heap [] 0 0 (lw_Z below #[Value.ref b] s) (entryFrame m ([Value.ref b] : List Value).toArray 4) := by
  obtain ⟨hx, hb, hr, hml, hown0, hts0, hX, hbl, hlocks, hgv⟩ := id C0
  have hown : s.vm.findClass RL = some m.cls := hown0
  have hts : ∀ w ∈ wsL_law, w.before #[Value.ref b] s = true := fun w h => hts0 w (wsL_law_in w h)
  have hA : ∀ q : Nat, s.heap.size ≤ q → (fun q : Nat => s.heap.size ≤ q) q := fun _ h => h
  have hbA : ¬ (fun q : Nat => s.heap.size ≤ q) b := Nat.not_le.mpr hbl
  obtain ⟨cX1, iX1, hKnX1⟩ := u_known (C := RX1) (T := TX1) (N := 12) (n := 12) hts0 inX1 (hts0 (.instantiable RX1 12) (by decide +kernel))
  obtain ⟨cX2, iX2, hKnX2⟩ := u_known (C := RX2) (T := TX2) (N := 5) (n := 5) hts0 inX2 (hts0 (.instantiable RX2 5) (by decide +kernel))
  obtain ⟨cX3, iX3, hKnX3⟩ := u_known (C := RX3) (T := TX3) (N := 11) (n := 11) hts0 inX3 (hts0 (.instantiable RX3 11) (by decide +kernel))
  obtain ⟨D, hKc⟩ : ∃ D : va_G, ∀ (k : Nat) (q : vw_C), vwCl[k]? = some q → u_Kn s q.1 q.2.1 q.2.2 (D.1 k) (D.2 k) := by
    refine ⟨(fun k => if k = 0 then cX1 else if k = 1 then cX2 else cX3, fun k => if k = 0 then iX1 else if k = 1 then iX2 else iX3), ?_⟩
    intro k q hq
    match k, hq with
    | 0, hq => cases hq; exact hKnX1
    | 1, hq => cases hq; exact hKnX2
    | 2, hq => cases hq; exact hKnX3
    | k + 3, hq => simp [vwCl] at hq
  obtain ⟨cI, kI, compI, fI1, fI2, fI3⟩ := Cond.arrayClass_spec (hts0 (.arrayClass .int) (by decide +kernel))
  obtain ⟨cJ, kJ, compJ, fJ1, fJ2, fJ3⟩ := Cond.arrayClass_spec (hts0 (.arrayClass .long) (by decide +kernel))
  have hAO : va_AOA .int s := va_AOA.of (hts0 (.arrayOver (.array .int)) (by decide +kernel))
  have hKi : va_K D vwCl [(cI, .int)] s := ⟨hKc, fun k q h => by
    have h9 : k < 1 := (List.getElem?_eq_some_iff.mp h).1
    rw [show k = 0 by omega] at h
    cases h
    exact ⟨fun n z => ⟨fun k h => (by cases h), kI, fI2, compI, fI3⟩, fI1⟩⟩
  have hKj : va_K D vwCl [(cJ, .long)] s := ⟨hKc, fun k q h => by
    have h9 : k < 1 := (List.getElem?_eq_some_iff.mp h).1
    rw [show k = 0 by omega] at h
    cases h
    exact ⟨fun n z => ⟨fun k h => (by cases h), kJ, fJ2, compJ, fJ3⟩, fJ1⟩⟩
  have hS : va_S (fun q : Nat => s.heap.size ≤ q) s.heap s.heap [] := va_S.rf
  have hP : va_P D vwCl [] s.heap := fun k q h => by simp at h
  have hD : va_D (fun q : Nat => s.heap.size ≤ q) [] := ⟨fun i j p q h => by simp at h, fun k q h => by simp at h⟩
  have hl := lv_entry ([.ref b]) (n := 4) (Nat.le_of_ble_eq_true rfl)
  rw [lg_entry_eq]
  generalize (lg_sl ([.ref b]) ++ List.replicate (4 - (lg_sl ([.ref b])).length) Slot.unset).toArray = ls at hl ⊢
  have hl : lv_has ls 4 [(0, .ref b)] := hl
  refine va_new (D := D) (cl := vwCl) (ci := 1) (fs := [.int 0, .int 0, .null, .null, .int 0]) (C := RX2) (T := TX2) (N := 5) hx hb hts inlX2 tyX2 tyX2_ok hown (hts0 (.classLink RL 7 RX2) (by decide +kernel)) (hts0 (.instantiable RX2 5) (by decide +kernel)) (hts0 (.initialized RX2) (by decide +kernel)) hKi hP hD hS hA rfl (fun j hj => by rcases (show j = 0 ∨ j = 1 ∨ j = 2 ∨ j = 3 ∨ j = 4 by omega) with rfl | rfl | rfl | rfl | rfl <;> rfl) (Nat.le_of_ble_eq_true rfl) (Nat.le_of_ble_eq_true rfl) dL_law_0 (fun q0 H hP hD hS => ?_)
  have hP : va_P D vwCl [(q0, .inr (1, [.int 0, .int 0, .null, .null, .int 0]))] H := hP
  have hD : va_D (fun q : Nat => s.heap.size ≤ q) [(q0, .inr (1, [.int 0, .int 0, .null, .null, .int 0]))] := hD
  refine W.widen (k := 1) (n := 5) (by omega) (by omega) ?_
  refine lv_dup hx hb dL_law_3 rfl ?_
  refine lv_aload_n hx hb dL_law_4 rfl (lv_at hl 0 rfl) ?_
  refine lv_iconst (v := 0) hx hb dL_law_5 (by decide) ?_
  refine va_calli (va_runS (As := [.ref b, .int (nI 0)]) (rest := [.ref q0, .ref q0]) ⟨hx, hb, hml, hown, hts⟩ (p_cell l b L 0 xs hL (by decide)) (va_cwS 2 hts gL_law_L_cell rfl rfl rfl (by decide +kernel) ⟨by decide, by decide⟩) ⟨fun a9 U g9 mk q9 => ⟨q9.1, va_X.moved (u := U) (U := U.calling g9 mk a9) (Vm.Alike.refl U.vm) q9.2.1, q9.2.2⟩, fun U hU hWm => ⟨rfl, by rw [hU]; exact va_X.moved hWm.alike (va_X.kept hX (hS.2.1 b hbl hbA)), by rw [hU]; exact Nat.lt_of_lt_of_le hbl hS.1⟩⟩ rfl rfl hl.1 rfl (lv_room (Nat.le_of_ble_eq_true rfl)) dL_law_6 ⟨Nat.le_of_ble_eq_true rfl, Nat.le_of_ble_eq_true rfl⟩) hS (fun _ _ h => h.elim) (fun _ h => h.elim) (fun ra u9 t9 H1 locs ht9 hvm9 hwra hB9 hz9 hk9 hS => ?_)
  have hP := hP.kept (fun k9 q9 h9 => hk9 q9.1 ((hP k9 q9 h9).lt) (fun z => z))
  clear hk9 hz9
  generalize H1 = H at hP hS ⊢
  refine lv_aload_n hx hb dL_law_9 rfl (lv_at hl 0 rfl) ?_
  refine lv_iconst (v := 1) hx hb dL_law_10 (by decide) ?_
  refine va_calli (va_runS (As := [.ref b, .int (nI 1)]) (rest := [.int ra, .ref q0, .ref q0]) ⟨hx, hb, hml, hown, hts⟩ (p_cell l b L 1 xs hL (by decide)) (va_cwS 2 hts gL_law_L_cell rfl rfl rfl (by decide +kernel) ⟨by decide, by decide⟩) ⟨fun a9 U g9 mk q9 => ⟨q9.1, va_X.moved (u := U) (U := U.calling g9 mk a9) (Vm.Alike.refl U.vm) q9.2.1, q9.2.2⟩, fun U hU hWm => ⟨rfl, by rw [hU]; exact va_X.moved hWm.alike (va_X.kept hX (hS.2.1 b hbl hbA)), by rw [hU]; exact Nat.lt_of_lt_of_le hbl hS.1⟩⟩ rfl rfl hl.1 rfl (lv_room (Nat.le_of_ble_eq_true rfl)) dL_law_11 ⟨Nat.le_of_ble_eq_true rfl, Nat.le_of_ble_eq_true rfl⟩) hS (fun _ _ h => h.elim) (fun _ h => h.elim) (fun rb u9 t9 H1 locs ht9 hvm9 hwrb hB9 hz9 hk9 hS => ?_)
  have hP := hP.kept (fun k9 q9 h9 => hk9 q9.1 ((hP k9 q9 h9).lt) (fun z => z))
  clear hk9 hz9
  generalize H1 = H at hP hS ⊢
  have hFc := free_one hD hS hA (i := 0) (x := (q0, .inr (1, [.int 0, .int 0, .null, .null, .int 0]))) rfl
  refine va_callv (va_runI (As := [.int ra, .int rb]) (rest := [.ref q0]) ⟨hx, hb, hml, hown, hts⟩ (c_engine l D cI q0 H.size ra rb) (cwI 2 hts gL_law_X2_init rfl rfl rfl (hts0 (.initialized RX2) (by decide +kernel)) (hts0 (.methodLink RL 15 yX2_init) (by decide +kernel)) (hts0 (.instanceMethod yX2_init) (by decide +kernel)) rfl (by decide +kernel) ⟨by decide, by decide⟩) ⟨fun a9 U g9 mk q9 => by obtain ⟨z0, z1, zP, zK, zD, zA⟩ := q9; exact ⟨z0, z1, zP, va_K.moved (u := U) (U := U.calling g9 mk a9) (Vm.Alike.refl U.vm) zK, zD, va_AOA.moved (u := U) (U := U.calling g9 mk a9) (Vm.Alike.refl U.vm) zA⟩, fun U hU hWm => ⟨rfl, by rw [hU], by rw [hU]; exact hP, va_K.moved hWm.alike hKi, va_D_one trivial, va_AOA.moved hWm.alike hAO⟩⟩ rfl rfl hl.1 rfl (lv_room (Nat.le_of_ble_eq_true rfl)) dL_law_14 ⟨Nat.le_of_ble_eq_true rfl, Nat.le_of_ble_eq_true rfl⟩) hS (fun q9 _ h => hFc q9 h) hFc (fun u t H1 locs ht hvm hw hB hz1 hk1 hS => ?_)
  obtain ⟨Qe, cO⟩ := u
  obtain ⟨hP1, hK1, hD1⟩ := hB
  rw [ht] at hP1
  have hK1 := va_K.moved hvm.symm hK1
  obtain ⟨hP, hD⟩ := va_join (wr := []) (w1 := engW cI cO q0 (cl8 ra) (cl8 rb) Qe) hP hD [0] [] rfl rfl (by decide) (by decide) hk1 hFc hP1 hD1
  clear hk1 hz1 hFc hP1 hD1
  generalize H1 = H at hP hS ⊢
  have hP : va_P D vwCl (engW cI cO q0 (cl8 ra) (cl8 rb) Qe) H := hP
  have hD : va_D (fun q : Nat => s.heap.size ≤ q) (engW cI cO q0 (cl8 ra) (cl8 rb) Qe) := hD
  have hK1 : va_K D vwCl [(cI, .int), (cO, .array .int)] s := hK1
  refine W.widen (k := 20) (n := 161) (by omega) (by omega) ?_
  refine lv_astore_n (lv' := [(1, .ref q0), (0, .ref b)]) hx hb dL_law_17 rfl hl (by decide) rfl (fun ls hl => ?_)
  refine va_new (D := D) (cl := vwCl) (ci := 2) (fs := [.int 0, .int 0, .null, .int 0, .null, .null, .null, .null, .null, .null, .null]) (C := RX3) (T := TX3) (N := 11) hx hb hts inlX3 tyX3 tyX3_ok hown (hts0 (.classLink RL 18 RX3) (by decide +kernel)) (hts0 (.instantiable RX3 11) (by decide +kernel)) (hts0 (.initialized RX3) (by decide +kernel)) hK1 hP hD hS hA rfl (fun j hj => by rcases (show j = 0 ∨ j = 1 ∨ j = 2 ∨ j = 3 ∨ j = 4 ∨ j = 5 ∨ j = 6 ∨ j = 7 ∨ j = 8 ∨ j = 9 ∨ j = 10 by omega) with rfl | rfl | rfl | rfl | rfl | rfl | rfl | rfl | rfl | rfl | rfl <;> rfl) (Nat.le_of_ble_eq_true rfl) (Nat.le_of_ble_eq_true rfl) dL_law_18 (fun q3 H hP hD hS => ?_)
  have hP : va_P D vwCl ([(q3, .inr (2, [.int 0, .int 0, .null, .int 0, .null, .null, .null, .null, .null, .null, .null]))] ++ engW cI cO q0 (cl8 ra) (cl8 rb) Qe) H := va_P.swap (a := []) hP
  have hD : va_D (fun q : Nat => s.heap.size ≤ q) ([(q3, .inr (2, [.int 0, .int 0, .null, .int 0, .null, .null, .null, .null, .null, .null, .null]))] ++ engW cI cO q0 (cl8 ra) (cl8 rb) Qe) := va_D.swap (a := []) hD
  refine W.widen (k := 21) (n := 172) (by omega) (by omega) ?_
  refine lv_dup hx hb dL_law_21 rfl ?_
  refine lv_aload_n hx hb dL_law_22 rfl (lv_at hl 1 rfl) ?_
  refine lv_iconst (v := 0) hx hb dL_law_23 (by decide) ?_
  refine va_calli (va_runS (As := [.ref b, .int (nI 0)]) (rest := [.ref q3, .ref q3]) ⟨hx, hb, hml, hown, hts⟩ (p_cell l b L 0 xs hL (by decide)) (va_cwS 2 hts gL_law_L_cell rfl rfl rfl (by decide +kernel) ⟨by decide, by decide⟩) ⟨fun a9 U g9 mk q9 => ⟨q9.1, va_X.moved (u := U) (U := U.calling g9 mk a9) (Vm.Alike.refl U.vm) q9.2.1, q9.2.2⟩, fun U hU hWm => ⟨rfl, by rw [hU]; exact va_X.moved hWm.alike (va_X.kept hX (hS.2.1 b hbl hbA)), by rw [hU]; exact Nat.lt_of_lt_of_le hbl hS.1⟩⟩ rfl rfl hl.1 rfl (lv_room (Nat.le_of_ble_eq_true rfl)) dL_law_24 ⟨Nat.le_of_ble_eq_true rfl, Nat.le_of_ble_eq_true rfl⟩) hS (fun _ _ h => h.elim) (fun _ h => h.elim) (fun rc u9 t9 H1 locs ht9 hvm9 hwrc hB9 hz9 hk9 hS => ?_)
  have hP := hP.kept (fun k9 q9 h9 => hk9 q9.1 ((hP k9 q9 h9).lt) (fun z => z))
  clear hk9 hz9
  generalize H1 = H at hP hS ⊢
  refine lv_aload_n hx hb dL_law_27 rfl (lv_at hl 1 rfl) ?_
  refine lv_iconst (v := 1) hx hb dL_law_28 (by decide) ?_
  refine va_calli (va_runS (As := [.ref b, .int (nI 1)]) (rest := [.int rc, .ref q3, .ref q3]) ⟨hx, hb, hml, hown, hts⟩ (p_cell l b L 1 xs hL (by decide)) (va_cwS 2 hts gL_law_L_cell rfl rfl rfl (by decide +kernel) ⟨by decide, by decide⟩) ⟨fun a9 U g9 mk q9 => ⟨q9.1, va_X.moved (u := U) (U := U.calling g9 mk a9) (Vm.Alike.refl U.vm) q9.2.1, q9.2.2⟩, fun U hU hWm => ⟨rfl, by rw [hU]; exact va_X.moved hWm.alike (va_X.kept hX (hS.2.1 b hbl hbA)), by rw [hU]; exact Nat.lt_of_lt_of_le hbl hS.1⟩⟩ rfl rfl hl.1 rfl (lv_room (Nat.le_of_ble_eq_true rfl)) dL_law_29 ⟨Nat.le_of_ble_eq_true rfl, Nat.le_of_ble_eq_true rfl⟩) hS (fun _ _ h => h.elim) (fun _ h => h.elim) (fun rd u9 t9 H1 locs ht9 hvm9 hwrd hB9 hz9 hk9 hS => ?_)
  have hP := hP.kept (fun k9 q9 h9 => hk9 q9.1 ((hP k9 q9 h9).lt) (fun z => z))
  clear hk9 hz9
  generalize H1 = H at hP hS ⊢
  have ec : rc = ra := hwrc.trans hwra.symm
  have ed : rd = rb := hwrd.trans hwrb.symm
  have hFc := free_one hD hS hA (i := 0) (x := (q3, .inr (2, [.int 0, .int 0, .null, .int 0, .null, .null, .null, .null, .null, .null, .null]))) rfl
  have hPc := va_P_one hP (i := 0) (x := (q3, .inr (2, [.int 0, .int 0, .null, .int 0, .null, .null, .null, .null, .null, .null, .null]))) rfl
  refine va_callv (va_runI (As := [.int rc, .int rd]) (rest := [.ref q3]) ⟨hx, hb, hml, hown, hts⟩ (c_model l D cJ q3 H.size rc rd) (cwI 2 hts gL_law_X3_init rfl rfl rfl (hts0 (.initialized RX3) (by decide +kernel)) (hts0 (.methodLink RL 20 yX3_init) (by decide +kernel)) (hts0 (.instanceMethod yX3_init) (by decide +kernel)) rfl (by decide +kernel) ⟨by decide, by decide⟩) ⟨fun a9 U g9 mk q9 => by obtain ⟨z0, z1, zP, zK, zD⟩ := q9; exact ⟨z0, z1, zP, va_K.moved (u := U) (U := U.calling g9 mk a9) (Vm.Alike.refl U.vm) zK, zD⟩, fun U hU hWm => ⟨rfl, by rw [hU], by rw [hU]; exact hPc, va_K.moved hWm.alike hKj, va_D_one trivial⟩⟩ rfl rfl hl.1 rfl (lv_room (Nat.le_of_ble_eq_true rfl)) dL_law_32 ⟨Nat.le_of_ble_eq_true rfl, Nat.le_of_ble_eq_true rfl⟩) hS (fun q9 _ h => hFc q9 h) hFc (fun Qm t H1 locs ht hvm hw hB hz1 hk1 hS => ?_)
  obtain ⟨hP1, -, hD1⟩ := hB
  rw [ht] at hP1
  obtain ⟨hP, hD⟩ := va_joinQ (X := [(q3, .inr (2, [.int 0, .int 0, .null, .int 0, .null, .null, .null, .null, .null, .null, .null]))]) (cx := [(q3, .inr (2, [.int 0, .int 0, .null, .int 0, .null, .null, .null, .null, .null, .null, .null]))]) (wr := []) (w1 := modW cJ q3 (cl8 rc) (cl8 rd) Qm) (pl := engW cI cO q0 (cl8 ra) (cl8 rb) Qe) hP hD [0] [] rfl rfl (by decide) (by decide) hk1 hFc hP1 hD1
  clear hk1 hz1 hFc hP1 hD1 hPc
  generalize H1 = H at hP hS ⊢
  rw [ec, ed] at hP hD
  have hP : va_P D vwCl (modW cJ q3 (cl8 ra) (cl8 rb) Qm ++ engW cI cO q0 (cl8 ra) (cl8 rb) Qe) H := hP
  have hD : va_D (fun q : Nat => s.heap.size ≤ q) (modW cJ q3 (cl8 ra) (cl8 rb) Qm ++ engW cI cO q0 (cl8 ra) (cl8 rb) Qe) := hD
  have hka := cl8_in ra
  have hkb := cl8_in rb
  have hok : (g00 D cI cJ cO q0 q3 Qe Qm (cl8 ra) (cl8 rb)).ok := ⟨hka.1, hka.2, hkb.1, hkb.2⟩
  have hP2 := hP.by pos00 (wl00 (D := D) (cI := cI) (cJ := cJ) (cO := cO) (q0 := q0) (q3 := q3) (Qe := Qe) (Qm := Qm) (k := cl8 ra) (n := cl8 rb))
  have hD2 := hD.by pos00 (wl00 (D := D) (cI := cI) (cJ := cJ) (cO := cO) (q0 := q0) (q3 := q3) (Qe := Qe) (Qm := Qm) (k := cl8 ra) (n := cl8 rb)) (fun i j _ _ h => pos00_inj h)
  have hK2 : va_K (g00 D cI cJ cO q0 q3 Qe Qm (cl8 ra) (cl8 rb)).D vwCl (tyl (g00 D cI cJ cO q0 q3 Qe Qm (cl8 ra) (cl8 rb))) s := ⟨hKc, fun k q h => by
    match k, h with
    | 0, h => exact hK1.2 0 _ h
    | 1, h => exact hKj.2 0 _ h
    | 2, h => exact hK1.2 1 _ h
    | k + 3, h => simp [tyl] at h⟩
  have hW : Wo (g00 D cI cJ cO q0 q3 Qe Qm (cl8 ra) (cl8 rb)) (fun q : Nat => s.heap.size ≤ q) s H locs σ00 := ⟨hP2, hD2, hS, hK2⟩
  refine W.widen (k := 600000) (n := 7302250) (by omega) (by omega) ?_
  refine lv_astore_n (lv' := [(2, .ref q3), (1, .ref q0), (0, .ref b)]) hx hb dL_law_35 rfl hl (by decide) rfl (fun ls hl => ?_)
  refine lv_iconst (v := 2) hx hb dL_law_36 (by decide) ?_
  refine lv_istore_n (lv' := [(3, .int 2), (2, .ref q3), (1, .ref q0), (0, .ref b)]) hx hb dL_law_37 rfl hl (by decide) rfl (fun ls hl => ?_)
  exact law_loop hok hL C0 2060 2 σ00 0 (fun _ => 0) (by omega) (by omega) (LI00 hka.1) H locs ls hW (lv_sub hl [0, 2, 1, 3] rfl)
