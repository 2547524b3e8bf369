/-! ===== starts with the end left open: the walk's Q is a name ===== -/
section QS
variable {l : Launch} {g : qCfg} {y : MethodName} {ws ws' : List Cond} {fr lo : Nat} {As : List Value} {σ : qSt} {cc : ByteArray} {maxL : Nat}
theorem q_sV {post : qSt → Prop} (hy : plainName y.cls = true) (hw : ws = Cond.code y cc maxL none :: ws') (hL : (lg_sl As).length ≤ maxL)
    (body : ∀ (p : Program) (e : Env) (s : State) (m : MethodId) (args : Array Value) (below : List Frame) (meth : Method) (c : Code) (ls : Array Slot) (Q : State → Prop), qFx p m c cc maxL s args ws y.cls meth none → Wo g (Ad g s.heap.size) s s.heap [] σ → lv_has ls maxL (lv_args 0 As) →
      (∀ (σ' : qSt) (H : Heap) (locs : List Loc) (pc : Nat) (ls : Array Slot), Wo g (Ad g s.heap.size) s H locs σ' → post σ' → decode cc pc = .ok (.return_, 1) → W p l e (rmm fr lo) s m args below meth c H locs 0 0 Q (F0 m pc ls [])) →
      W p l e (rmm fr lo) s m args below meth c s.heap [] 0 0 Q (F0 m 0 ls [])) : qCV l g y ws fr lo As σ post := by
  refine q_start (Qc := fun sz => va_Qv post (qOu g sz) (Ad g sz)) hy hw hL ?_
  intro p e s m below meth c ls S hW hl
  exact body p e s m _ below meth c ls _ S hW hl (fun σ' H locs pc ls hW hp hd => q_vret S.1 S.2.1 S.2.2.2.2.2.1 S.2.2.2.2.2.2 hW hp hd)
theorem q_sI {post : Int32 → qSt → Prop} (hy : plainName y.cls = true) (hw : ws = Cond.code y cc maxL (some .int) :: ws') (hL : (lg_sl As).length ≤ maxL)
    (body : ∀ (p : Program) (e : Env) (s : State) (m : MethodId) (args : Array Value) (below : List Frame) (meth : Method) (c : Code) (ls : Array Slot) (Q : State → Prop), qFx p m c cc maxL s args ws y.cls meth (some .int) → Wo g (Ad g s.heap.size) s s.heap [] σ → lv_has ls maxL (lv_args 0 As) →
      (∀ (r : Int32) (σ' : qSt) (H : Heap) (locs : List Loc) (pc : Nat) (ls : Array Slot), Wo g (Ad g s.heap.size) s H locs σ' → post r σ' → decode cc pc = .ok (.ireturn, 1) → W p l e (rmm fr lo) s m args below meth c H locs 0 0 Q (F0 m pc ls [.int r])) →
      W p l e (rmm fr lo) s m args below meth c s.heap [] 0 0 Q (F0 m 0 ls [])) : qCI l g y ws fr lo As σ post := by
  refine q_start (Qc := fun sz => va_Qi post (qOu g sz) (Ad g sz)) hy hw hL ?_
  intro p e s m below meth c ls S hW hl
  exact body p e s m _ below meth c ls _ S hW hl (fun r σ' H locs pc ls hW hp hd => q_iret S.1 S.2.1 S.2.2.2.2.2.1 S.2.2.2.2.2.2 hW hp hd)
theorem q_sZ {post : Int32 → qSt → Prop} (hy : plainName y.cls = true) (hw : ws = Cond.code y cc maxL (some .boolean) :: ws') (hL : (lg_sl As).length ≤ maxL)
    (body : ∀ (p : Program) (e : Env) (s : State) (m : MethodId) (args : Array Value) (below : List Frame) (meth : Method) (c : Code) (ls : Array Slot) (Q : State → Prop), qFx p m c cc maxL s args ws y.cls meth (some .boolean) → Wo g (Ad g s.heap.size) s s.heap [] σ → lv_has ls maxL (lv_args 0 As) →
      (∀ (r : Int32) (σ' : qSt) (H : Heap) (locs : List Loc) (pc : Nat) (ls : Array Slot), r = 0 ∨ r = 1 → Wo g (Ad g s.heap.size) s H locs σ' → post r σ' → decode cc pc = .ok (.ireturn, 1) → W p l e (rmm fr lo) s m args below meth c H locs 0 0 Q (F0 m pc ls [.int r])) →
      W p l e (rmm fr lo) s m args below meth c s.heap [] 0 0 Q (F0 m 0 ls [])) : qCI l g y ws fr lo As σ post := by
  refine q_start (Qc := fun sz => va_Qi post (qOu g sz) (Ad g sz)) hy hw hL ?_
  intro p e s m below meth c ls S hW hl
  exact body p e s m _ below meth c ls _ S hW hl (fun r σ' H locs pc ls hn hW hp hd => q_zret S.1 S.2.1 S.2.2.2.2.2.1 S.2.2.2.2.2.2 hW hn hp hd)
theorem q_sL {post : Int64 → qSt → Prop} (hy : plainName y.cls = true) (hw : ws = Cond.code y cc maxL (some .long) :: ws') (hL : (lg_sl As).length ≤ maxL)
    (body : ∀ (p : Program) (e : Env) (s : State) (m : MethodId) (args : Array Value) (below : List Frame) (meth : Method) (c : Code) (ls : Array Slot) (Q : State → Prop), qFx p m c cc maxL s args ws y.cls meth (some .long) → Wo g (Ad g s.heap.size) s s.heap [] σ → lv_has ls maxL (lv_args 0 As) →
      (∀ (r : Int64) (σ' : qSt) (H : Heap) (locs : List Loc) (pc : Nat) (ls : Array Slot), Wo g (Ad g s.heap.size) s H locs σ' → post r σ' → decode cc pc = .ok (.lreturn, 1) → W p l e (rmm fr lo) s m args below meth c H locs 0 0 Q (F0 m pc ls [.long r])) →
      W p l e (rmm fr lo) s m args below meth c s.heap [] 0 0 Q (F0 m 0 ls [])) : qCL l g y ws fr lo As σ post := by
  refine q_start (Qc := fun sz => va_Ql post (qOu g sz) (Ad g sz)) hy hw hL ?_
  intro p e s m below meth c ls S hW hl
  exact body p e s m _ below meth c ls _ S hW hl (fun r σ' H locs pc ls hW hp hd => q_lret S.1 S.2.1 S.2.2.2.2.2.1 S.2.2.2.2.2.2 hW hp hd)
end QS
/-! ===== one int row changed ===== -/
def qSt.setR (σ : qSt) (i : Nat) (h : Nat → Int32) : qSt := σ.setF (va_up σ.F i h)
theorem va_up_same {α : Type} (f : Nat → α) (i : Nat) : va_up f i (f i) = f := by
  funext j
  by_cases h : j = i
  · subst h
    exact va_up_self _ _ _
  · exact va_up_ne _ _ h
theorem va_up_twice {α : Type} (f : Nat → α) (i : Nat) (a b : α) : va_up (va_up f i a) i b = va_up f i b := by
  funext j
  by_cases h : j = i
  · subst h
    rw [va_up_self, va_up_self]
  · rw [va_up_ne _ _ h, va_up_ne _ _ h, va_up_ne _ _ h]
theorem setR_self (σ : qSt) (i : Nat) : σ.setR i (σ.F i) = σ := by
  unfold qSt.setR
  rw [va_up_same]
  rfl
theorem setR_at (σ : qSt) (i : Nat) (h : Nat → Int32) : (σ.setR i h).F i = h := va_up_self _ _ _
theorem setR_ne (σ : qSt) {i j : Nat} (h : Nat → Int32) (hj : j ≠ i) : (σ.setR i h).F j = σ.F j := va_up_ne _ _ hj
theorem setR_twice (σ : qSt) (i : Nat) (h h2 : Nat → Int32) : (σ.setR i h).setR i h2 = σ.setR i h2 := by
  show ((va_up (va_up σ.F i h) i h2, σ.2) : qSt) = (va_up σ.F i h2, σ.2)
  rw [va_up_twice]
/-- a place that isn't reached yet is read as it was -/
theorem rdk {σ : qSt} {i : Nat} {h : Nat → Int32} {x : Nat} (hh : h x = σ.F i x) (j : Nat) : (σ.setR i h).F j x = σ.F j x := by
  by_cases hj : j = i
  · subst hj
    rw [setR_at, hh]
  · rw [setR_ne _ _ hj]
theorem rowk {g : qCfg} {i : Nat} (h : 12 ≤ i ∧ i < 21) : 12 ≤ i ∧ i < g.N := ⟨h.1, by unfold qCfg.N; omega⟩
theorem rowr {g : qCfg} {r : Nat} (h : r < g.n) : 12 ≤ 21 + r ∧ 21 + r < g.N := ⟨by omega, by unfold qCfg.N; omega⟩
section QT
variable {p : Program} {l : Launch} {e : Env} {R : Room} {s : State} {m : MethodId} {args : Array Value} {below : List Frame} {meth : Method} {c : Code} {H : Heap} {locs : List Loc} {cells slots : Nat} {Q : State → Prop}
variable {cc : ByteArray} {pc : Nat} {ls : Array Slot} {rest st : List Value} {A : Nat → Prop} {g : qCfg} {σ : qSt}
theorem q_ti {x y : Int32} (h : x = y) (k : W p l e R s m args below meth c H locs cells slots Q (F0 m pc ls (.int y :: rest))) : W p l e R s m args below meth c H locs cells slots Q (F0 m pc ls (.int x :: rest)) := by
  rw [h]
  exact k
theorem q_tl {x y : Int64} (h : x = y) (k : W p l e R s m args below meth c H locs cells slots Q (F0 m pc ls (.long y :: rest))) : W p l e R s m args below meth c H locs cells slots Q (F0 m pc ls (.long x :: rest)) := by
  rw [h]
  exact k
theorem q_iastR (hx : p.tables.exec = Jvm.exec) (hb : c.code = cc) {i : Nat} {h : Nat → Int32} (hW : Wo g A s H locs (σ.setR i h)) {j : Nat} {x v : Int32} (hi : 12 ≤ i ∧ i < g.N) (hj : j < g.k) (hk : g.k ≤ 8) (ej : x = nI j) (hdg : decode cc pc = .ok (.iastore, 1))
    (kk : ∀ (H1 : Heap) (locs1 : List Loc), Wo g A s H1 locs1 (σ.setR i (upd h j v)) → W p l e R s m args below meth c H1 locs1 cells slots Q (F0 m (pc + 1) ls rest)) : W p l e R s m args below meth c H locs cells slots Q (F0 m pc ls (.int v :: .int x :: .ref (g.P i) :: rest)) := by
  refine q_iast hx hb hW hi hj hk ej hdg (fun H1 locs1 hW1 => kk H1 locs1 ?_)
  have e1 : (σ.setR i h).setR i (upd ((σ.setR i h).F i) j v) = σ.setR i (upd h j v) := by rw [setR_at, setR_twice]
  rw [← e1]
  exact hW1
end QT
