/-! ===== the system's state in plain words, the list of its cells, and rows over it ===== -/
/-- what stays for a whole run: slots and ids, the array kinds, the addresses of the cells, limbs and registers -/
def qCfg : Type := va_G × (ClassId × ClassId × ClassId) × (Nat → Nat) × (Nat × Nat)
def qCfg.D (g : qCfg) : va_G := g.1
def qCfg.cI (g : qCfg) : ClassId := g.2.1.1
def qCfg.cJ (g : qCfg) : ClassId := g.2.1.2.1
def qCfg.cO (g : qCfg) : ClassId := g.2.1.2.2
def qCfg.P (g : qCfg) : Nat → Nat := g.2.2.1
def qCfg.k (g : qCfg) : Nat := g.2.2.2.1
def qCfg.n (g : qCfg) : Nat := g.2.2.2.2
def qCfg.N (g : qCfg) : Nat := 21 + g.n
def qCfg.ok (g : qCfg) : Prop := 1 ≤ g.k ∧ g.k ≤ 8 ∧ 1 ≤ g.n ∧ g.n ≤ 8
/-- what moves: the int rows by their numbers, minusInverse and isReady, the long rows by their numbers, the reference's isReady -/
def qSt : Type := (Nat → Nat → Int32) × (Int32 × Int32) × (Nat → Nat → Int64) × Int32
def qSt.F (σ : qSt) : Nat → Nat → Int32 := σ.1
def qSt.mi (σ : qSt) : Int32 := σ.2.1.1
def qSt.rd (σ : qSt) : Int32 := σ.2.1.2
def qSt.J (σ : qSt) : Nat → Nat → Int64 := σ.2.2.1
def qSt.rm (σ : qSt) : Int32 := σ.2.2.2
def qSt.setF (σ : qSt) (F : Nat → Nat → Int32) : qSt := (F, σ.2)
def qSt.setMi (σ : qSt) (v : Int32) : qSt := (σ.1, (v, σ.2.1.2), σ.2.2)
def qSt.setRd (σ : qSt) (v : Int32) : qSt := (σ.1, (σ.2.1.1, v), σ.2.2)
def qSt.setJ (σ : qSt) (J : Nat → Nat → Int64) : qSt := (σ.1, σ.2.1, J, σ.2.2.2)
def qSt.setRm (σ : qSt) (v : Int32) : qSt := (σ.1, σ.2.1, σ.2.2.1, v)
def cel (g : qCfg) (σ : qSt) (i : Nat) : va_E := match i with
  | 0 => .inr (1, [.int (nI g.k), .int (nI g.n), .ref (g.P 2), .ref (g.P 1), .int σ.rd])
  | 1 => .inr (0, [.ref (g.P 12), .int (nI g.k), .int (nI (32 * g.k)), .ref (g.P 13), .ref (g.P 14), .ref (g.P 15), .ref (g.P 16), .ref (g.P 17), .ref (g.P 18), .ref (g.P 19), .ref (g.P 20), .int σ.mi])
  | 2 => .inl (g.cO, g.n, .inr (.inr (.inr (.inr (fun r => if r < g.n then some (g.P (21 + r)) else none)))))
  | 3 => .inr (2, [.int (nI g.k), .int (nI g.n), .ref (g.P 4), .int σ.rm, .ref (g.P 5), .ref (g.P 6), .ref (g.P 7), .ref (g.P 8), .ref (g.P 9), .ref (g.P 10), .ref (g.P 11)])
  | 4 => .inl (g.cJ, 81, .inr (.inl (σ.J 4)))
  | j + 5 => if j + 5 < 12 then .inl (g.cJ, 9, .inr (.inl (σ.J (j + 5)))) else .inl (g.cI, g.k, .inl (σ.F (j + 5)))
theorem cel_I {g : qCfg} {σ : qSt} {i : Nat} (h : 12 ≤ i) : cel g σ i = .inl (g.cI, g.k, .inl (σ.F i)) := by
  obtain ⟨j, rfl⟩ : ∃ j, i = j + 5 := ⟨i - 5, by omega⟩
  show (if j + 5 < 12 then _ else _) = _
  rw [if_neg (by omega)]
theorem cel_J {g : qCfg} {σ : qSt} {i : Nat} (h : 5 ≤ i) (h2 : i < 12) : cel g σ i = .inl (g.cJ, 9, .inr (.inl (σ.J i))) := by
  obtain ⟨j, rfl⟩ : ∃ j, i = j + 5 := ⟨i - 5, by omega⟩
  show (if j + 5 < 12 then _ else _) = _
  rw [if_pos h2]
def wl (g : qCfg) (σ : qSt) : va_W := (List.range g.N).map (fun i => (g.P i, cel g σ i))
theorem wl_get {g : qCfg} {σ : qSt} {i : Nat} (h : i < g.N) : (wl g σ)[i]? = some (g.P i, cel g σ i) := by
  unfold wl
  rw [List.getElem?_map, List.getElem?_range h]
  rfl
theorem wl_none {g : qCfg} {σ : qSt} {i : Nat} (h : ¬ i < g.N) : (wl g σ)[i]? = none := by
  apply List.getElem?_eq_none
  unfold wl
  rw [List.length_map, List.length_range]
  omega
theorem wl_len {g : qCfg} {σ : qSt} : (wl g σ).length = g.N := by
  unfold wl
  rw [List.length_map, List.length_range]
theorem wl_in {g : qCfg} {σ : qSt} {i : Nat} {q : Nat × va_E} (h : (wl g σ)[i]? = some q) : i < g.N ∧ q = (g.P i, cel g σ i) := by
  by_cases hi : i < g.N
  · rw [wl_get hi] at h
    exact ⟨hi, (Option.some.inj h).symm⟩
  · rw [wl_none hi] at h
    cases h
theorem wl_set {g : qCfg} {σ σ' : qSt} {i : Nat} {e : va_E} (h : i < g.N) (hi : cel g σ' i = e) (ho : ∀ j, j ≠ i → cel g σ' j = cel g σ j) : (wl g σ).set i (g.P i, e) = wl g σ' := by
  apply List.ext_getElem?
  intro j
  rw [List.getElem?_set]
  by_cases hij : i = j
  · subst hij
    rw [if_pos rfl, wl_len, if_pos h, wl_get h, hi]
  · rw [if_neg hij]
    by_cases hj : j < g.N
    · rw [wl_get hj, wl_get hj, ho j (fun q => hij q.symm)]
    · rw [wl_none hj, wl_none hj]
def tyl (g : qCfg) : List (ClassId × FieldType) := [(g.cI, .int), (g.cJ, .long), (g.cO, .array .int)]
/-- the cells that a call may change: the system's, and new ones -/
def Ad (g : qCfg) (sz : Nat) : Nat → Prop := fun q => (∃ i, i < g.N ∧ q = g.P i) ∨ sz ≤ q
theorem wl_D {g : qCfg} {σ σ' : qSt} {A : Nat → Prop} (h : va_D A (wl g σ)) : va_D A (wl g σ') := by
  refine ⟨fun i j p q hi hj hpq => ?_, fun k q hk => ?_⟩
  · obtain ⟨h1, rfl⟩ := wl_in hi
    obtain ⟨h2, rfl⟩ := wl_in hj
    exact h.1 i j _ _ (wl_get h1) (wl_get h2) hpq
  · obtain ⟨h1, rfl⟩ := wl_in hk
    exact h.2 k (g.P k, cel g σ k) (wl_get h1)
theorem wl_self {g : qCfg} {σ : qSt} {sz : Nat} {A : Nat → Prop} (h : va_D A (wl g σ)) : va_D (Ad g sz) (wl g σ) := ⟨h.1, fun k q hk => by
  obtain ⟨h1, rfl⟩ := wl_in hk
  exact Or.inl ⟨k, h1, rfl⟩⟩
/-- the world in a walk: the cells, apart and in A, what was written since the start, the tables -/
def Wo (g : qCfg) (A : Nat → Prop) (s : State) (H : Heap) (locs : List Loc) (σ : qSt) : Prop := va_P g.D vwCl (wl g σ) H ∧ va_D A (wl g σ) ∧ va_S A s.heap H locs ∧ va_K g.D vwCl (tyl g) s
def qIn (g : qCfg) (σ : qSt) (sz : Nat) (U : State) : Prop := U.heap.size = sz ∧ va_P g.D vwCl (wl g σ) U.heap ∧ va_K g.D vwCl (tyl g) U ∧ va_D (fun _ => True) (wl g σ)
def qOu (g : qCfg) (sz : Nat) (σ : qSt) (t : State) : Prop := va_P g.D vwCl (wl g σ) t.heap ∧ va_K g.D vwCl (tyl g) t ∧ va_D (Ad g sz) (wl g σ)
abbrev rmm (fr lo : Nat) : Room := { frames := fr, cells := 0, slots := 0, locals := lo }
/-- contracts over the system's world: an int (or boolean), a long, nothing -/
abbrev qCI (l : Launch) (g : qCfg) (y : MethodName) (ws : List Cond) (fr lo : Nat) (As : List Value) (σ : qSt) (post : Int32 → qSt → Prop) : Prop :=
  ∀ sz : Nat, Met l y ws (rmm fr lo) (va_Pc As (qIn g σ sz)) (va_Qi post (qOu g sz) (Ad g sz)) 0 0 (Ad g sz)
abbrev qCL (l : Launch) (g : qCfg) (y : MethodName) (ws : List Cond) (fr lo : Nat) (As : List Value) (σ : qSt) (post : Int64 → qSt → Prop) : Prop :=
  ∀ sz : Nat, Met l y ws (rmm fr lo) (va_Pc As (qIn g σ sz)) (va_Ql post (qOu g sz) (Ad g sz)) 0 0 (Ad g sz)
abbrev qCV (l : Launch) (g : qCfg) (y : MethodName) (ws : List Cond) (fr lo : Nat) (As : List Value) (σ : qSt) (post : qSt → Prop) : Prop :=
  ∀ sz : Nat, Met l y ws (rmm fr lo) (va_Pc As (qIn g σ sz)) (va_Qv post (qOu g sz) (Ad g sz)) 0 0 (Ad g sz)
abbrev qFx (p : Program) (m : MethodId) (c : Code) (cc : ByteArray) (nL : Nat) (s : State) (args : Array Value) (Ts : List Cond) (own : String) (meth : Method) (ret : Option FieldType) : Prop :=
  p.tables.exec = Jvm.exec ∧ c.code = cc ∧ c.maxLocals = nL ∧ s.vm.findClass own = some m.cls ∧ (∀ w ∈ Ts, w.before args s = true) ∧ meth.sig.returnType = ret ∧ meth.locks = false
theorem q_start {l : Launch} {g : qCfg} {y : MethodName} {ws ws' : List Cond} {fr lo : Nat} {As : List Value} {σ : qSt} {Qc : Nat → Array Value → State → Outcome → State → Prop} {cc : ByteArray} {maxL : Nat} {ret : Option FieldType} (hy : plainName y.cls = true) (hw : ws = Cond.code y cc maxL ret :: ws') (hL : (lg_sl As).length ≤ maxL)
    (body : ∀ (p : Program) (e : Env) (s : State) (m : MethodId) (below : List Frame) (meth : Method) (c : Code) (ls : Array Slot), qFx p m c cc maxL s As.toArray ws y.cls meth ret → Wo g (Ad g s.heap.size) s s.heap [] σ → lv_has ls maxL (lv_args 0 As) →
      W p l e (rmm fr lo) s m As.toArray below meth c s.heap [] 0 0 (MQ below (Qc s.heap.size) As.toArray s 0 0 (Ad g s.heap.size)) (F0 m 0 ls [])) : ∀ sz : Nat, Met l y ws (rmm fr lo) (va_Pc As (qIn g σ sz)) (Qc sz) 0 0 (Ad g sz) := by
  intro sz
  refine Met.ofW (cc := cc) (maxL := maxL) (ret := ret) hy hw ?_
  intro p e s m args below meth c s₁ B hml hv
  obtain ⟨rfl, hsz, hP, hK, hD0⟩ := hv
  subst hsz
  rw [lg_entry_eq]
  exact body p e s m below meth c _ ⟨B.exec, B.bytes, hml, findClass_of_methodNamed B.named, atoms_spec (ws := ws) B.pre, B.returns, B.notSynchronized⟩ ⟨hP, wl_self hD0, va_S.rf, hK⟩ (lv_entry As hL)
section QR
variable {p : Program} {l : Launch} {e : Env} {R : Room} {s : State} {m : MethodId} {args : Array Value} {below : List Frame} {meth : Method} {c : Code} {H : Heap} {locs : List Loc} {cells slots : Nat} {Q : State → Prop}
variable {cc : ByteArray} {pc : Nat} {ls : Array Slot} {rest st : List Value} {A : Nat → Prop} {g : qCfg} {σ : qSt}
theorem q_iret {post : Int32 → qSt → Prop} {r : Int32} (hx : p.tables.exec = Jvm.exec) (hb : c.code = cc) (hr : meth.sig.returnType = some .int) (hlocks : meth.locks = false) (hW : Wo g (Ad g s.heap.size) s H locs σ) (hp : post r σ) (hd : decode cc pc = .ok (.ireturn, 1)) :
    W p l e R s m args below meth c H locs 0 0 (MQ below (va_Qi post (qOu g s.heap.size) (Ad g s.heap.size)) args s 0 0 (Ad g s.heap.size)) (F0 m pc ls [.int r]) :=
  W.iret hx hb hr (fun t ht hWm => ⟨⟨r, σ, rfl, hp, by rw [ht]; exact hW.1, va_K.moved hWm.alike hW.2.2.2, hW.2.1⟩, hW.2.2.1.F ht⟩) hW.2.2.1.2.2 hd hlocks
theorem q_zret {post : Int32 → qSt → Prop} {r : Int32} (hx : p.tables.exec = Jvm.exec) (hb : c.code = cc) (hr : meth.sig.returnType = some .boolean) (hlocks : meth.locks = false) (hW : Wo g (Ad g s.heap.size) s H locs σ) (hn : r = 0 ∨ r = 1) (hp : post r σ) (hd : decode cc pc = .ok (.ireturn, 1)) :
    W p l e R s m args below meth c H locs 0 0 (MQ below (va_Qi post (qOu g s.heap.size) (Ad g s.heap.size)) args s 0 0 (Ad g s.heap.size)) (F0 m pc ls [.int r]) :=
  W.zret hx hb hr (by rcases hn with h | h <;> subst h <;> rfl) (fun t ht hWm => ⟨⟨r, σ, rfl, hp, by rw [ht]; exact hW.1, va_K.moved hWm.alike hW.2.2.2, hW.2.1⟩, hW.2.2.1.F ht⟩) hW.2.2.1.2.2 hd hlocks
theorem q_lret {post : Int64 → qSt → Prop} {r : Int64} (hx : p.tables.exec = Jvm.exec) (hb : c.code = cc) (hr : meth.sig.returnType = some .long) (hlocks : meth.locks = false) (hW : Wo g (Ad g s.heap.size) s H locs σ) (hp : post r σ) (hd : decode cc pc = .ok (.lreturn, 1)) :
    W p l e R s m args below meth c H locs 0 0 (MQ below (va_Ql post (qOu g s.heap.size) (Ad g s.heap.size)) args s 0 0 (Ad g s.heap.size)) (F0 m pc ls [.long r]) :=
  W.lret hx hb hr (fun t ht hWm => ⟨⟨r, σ, rfl, hp, by rw [ht]; exact hW.1, va_K.moved hWm.alike hW.2.2.2, hW.2.1⟩, hW.2.2.1.F ht⟩) hW.2.2.1.2.2 hd hlocks
theorem q_vret {post : qSt → Prop} (hx : p.tables.exec = Jvm.exec) (hb : c.code = cc) (hr : meth.sig.returnType = none) (hlocks : meth.locks = false) (hW : Wo g (Ad g s.heap.size) s H locs σ) (hp : post σ) (hd : decode cc pc = .ok (.return_, 1)) :
    W p l e R s m args below meth c H locs 0 0 (MQ below (va_Qv post (qOu g s.heap.size) (Ad g s.heap.size)) args s 0 0 (Ad g s.heap.size)) (F0 m pc ls []) :=
  W.vret hx hb hr (fun t ht hWm => ⟨⟨σ, rfl, hp, by rw [ht]; exact hW.1, va_K.moved hWm.alike hW.2.2.2, hW.2.1⟩, hW.2.2.1.F ht⟩) hW.2.2.1.2.2 hd hlocks
theorem q_iald (hx : p.tables.exec = Jvm.exec) (hb : c.code = cc) (hW : Wo g A s H locs σ) {i j : Nat} {x : Int32} (hi : 12 ≤ i ∧ i < g.N) (hj : j < g.k) (hk : g.k ≤ 8) (ej : x = nI j) (hdg : decode cc pc = .ok (.iaload, 1))
    (kk : W p l e R s m args below meth c H locs cells slots Q (F0 m (pc + 1) ls (.int (σ.F i j) :: rest))) : W p l e R s m args below meth c H locs cells slots Q (F0 m pc ls (.int x :: .ref (g.P i) :: rest)) := by
  subst ej
  refine va_iald (D := g.D) (cl := vwCl) (tys := tyl g) (ws := wl g σ) hx hb hW.2.2.2 hW.1 i 0 (n := g.k) (f := σ.F i) (by rw [wl_get hi.2, cel_I hi.1]) rfl (vp_in_nI hj (by omega)) hdg ?_
  rw [nI_clamp (by omega)]
  exact kk
theorem q_iast (hx : p.tables.exec = Jvm.exec) (hb : c.code = cc) (hW : Wo g A s H locs σ) {i j : Nat} {x v : Int32} (hi : 12 ≤ i ∧ i < g.N) (hj : j < g.k) (hk : g.k ≤ 8) (ej : x = nI j) (hdg : decode cc pc = .ok (.iastore, 1))
    (kk : ∀ (H1 : Heap) (locs1 : List Loc), Wo g A s H1 locs1 (σ.setF (va_up σ.F i (upd (σ.F i) j v))) → W p l e R s m args below meth c H1 locs1 cells slots Q (F0 m (pc + 1) ls rest)) : W p l e R s m args below meth c H locs cells slots Q (F0 m pc ls (.int v :: .int x :: .ref (g.P i) :: rest)) := by
  subst ej
  refine va_iast (D := g.D) (cl := vwCl) (tys := tyl g) (ws := wl g σ) hx hb hW.2.2.2 hW.1 hW.2.1 hW.2.2.1 i 0 (n := g.k) (f := σ.F i) (by rw [wl_get hi.2, cel_I hi.1]) rfl (vp_in_nI hj (by omega)) hdg (fun H1 locs1 hP hD hS => ?_)
  rw [nI_clamp (by omega)] at hP hD
  have hs : (wl g σ).set i (g.P i, .inl (g.cI, g.k, .inl (upd (σ.F i) j v))) = wl g (σ.setF (va_up σ.F i (upd (σ.F i) j v))) := by
    refine wl_set hi.2 ?_ ?_
    · rw [cel_I hi.1]
      show Sum.inl (g.cI, g.k, Sum.inl (va_up σ.F i _ i)) = _
      rw [va_up_self]
    · intro a ha
      match a, ha with
      | 0, _ => rfl
      | 1, _ => rfl
      | 2, _ => rfl
      | 3, _ => rfl
      | 4, _ => rfl
      | b + 5, ha =>
        show (if b + 5 < 12 then _ else Sum.inl (g.cI, g.k, Sum.inl (va_up σ.F i _ (b + 5)))) = (if b + 5 < 12 then _ else _)
        rw [va_up_ne _ _ ha]
        rfl
  rw [hs] at hP hD
  exact kk H1 locs1 ⟨hP, hD, hS, hW.2.2.2⟩
/-- how many places a long row has -/
def lsz (i : Nat) : Nat := if i = 4 then 81 else 9
theorem cel_L {i : Nat} (h : 4 ≤ i ∧ i < 12) : cel g σ i = .inl (g.cJ, lsz i, .inr (.inl (σ.J i))) := by
  unfold lsz
  by_cases h4 : i = 4
  · subst h4
    rfl
  · rw [if_neg h4, cel_J (by omega) h.2]
theorem q_lald (hx : p.tables.exec = Jvm.exec) (hb : c.code = cc) (hW : Wo g A s H locs σ) {i j : Nat} {x : Int32} (hi : 4 ≤ i ∧ i < 12) (hj : j < lsz i) (ej : x = nI j) (hdg : decode cc pc = .ok (.laload, 1))
    (kk : W p l e R s m args below meth c H locs cells slots Q (F0 m (pc + 1) ls (.long (σ.J i j) :: rest))) : W p l e R s m args below meth c H locs cells slots Q (F0 m pc ls (.int x :: .ref (g.P i) :: rest)) := by
  subst ej
  have hz : lsz i ≤ 81 := by unfold lsz; split <;> omega
  refine va_lald (D := g.D) (cl := vwCl) (tys := tyl g) (ws := wl g σ) hx hb hW.2.2.2 hW.1 i 1 (n := lsz i) (f := σ.J i) (by rw [wl_get (by unfold qCfg.N; omega), cel_L hi]) rfl (vp_in_nI hj (by omega)) hdg ?_
  rw [nI_clamp (by omega)]
  exact kk
theorem q_last (hx : p.tables.exec = Jvm.exec) (hb : c.code = cc) (hW : Wo g A s H locs σ) {i j : Nat} {x : Int32} {v : Int64} (hi : 4 ≤ i ∧ i < 12) (hj : j < lsz i) (ej : x = nI j) (hdg : decode cc pc = .ok (.lastore, 1))
    (kk : ∀ (H1 : Heap) (locs1 : List Loc), Wo g A s H1 locs1 (σ.setJ (va_up σ.J i (va_up (σ.J i) j v))) → W p l e R s m args below meth c H1 locs1 cells slots Q (F0 m (pc + 1) ls rest)) : W p l e R s m args below meth c H locs cells slots Q (F0 m pc ls (.long v :: .int x :: .ref (g.P i) :: rest)) := by
  subst ej
  have hz : lsz i ≤ 81 := by unfold lsz; split <;> omega
  have hiN : i < g.N := by unfold qCfg.N; omega
  refine va_last (D := g.D) (cl := vwCl) (tys := tyl g) (ws := wl g σ) hx hb hW.2.2.2 hW.1 hW.2.1 hW.2.2.1 i 1 (n := lsz i) (f := σ.J i) (by rw [wl_get hiN, cel_L hi]) rfl (vp_in_nI hj (by omega)) hdg (fun H1 locs1 hP hD hS => ?_)
  rw [nI_clamp (by omega)] at hP hD
  have hs : (wl g σ).set i (g.P i, .inl (g.cJ, lsz i, .inr (.inl (vp_updL (σ.J i) j v)))) = wl g (σ.setJ (va_up σ.J i (va_up (σ.J i) j v))) := by
    refine wl_set hiN ?_ ?_
    · rw [cel_L hi]
      show Sum.inl (g.cJ, lsz i, Sum.inr (Sum.inl (va_up σ.J i _ i))) = _
      rw [va_up_self]
      rfl
    · intro a ha
      match a, ha with
      | 0, _ => rfl
      | 1, _ => rfl
      | 2, _ => rfl
      | 3, _ => rfl
      | 4, ha =>
        show Sum.inl (g.cJ, 81, Sum.inr (Sum.inl (va_up σ.J i _ 4))) = _
        rw [va_up_ne _ _ ha]
        rfl
      | b + 5, ha =>
        show (if b + 5 < 12 then Sum.inl (g.cJ, 9, Sum.inr (Sum.inl (va_up σ.J i _ (b + 5)))) else _) = (if b + 5 < 12 then _ else _)
        rw [va_up_ne _ _ ha]
        rfl
  rw [hs] at hP hD
  exact kk H1 locs1 ⟨hP, hD, hS, hW.2.2.2⟩
/-- a row of the registers: the outer array's place r -/
theorem q_regs (hx : p.tables.exec = Jvm.exec) (hb : c.code = cc) (hW : Wo g A s H locs σ) {j : Nat} {x : Int32} (hj : j < g.n) (hk : g.n ≤ 8) (ej : x = nI j) (hdg : decode cc pc = .ok (.aaload, 1))
    (kk : W p l e R s m args below meth c H locs cells slots Q (F0 m (pc + 1) ls (.ref (g.P (21 + j)) :: rest))) : W p l e R s m args below meth c H locs cells slots Q (F0 m pc ls (.int x :: .ref (g.P 2) :: rest)) := by
  subst ej
  have hin : vp_in (nI j) g.n := vp_in_nI hj (by omega)
  have hc : (nI j).toNatClampNeg = j := nI_clamp (by omega)
  have ha : H[g.P 2]? = some (vp_cell g.cO (g.n, .inr (.inr (.inr (.inr (fun r => if r < g.n then some (g.P (21 + r)) else none)))))) := hW.1 2 _ (wl_get (by unfold qCfg.N; omega))
  have hlt : (nI j).toNatClampNeg < g.n := by rw [hc]; exact hj
  refine W.aald (v := va_rf (if (nI j).toNatClampNeg < g.n then some (g.P (21 + (nI j).toNatClampNeg)) else none)) (ty := .array .int) hx hb ha ((hW.2.2.2.2 2 _ rfl).1 g.n (fun j => va_rf (if j < g.n then some (g.P (21 + j)) else none))) rfl (fun q => by cases q) (by show ¬ (_ ∨ (arrV _ _ _).slots.size ≤ _); rw [arrV_size]; exact hin) (by show (arrV _ _ _).slots[_]? = _; rw [arrV_read _ _ hlt]) rfl rfl hdg ?_
  rw [hc, if_pos hj]
  exact kk
theorem q_get {own C : String} {T : u_T} {N ci index : Nat} {Ts : List Cond} (hx : p.tables.exec = Jvm.exec) (hb : c.code = cc) (hts : ∀ w ∈ Ts, w.before args s = true) (hown : s.vm.findClass own = some m.cls) (hin : ∀ w ∈ u_ws C T N, w ∈ Ts) (hW : Wo g A s H locs σ) {i : Nat} (hi : i < 21) {fs : List Value} (he : cel g σ i = .inr (ci, fs)) (hc : vwCl[ci]? = some (C, T, N)) (f : Nat) (hf : f < N) (hlink : (Cond.fieldLink own index (T f).1 (T f).2.1 (T f).2.2.1).before args s = true) {v : Value} (hv : fs[f]? = some v) (hdg : decode cc pc = .ok (.getfield index, 3))
    (kk : W p l e R s m args below meth c H locs cells slots Q (F0 m (pc + 3) ls (v :: rest))) : W p l e R s m args below meth c H locs cells slots Q (F0 m pc ls (.ref (g.P i) :: rest)) :=
  va_get (D := g.D) (cl := vwCl) (tys := tyl g) (ws := wl g σ) hx hb hts hin hown hW.2.2.2 hW.1 i (by rw [wl_get (by unfold qCfg.N; omega), he]) hc f hf hlink (fun _ h9 => h9) hv hdg kk
theorem q_put {own C : String} {T : u_T} {N ci index : Nat} {Ts : List Cond} (hx : p.tables.exec = Jvm.exec) (hb : c.code = cc) (hts : ∀ w ∈ Ts, w.before args s = true) (hown : s.vm.findClass own = some m.cls) (hin : ∀ w ∈ u_ws C T N, w ∈ Ts) (ty0 : Nat → FieldType) (hty : ∀ k, k < N → parseFieldDescriptor (T k).2.2.1 = some (ty0 k)) (hnm : ∀ a, a < N → ∀ b, b < N → a ≠ b → (T a).2.1 ≠ (T b).2.1) (hW : Wo g A s H locs σ) {i : Nat} (hi : i < 21) {fs : List Value} (he : cel g σ i = .inr (ci, fs)) (hc : vwCl[ci]? = some (C, T, N)) (f : Nat) (hf : f < N) (hlink : (Cond.fieldLink own index (T f).1 (T f).2.1 (T f).2.2.1).before args s = true) (hfin : (T f).2.2.2 = false) {ty : FieldType} {v : Value} (hd : parseFieldDescriptor (T f).2.2.1 = some ty) (hn : narrow ty v = v) (hfit : fits ty v = true) (hl : f < fs.length) (σ' : qSt) (he' : cel g σ' i = .inr (ci, fs.set f v)) (ho : ∀ j, j ≠ i → cel g σ' j = cel g σ j) (hdg : decode cc pc = .ok (.putfield index, 3))
    (kk : ∀ (H1 : Heap) (locs1 : List Loc), Wo g A s H1 locs1 σ' → W p l e R s m args below meth c H1 locs1 cells slots Q (F0 m (pc + 3) ls rest)) : W p l e R s m args below meth c H locs cells slots Q (F0 m pc ls (v :: .ref (g.P i) :: rest)) := by
  have hiN : i < g.N := by unfold qCfg.N; omega
  refine va_put (D := g.D) (cl := vwCl) (tys := tyl g) (ws := wl g σ) hx hb hts hin ty0 hty hnm hown hW.2.2.2 hW.1 hW.2.1 hW.2.2.1 i (by rw [wl_get hiN, he]) hc f hf hlink (fun _ h9 => h9) hfin hd hn hfit hl hdg (fun H1 locs1 hP hD hS => ?_)
  rw [wl_set hiN he' ho] at hP hD
  exact kk H1 locs1 ⟨hP, hD, hS, hW.2.2.2⟩
theorem q_free {q : Nat} (hW : Wo g A s H locs σ) (hA : ∀ q, s.heap.size ≤ q → A q) (h : Ad g H.size q) : A q := by
  rcases h with ⟨i, h1, rfl⟩ | h
  · exact hW.2.1.2 i _ (wl_get h1)
  · exact hA q (Nat.le_trans hW.2.2.1.1 h)
theorem q_blind {As : List Value} {sz : Nat} : FrameBlind (va_Pc As (qIn g σ sz)) := fun a U g mk q => by
  obtain ⟨q0, q1, qP, qK, qD⟩ := q
  exact ⟨q0, q1, qP, va_K.moved (u := U) (U := U.calling g mk a) (Vm.Alike.refl U.vm) qK, qD⟩
theorem q_pre {As : List Value} (hW : Wo g A s H locs σ) : ∀ U : State, U.heap = H → s.WarmedH U.vm → va_Pc As (qIn g σ H.size) As.toArray U := fun U hU hWm => ⟨rfl, by rw [hU], by rw [hU]; exact hW.1, va_K.moved hWm.alike hW.2.2.2, ⟨hW.2.1.1, fun _ _ _ => trivial⟩⟩
theorem q_next {σ' : qSt} {t : State} {H1 : Heap} {locs1 : List Loc} (hW : Wo g A s H locs σ) (hA : ∀ q, s.heap.size ≤ q → A q) (ht : t.heap = H1) (hvm : s.vm.Alike t.vm) (hB : qOu g H.size σ' t) (hS : va_S A s.heap H1 locs1) : Wo g A s H1 locs1 σ' := by
  refine ⟨by rw [← ht]; exact hB.1, ⟨hB.2.2.1, fun k q hk => q_free hW hA (hB.2.2.2 k q hk)⟩, hS, hW.2.2.2⟩
end QR
section QC
variable {p : Program} {l : Launch} {e : Env} {R : Room} {s : State} {m : MethodId} {args : Array Value} {below : List Frame} {meth : Method} {c : Code} {H : Heap} {locs : List Loc} {cells slots : Nat} {Q : State → Prop}
variable {cc : ByteArray} {pc : Nat} {ls : Array Slot} {rest st : List Value} {A : Nat → Prop} {g : qCfg} {σ : qSt}
variable {Ts ws ws' : List Cond} {own C : String} {retO ret : Option FieldType} {nL index maxL fr lo : Nat} {y : MethodName} {bytes : ByteArray} {As : List Value}
/-- what every call asks of words and room -/
abbrev qCw (R : Room) (y : MethodName) (ws : List Cond) (bytes : ByteArray) (maxL : Nat) (ret : Option FieldType) (ws' : List Cond) (n fr lo : Nat) : Prop :=
  ws = Cond.code y bytes maxL ret :: ws' ∧ (y.cls ≠ "java/lang/invoke/MethodHandle" ∧ y.cls ≠ "java/lang/invoke/VarHandle" ∧ (parseMethodDescriptor y.desc).map (fun d => d.parameters.length) = some n) ∧ (fr + 1 ≤ R.frames ∧ 8 + (maxL + 11) + lo ≤ R.locals)
theorem q_runS {Qc : Nat → Array Value → State → Outcome → State → Prop} (S : qFx p m c cc nL s args Ts own meth retO) (hW : Wo g A s H locs σ) (hM : ∀ sz, Met l y ws (rmm fr lo) (va_Pc As (qIn g σ sz)) (Qc sz) 0 0 (Ad g sz)) (hg : GoodIn Ts (va_wsS own index y ws)) {nA : Nat} (cw : qCw R y ws bytes maxL ret ws' nA fr lo) (hn : As.length = nA)
    (hs : ls.size = nL) (hst : st = As.reverse ++ rest) (hrest : (rest.map fun v => v.category).sum ≤ 8) (hdg : decode cc pc = .ok (.invokestatic index, 3)) (hf : cells ≤ R.cells ∧ slots ≤ R.slots) :
    va_Run p l e R s m args below meth c H locs cells slots 0 0 (F0 m pc ls st) rest (Qc H.size As.toArray) (Ad g H.size) :=
  va_runS ⟨S.1, S.2.1, S.2.2.1, S.2.2.2.1, S.2.2.2.2.1⟩ (hM H.size) (va_cwS nA S.2.2.2.2.1 hg cw.1 rfl rfl cw.2.1 cw.2.2) ⟨q_blind, q_pre hW⟩ rfl hn hs hst (lv_room hrest) hdg hf
theorem q_runV {Qc : Nat → Array Value → State → Outcome → State → Prop} {i ci : Nat} {qq : vw_C} {fs : List Value} (S : qFx p m c cc nL s args Ts own meth retO) (hW : Wo g A s H locs σ) (hi : i < 21) (he : cel g σ i = .inr (ci, fs)) (hc : vwCl[ci]? = some qq) (hM : ∀ sz, Met l y ws (rmm fr lo) (va_Pc (.ref (g.P i) :: As) (qIn g σ sz)) (Qc sz) 0 0 (Ad g sz)) (hg : GoodIn Ts (wsV own index qq.1 y ws)) (hC : y.cls = qq.1) {nA : Nat} (cw : qCw R y ws bytes maxL ret ws' nA fr lo) (hn : As.length = nA)
    (hs : ls.size = nL) (hst : st = As.reverse ++ .ref (g.P i) :: rest) (hrest : (rest.map fun v => v.category).sum ≤ 8) (hdg : decode cc pc = .ok (.invokevirtual index, 3)) (hf : cells ≤ R.cells ∧ slots ≤ R.slots) :
    va_Run p l e R s m args below meth c H locs cells slots 0 0 (F0 m pc ls st) rest (Qc H.size (Value.ref (g.P i) :: As).toArray) (Ad g H.size) :=
  va_runV (C := qq.1) ⟨S.1, S.2.1, S.2.2.1, S.2.2.2.1, S.2.2.2.2.1⟩ (hM H.size) (cwV nA S.2.2.2.2.1 hg cw.1 rfl rfl ⟨hC, cw.2.1⟩ cw.2.2) ⟨q_blind, va_recv hW.2.2.2 hW.1 hc (q0 := i) (by rw [wl_get (by unfold qCfg.N; omega), he]), q_pre hW⟩ rfl hn hs hst (lv_room hrest) hdg hf
theorem q_i {a : Array Value} {post : Int32 → qSt → Prop} (hr : va_Run p l e R s m args below meth c H locs cells slots 0 0 (F0 m pc ls st) rest (va_Qi post (qOu g H.size) (Ad g H.size) a) (Ad g H.size)) (hW : Wo g A s H locs σ) (hA : ∀ q, s.heap.size ≤ q → A q)
    (kk : ∀ (r : Int32) (σ' : qSt) (H1 : Heap) (locs1 : List Loc), post r σ' → Wo g A s H1 locs1 σ' → W p l e R s m args below meth c H1 locs1 cells slots Q (F0 m (pc + 3) ls (.int r :: rest))) : W p l e R s m args below meth c H locs cells slots Q (F0 m pc ls st) :=
  va_calli hr hW.2.2.1 (fun _ _ h => q_free hW hA h) (fun _ h => q_free hW hA h) (fun r σ' t H1 locs1 ht hvm hp hB _ _ hS => kk r σ' H1 locs1 hp (q_next hW hA ht hvm hB hS))
theorem q_l {a : Array Value} {post : Int64 → qSt → Prop} (hr : va_Run p l e R s m args below meth c H locs cells slots 0 0 (F0 m pc ls st) rest (va_Ql post (qOu g H.size) (Ad g H.size) a) (Ad g H.size)) (hW : Wo g A s H locs σ) (hA : ∀ q, s.heap.size ≤ q → A q)
    (kk : ∀ (r : Int64) (σ' : qSt) (H1 : Heap) (locs1 : List Loc), post r σ' → Wo g A s H1 locs1 σ' → W p l e R s m args below meth c H1 locs1 cells slots Q (F0 m (pc + 3) ls (.long r :: rest))) : W p l e R s m args below meth c H locs cells slots Q (F0 m pc ls st) :=
  va_calll hr hW.2.2.1 (fun _ _ h => q_free hW hA h) (fun _ h => q_free hW hA h) (fun r σ' t H1 locs1 ht hvm hp hB _ _ hS => kk r σ' H1 locs1 hp (q_next hW hA ht hvm hB hS))
theorem q_v {a : Array Value} {post : qSt → Prop} (hr : va_Run p l e R s m args below meth c H locs cells slots 0 0 (F0 m pc ls st) rest (va_Qv post (qOu g H.size) (Ad g H.size) a) (Ad g H.size)) (hW : Wo g A s H locs σ) (hA : ∀ q, s.heap.size ≤ q → A q)
    (kk : ∀ (σ' : qSt) (H1 : Heap) (locs1 : List Loc), post σ' → Wo g A s H1 locs1 σ' → W p l e R s m args below meth c H1 locs1 cells slots Q (F0 m (pc + 3) ls rest)) : W p l e R s m args below meth c H locs cells slots Q (F0 m pc ls st) :=
  va_callv hr hW.2.2.1 (fun _ _ h => q_free hW hA h) (fun _ h => q_free hW hA h) (fun σ' t H1 locs1 ht hvm hp hB _ _ hS => kk σ' H1 locs1 hp (q_next hW hA ht hvm hB hS))
end QC
theorem Ad_hi {g : qCfg} {sz : Nat} : ∀ q, sz ≤ q → Ad g sz q := fun _ h => Or.inr h
