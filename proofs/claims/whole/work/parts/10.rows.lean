/-! ===== rows in a loop: which places are as they were ===== -/
def Ru (F0 F : Nat → Nat → Int32) (i x : Nat) : Prop := (∀ r, r ≠ i → F r = F0 r) ∧ ∀ y, x ≤ y → F i y = F0 i y
theorem Ru.rf {F : Nat → Nat → Int32} {i x : Nat} : Ru F F i x := ⟨fun _ _ => rfl, fun _ _ => rfl⟩
theorem Ru.rd {F0 F : Nat → Nat → Int32} {i x : Nat} (h : Ru F0 F i x) (j : Nat) : F j x = F0 j x := by
  by_cases q : j = i
  · subst q
    exact h.2 x (Nat.le_refl x)
  · rw [h.1 j q]
theorem Ru.st {F0 F : Nat → Nat → Int32} {i x : Nat} (h : Ru F0 F i x) (v : Int32) : Ru F0 (va_up F i (upd (F i) x v)) i (x + 1) :=
  ⟨fun r hr => by rw [va_up_ne _ _ hr]; exact h.1 r hr, fun y hy => by rw [va_up_self, pk_un (by omega)]; exact h.2 y (by omega)⟩
theorem Ru.num {F : Nat → Nat → Int32} {i x : Nat} (v : Int32) : rv (va_up F i (upd (F i) x v) i) (x + 1) = rv (F i) x + uI v * 2 ^ (32 * x) := by
  rw [va_up_self]
  exact rv_upd
/-- downwards: the places below x are as they were -/
def Rw (F0 F : Nat → Nat → Int32) (i x : Nat) : Prop := (∀ r, r ≠ i → F r = F0 r) ∧ ∀ y, y < x → F i y = F0 i y
theorem Rw.rf {F : Nat → Nat → Int32} {i x : Nat} : Rw F F i x := ⟨fun _ _ => rfl, fun _ _ => rfl⟩
theorem Rw.rd {F0 F : Nat → Nat → Int32} {i x y : Nat} (h : Rw F0 F i x) (hy : y < x) (j : Nat) : F j y = F0 j y := by
  by_cases q : j = i
  · subst q
    exact h.2 y hy
  · rw [h.1 j q]
theorem Rw.st {F0 F : Nat → Nat → Int32} {i x : Nat} (h : Rw F0 F i (x + 1)) (v : Int32) : Rw F0 (va_up F i (upd (F i) x v)) i x :=
  ⟨fun r hr => by rw [va_up_ne _ _ hr]; exact h.1 r hr, fun y hy => by rw [va_up_self, pk_un (by omega)]; exact h.2 y (by omega)⟩
theorem nge {a b : Nat} (h : ¬ nI b ≤ nI a) (ha : a < 2 ^ 31) : a < b := Nat.not_le.mp (fun q => h (nI_le q ha))
theorem nle {a b : Nat} (h : nI b ≤ nI a) (ha : a < 2 ^ 31) (hb : b < 2 ^ 31) : b ≤ a := (nI_leI hb ha).mp h
theorem setF_self (σ : qSt) : σ.setF σ.F = σ := rfl
/-- the number that row i holds -/
def qV (g : qCfg) (F : Nat → Nat → Int32) (i : Nat) : Nat := rv (F i) g.k
theorem qV_lt {g : qCfg} {F : Nat → Nat → Int32} {i : Nat} : qV g F i < 2 ^ (32 * g.k) := rv_lt
/-- all rows but those in l are as they were -/
def Fr (F0 F : Nat → Nat → Int32) (l : List Nat) : Prop := ∀ r, r ∉ l → F r = F0 r
theorem Fr.V {g : qCfg} {F0 F : Nat → Nat → Int32} {l : List Nat} (h : Fr F0 F l) {r : Nat} (hr : r ∉ l) : qV g F r = qV g F0 r := by
  unfold qV
  rw [h r hr]
theorem Fr.rf {F : Nat → Nat → Int32} {l : List Nat} : Fr F F l := fun _ _ => rfl
theorem Fr.tr {F0 F1 F2 : Nat → Nat → Int32} {l1 l2 l : List Nat} (h1 : Fr F0 F1 l1) (h2 : Fr F1 F2 l2) (s1 : ∀ r, r ∈ l1 → r ∈ l) (s2 : ∀ r, r ∈ l2 → r ∈ l) : Fr F0 F2 l := fun r hr => by rw [h2 r (fun q => hr (s2 r q)), h1 r (fun q => hr (s1 r q))]
theorem Ru.fr {F0 F : Nat → Nat → Int32} {i x : Nat} (h : Ru F0 F i x) : Fr F0 F [i] := fun r hr => h.1 r (fun q => hr (by rw [q]; exact List.mem_singleton_self i))
theorem Rw.fr {F0 F : Nat → Nat → Int32} {i x : Nat} (h : Rw F0 F i x) : Fr F0 F [i] := fun r hr => h.1 r (fun q => hr (by rw [q]; exact List.mem_singleton_self i))
section QF
variable {p : Program} {l : Launch} {e : Env} {R : Room} {s : State} {m : MethodId} {args : Array Value} {below : List Frame} {meth : Method} {c : Code} {H : Heap} {locs : List Loc} {cells slots : Nat} {Q : State → Prop}
variable {cc : ByteArray} {pc : Nat} {ls : Array Slot} {rest st : List Value} {A : Nat → Prop} {g : qCfg} {σ : qSt}
theorem q_iastF (hx : p.tables.exec = Jvm.exec) (hb : c.code = cc) {i : Nat} {F : Nat → Nat → Int32} (hW : Wo g A s H locs (σ.setF F)) {j : Nat} {x v : Int32} (hi : 12 ≤ i ∧ i < g.N) (hj : j < g.k) (hk : g.k ≤ 8) (ej : x = nI j) (hdg : decode cc pc = .ok (.iastore, 1))
    (kk : ∀ (H1 : Heap) (locs1 : List Loc), Wo g A s H1 locs1 (σ.setF (va_up F i (upd (F i) j v))) → W p l e R s m args below meth c H1 locs1 cells slots Q (F0 m (pc + 1) ls rest)) : W p l e R s m args below meth c H locs cells slots Q (F0 m pc ls (.int v :: .int x :: .ref (g.P i) :: rest)) :=
  q_iast hx hb hW hi hj hk ej hdg kk
end QF
theorem lsh32 (x : Int64) : x >>> ((32 : Int32).toInt64 &&& 63) = Int64.ofInt (x.toInt / 4294967296) := by
  apply wb_inj
  apply BitVec.eq_of_toInt_eq
  rw [Int64.toBitVec_shiftRight, show ((32 : Int32).toInt64 &&& 63).toBitVec.smod 64 = (32 : BitVec 64) by decide, BitVec.sshiftRight_eq', BitVec.toInt_sshiftRight, show (32 : BitVec 64).toNat = 32 by decide, Int.shiftRight_eq_div_pow]
  show x.toInt / ((2 ^ 32 : Nat) : Int) = (Int64.ofInt (x.toInt / 4294967296)).toInt
  have h1 := Int64.le_toInt x
  have h2 := Int64.toInt_lt x
  rw [Int64.toInt_ofInt_of_le (by omega) (by omega)]
  omega
/-- one limb of a difference: t = -β + (a - b) -/
theorem sub_limb {a b β : Nat} (ha : a < 4294967296) (hb : b < 4294967296) (hβ : β ≤ 1) : ∃ v β' : Nat, v < 4294967296 ∧ β' ≤ 1 ∧ v + b + β = a + β' * 4294967296 ∧ ((if β = 0 then (0 : Int64) else -1) + (lN a - lN b)).toInt32 = nI v ∧ ((if β = 0 then (0 : Int64) else -1) + (lN a - lN b)) >>> ((32 : Int32).toInt64 &&& 63) = (if β' = 0 then (0 : Int64) else -1) := by
  have key : ∀ t : Int64, (∀ z : Int, t.toInt = z → -4294967296 ≤ z → z < 0 → t >>> ((32 : Int32).toInt64 &&& 63) = -1) := by
    intro t z hz h1 h2
    rw [lsh32, hz]
    apply Int64.toInt_inj.mp
    rw [show z / 4294967296 = -1 by omega]
    decide
  have e0 : (if β = 0 then (0 : Int64) else -1) + (lN a - lN b) = if b + β ≤ a then lN (a - b - β) else lN (18446744073709551616 + a - b - β) := by
    apply wb_inj
    apply BitVec.eq_of_toNat_eq
    rw [Int64.toBitVec_add, Int64.toBitVec_sub, BitVec.toNat_add, BitVec.toNat_sub, wb_tn (show a < 2 ^ 64 by omega), wb_tn (show b < 2 ^ 64 by omega)]
    have hm : (if β = 0 then (0 : Int64) else -1).toBitVec.toNat = if β = 0 then 0 else 18446744073709551615 := by split <;> rfl
    rw [hm]
    by_cases h : b + β ≤ a
    · rw [if_pos h, wb_tn (by omega)]
      by_cases q : β = 0
      · rw [if_pos q]; omega
      · rw [if_neg q]; omega
    · rw [if_neg h, wb_tn (by omega)]
      by_cases q : β = 0
      · rw [if_pos q]; omega
      · rw [if_neg q]; omega
  rw [e0]
  by_cases h : b + β ≤ a
  · rw [if_pos h]
    refine ⟨a - b - β, 0, by omega, by omega, by omega, lN_i _, ?_⟩
    rw [if_pos rfl]
    rw [lsh32, pk_lT (by omega), show ((a - b - β : Nat) : Int) / 4294967296 = 0 by omega]
    decide
  · rw [if_neg h]
    refine ⟨4294967296 + a - b - β, 1, by omega, by omega, by omega, ?_, ?_⟩
    · rw [lN_i, ← nI_mod, show (18446744073709551616 + a - b - β) % 4294967296 = (4294967296 + a - b - β) % 4294967296 by omega, nI_mod]
    · rw [if_neg (by decide)]
      refine key _ ((a : Int) - b - β) ?_ (by omega) (by omega)
      show (BitVec.ofNat 64 _).toInt = _
      rw [BitVec.toInt_eq_toNat_cond, BitVec.toNat_ofNat]
      split <;> omega
