/-! ===== the reference's rows: numbers of nine limbs in longs ===== -/
def Nb (J : Nat → Nat → Int64) (i v : Nat) : Prop := dB (fun x => uL (J i x)) 9 ∧ dv (fun x => uL (J i x)) 9 = v
/-- the number that stands in held from place 9 r on -/
def Nh (J : Nat → Nat → Int64) (r v : Nat) : Prop := dB (fun x => uL (J 4 (9 * r + x))) 9 ∧ dv (fun x => uL (J 4 (9 * r + x))) 9 = v
def Gr (J0 J : Nat → Nat → Int64) (l : List Nat) : Prop := ∀ r, r ∉ l → J r = J0 r
theorem Gr.rf {J : Nat → Nat → Int64} {l : List Nat} : Gr J J l := fun _ _ => rfl
theorem Gr.N {J0 J : Nat → Nat → Int64} {l : List Nat} {i v : Nat} (h : Gr J0 J l) (hi : i ∉ l) (hN : Nb J0 i v) : Nb J i v := by
  unfold Nb
  rw [h i hi]
  exact hN
theorem Gr.H {J0 J : Nat → Nat → Int64} {l : List Nat} {i v : Nat} (h : Gr J0 J l) (hi : 4 ∉ l) (hN : Nh J0 i v) : Nh J i v := by
  unfold Nh
  rw [h 4 hi]
  exact hN
theorem Nb.cp {J J' : Nat → Nat → Int64} {i j v : Nat} (h : Nb J j v) (he : ∀ x, x < 9 → J' i x = J j x) : Nb J' i v := by
  refine ⟨fun x hx => by show uL (J' i x) < _; rw [he x hx]; exact h.1 x hx, ?_⟩
  rw [dv_cong (e := fun x => uL (J j x)) (fun x hx => by rw [he x hx])]
  exact h.2
def Ju (J0 J : Nat → Nat → Int64) (i x : Nat) : Prop := (∀ r, r ≠ i → J r = J0 r) ∧ ∀ y, x ≤ y → J i y = J0 i y
theorem Ju.rf {J : Nat → Nat → Int64} {i x : Nat} : Ju J J i x := ⟨fun _ _ => rfl, fun _ _ => rfl⟩
theorem Ju.rd {J0 J : Nat → Nat → Int64} {i x : Nat} (h : Ju J0 J i x) (j : Nat) : J j x = J0 j x := by
  by_cases q : j = i
  · subst q
    exact h.2 x (Nat.le_refl x)
  · rw [h.1 j q]
theorem Ju.st {J0 J : Nat → Nat → Int64} {i x : Nat} (h : Ju J0 J i x) (v : Int64) : Ju J0 (va_up J i (va_up (J i) x v)) i (x + 1) :=
  ⟨fun r hr => by rw [va_up_ne _ _ hr]; exact h.1 r hr, fun y hy => by rw [va_up_self, va_up_ne _ _ (by omega)]; exact h.2 y (by omega)⟩
theorem Ju.fr {J0 J : Nat → Nat → Int64} {i x : Nat} (h : Ju J0 J i x) : Gr J0 J [i] := fun r hr => h.1 r (fun q => hr (by rw [q]; exact List.mem_singleton_self i))
def Jw (J0 J : Nat → Nat → Int64) (i x : Nat) : Prop := (∀ r, r ≠ i → J r = J0 r) ∧ ∀ y, y < x → J i y = J0 i y
theorem Jw.rf {J : Nat → Nat → Int64} {i x : Nat} : Jw J J i x := ⟨fun _ _ => rfl, fun _ _ => rfl⟩
theorem Jw.rd {J0 J : Nat → Nat → Int64} {i x y : Nat} (h : Jw J0 J i x) (hy : y < x) (j : Nat) : J j y = J0 j y := by
  by_cases q : j = i
  · subst q
    exact h.2 y hy
  · rw [h.1 j q]
theorem Jw.st {J0 J : Nat → Nat → Int64} {i x : Nat} (h : Jw J0 J i (x + 1)) (v : Int64) : Jw J0 (va_up J i (va_up (J i) x v)) i x :=
  ⟨fun r hr => by rw [va_up_ne _ _ hr]; exact h.1 r hr, fun y hy => by rw [va_up_self, va_up_ne _ _ (by omega)]; exact h.2 y (by omega)⟩
theorem Jw.fr {J0 J : Nat → Nat → Int64} {i x : Nat} (h : Jw J0 J i x) : Gr J0 J [i] := fun r hr => h.1 r (fun q => hr (by rw [q]; exact List.mem_singleton_self i))
/-- digits up to x behind a store at x -/
theorem dv_st {J : Nat → Nat → Int64} {i x v : Nat} (hv : v < 4294967296) : dv (fun y => uL (va_up J i (va_up (J i) x (lN v)) i y)) (x + 1) = dv (fun y => uL (J i y)) x + v * 2 ^ (32 * x) := by
  rw [va_up_self, dv_step (e := fun y => uL (J i y)) (fun y hy => by rw [va_up_ne _ _ (by omega)]), va_up_self, uL_lN (by omega)]
theorem dB_st {J : Nat → Nat → Int64} {i x v : Nat} (hv : v < 4294967296) (h : dB (fun y => uL (J i y)) x) : dB (fun y => uL (va_up J i (va_up (J i) x (lN v)) i y)) (x + 1) := fun y hy => by
  show uL (va_up J i (va_up (J i) x (lN v)) i y) < _
  rw [va_up_self]
  by_cases q : y = x
  · rw [q, va_up_self, uL_lN (by omega)]
    exact hv
  · rw [va_up_ne _ _ q]
    exact h y (by omega)
theorem dv_updk {d : Nat → Nat} {y v : Nat} : ∀ {k : Nat}, y < k → dv (va_up d y v) k + d y * 2 ^ (32 * y) = dv d k + v * 2 ^ (32 * y)
  | 0, h => absurd h (Nat.not_lt_zero y)
  | k + 1, h => by
    show dv (va_up d y v) k + va_up d y v k * _ + _ = dv d k + d k * _ + _
    by_cases q : y = k
    · subst q
      rw [va_up_self, dv_cong (e := d) (fun x hx => va_up_ne _ _ (by omega))]
      omega
    · have ih := dv_updk (d := d) (v := v) (show y < k by omega)
      rw [va_up_ne _ _ (by omega)]
      omega
theorem uL_up {f : Nat → Int64} {x v : Nat} (hv : v < 4294967296) : (fun y => uL (va_up f x (lN v) y)) = va_up (fun y => uL (f y)) x v := by
  funext y
  by_cases q : y = x
  · rw [q, va_up_self, va_up_self, uL_lN (by omega)]
  · rw [va_up_ne _ _ q, va_up_ne _ _ q]
theorem lN_lo {n : Nat} (h : n < 18446744073709551616) : lN n &&& 4294967295 = lN (n % 4294967296) := wb_mask (k := 32) h (by decide)
theorem sub_limb2 {a b β : Nat} (ha : a < 4294967296) (hb : b < 4294967296) (hβ : β ≤ 1) : ∃ v β' : Nat, v < 4294967296 ∧ β' ≤ 1 ∧ v + b + β = a + β' * 4294967296 ∧ (lN a - lN b - lN β) &&& 4294967295 = lN v ∧ (0 ≤ lg_cmp (lN a - lN b - lN β) 0 ↔ β' = 0) := by
  have e0 : lN a - lN b - lN β = if b + β ≤ a then lN (a - b - β) else lN (18446744073709551616 + a - b - β) := by
    apply wb_inj
    apply BitVec.eq_of_toNat_eq
    rw [Int64.toBitVec_sub, Int64.toBitVec_sub, BitVec.toNat_sub, BitVec.toNat_sub, wb_tn (show a < 2 ^ 64 by omega), wb_tn (show b < 2 ^ 64 by omega), wb_tn (show β < 2 ^ 64 by omega)]
    by_cases h : b + β ≤ a
    · rw [if_pos h, wb_tn (by omega)]; omega
    · rw [if_neg h, wb_tn (by omega)]; omega
  rw [e0]
  by_cases h : b + β ≤ a
  · rw [if_pos h]
    refine ⟨a - b - β, 0, by omega, by omega, by omega, by rw [lN_lo (by omega), Nat.mod_eq_of_lt (by omega)], ?_⟩
    have h2 := lcmp_ge (a := a - b - β) (b := 0) (by omega) (by decide)
    exact ⟨fun _ => rfl, fun _ => h2.mpr (Nat.zero_le _)⟩
  · rw [if_neg h]
    refine ⟨4294967296 + a - b - β, 1, by omega, by omega, by omega, ?_, ?_⟩
    · rw [lN_lo (by omega), show (18446744073709551616 + a - b - β) % 4294967296 = 4294967296 + a - b - β by omega]
    · have hneg : lN (18446744073709551616 + a - b - β) < 0 := by
        rw [Int64.lt_iff_toInt_lt]
        show (BitVec.ofNat 64 _).toInt < 0
        rw [BitVec.toInt_eq_toNat_cond, BitVec.toNat_ofNat]
        split <;> omega
      unfold lg_cmp
      rw [if_neg (fun q => absurd (Int64.lt_trans q hneg) (Int64.lt_irrefl)), if_neg (fun q => by rw [q] at hneg; exact absurd hneg (by decide))]
      exact ⟨fun q => absurd q (by decide), fun q => absurd q (by decide)⟩
theorem lcmp_eq {a b : Nat} (ha : a < 2 ^ 63) (hb : b < 2 ^ 63) : lg_cmp (lN a) (lN b) = 0 ↔ a = b := by
  unfold lg_cmp
  by_cases h1 : lN a > lN b
  · rw [if_pos h1]
    have := (pk_lLT hb ha).mp h1
    exact ⟨fun q => absurd q (by decide), fun q => by omega⟩
  · rw [if_neg h1]
    by_cases h3 : lN a = lN b
    · rw [if_pos h3]
      exact ⟨fun _ => (pk_lEQ ha hb).mp h3, fun _ => rfl⟩
    · rw [if_neg h3]
      exact ⟨fun q => absurd q (by decide), fun q => absurd (by rw [q]) h3⟩
theorem lshr_nI {n j : Nat} (hn : n < 18446744073709551616) (hj : j < 32) : ((lN n).toUInt64 >>> ((nI j : Int32).toInt64.toUInt64 &&& Int64.toUInt64 63)).toInt64 = lN (n / 2 ^ j) := wb_shr hn (by omega)
theorem half_num {R t m : Nat} (h : 2 * R + t = m) (ht : t ≤ 1) : R = m / 2 := by omega
/-- 2 x + bit, modulo m, once less -/
theorem rest_step {v x m acc : Nat} (hm : 0 < m) (ha : acc = v / 2 ^ (x + 1) % m) : (if m ≤ 2 * acc + v / 2 ^ x % 2 then 2 * acc + v / 2 ^ x % 2 - m else 2 * acc + v / 2 ^ x % 2) = v / 2 ^ x % m := by
  have h1 : acc < m := by rw [ha]; exact Nat.mod_lt _ hm
  have h2 : v / 2 ^ x = 2 * (v / 2 ^ (x + 1)) + v / 2 ^ x % 2 := by
    rw [Nat.pow_succ, ← Nat.div_div_eq_div_mul]
    omega
  have h3 : v / 2 ^ x % m = (2 * acc + v / 2 ^ x % 2) % m := by
    have h4 : (2 * (v / 2 ^ (x + 1)) + v / 2 ^ x % 2) % m = (2 * acc + v / 2 ^ x % 2) % m := by
      rw [Nat.add_mod, Nat.mul_mod, ← ha, Nat.add_mod (2 * acc), Nat.mul_mod 2 acc, Nat.mod_eq_of_lt h1]
    rw [← h4, ← h2]
  rw [h3]
  split
  · rename_i h
    rw [mod_two h (by omega)]
  · rename_i h
    exact (Nat.mod_eq_of_lt (Nat.not_le.mp h)).symm
theorem tb_mod (v x : Nat) : v / 2 ^ x % 2 = if v.testBit x = true then 1 else 0 := by
  rw [Nat.testBit_eq_decide_div_mod_eq]
  generalize v / 2 ^ x = z
  by_cases h : z % 2 = 1
  · simp [h]
  · have : z % 2 = 0 := by omega
    simp [this]
theorem prod_step {u v x m acc : Nat} (ha : acc = u / 2 ^ (x + 1) * v % m) : (if u.testBit x = true then ((acc + acc) % m + v) % m else (acc + acc) % m) = u / 2 ^ x * v % m := by
  have h2 : u / 2 ^ x = 2 * (u / 2 ^ (x + 1)) + u / 2 ^ x % 2 := by
    rw [Nat.pow_succ, ← Nat.div_div_eq_div_mul]
    omega
  have h3 : (acc + acc) % m = 2 * (u / 2 ^ (x + 1)) * v % m := by
    rw [ha, ← Nat.add_mod]
    congr 1
    grind
  have h4 := tb_mod u x
  split
  · rename_i h
    rw [if_pos h] at h4
    rw [h2, h4, h3, Nat.mod_add_mod]
    congr 1
    grind
  · rename_i h
    rw [if_neg h] at h4
    rw [h2, h4, h3]
    rfl
theorem pw_up {c e x m a b : Nat} (ha : a = c ^ (e % 2 ^ x) % m) (hb : b = c ^ 2 ^ x % m) : (if e.testBit x = true then a * b % m else a) = c ^ (e % 2 ^ (x + 1)) % m ∧ b * b % m = c ^ 2 ^ (x + 1) % m := by
  have h4 := tb_mod e x
  refine ⟨?_, ?_⟩
  · rw [Nat.mod_pow_succ]
    split
    · rename_i h
      rw [if_pos h] at h4
      rw [h4, Nat.mul_one, Nat.pow_add, ha, hb, ← Nat.mul_mod]
    · rename_i h
      rw [if_neg h] at h4
      rw [h4, Nat.mul_zero, Nat.add_zero]
      exact ha
  · rw [hb, ← Nat.mul_mod, ← Nat.pow_add, Nat.pow_succ, Nat.mul_two]
theorem lsz9 {i : Nat} (h : 5 ≤ i) : lsz i = 9 := by unfold lsz; rw [if_neg (by omega)]
section QJ
variable {p : Program} {l : Launch} {e : Env} {R : Room} {s : State} {m : MethodId} {args : Array Value} {below : List Frame} {meth : Method} {c : Code} {H : Heap} {locs : List Loc} {cells slots : Nat} {Q : State → Prop}
variable {cc : ByteArray} {pc : Nat} {ls : Array Slot} {rest st : List Value} {A : Nat → Prop} {g : qCfg} {σ : qSt}
theorem q_lastJ (hx : p.tables.exec = Jvm.exec) (hb : c.code = cc) {i : Nat} {J : Nat → Nat → Int64} (hW : Wo g A s H locs (σ.setJ J)) {j : Nat} {x : Int32} {v : Int64} (hi : 4 ≤ i ∧ i < 12) (hj : j < lsz i) (ej : x = nI j) (hdg : decode cc pc = .ok (.lastore, 1))
    (kk : ∀ (H1 : Heap) (locs1 : List Loc), Wo g A s H1 locs1 (σ.setJ (va_up J i (va_up (J i) j v))) → W p l e R s m args below meth c H1 locs1 cells slots Q (F0 m (pc + 1) ls rest)) : W p l e R s m args below meth c H locs cells slots Q (F0 m pc ls (.long v :: .int x :: .ref (g.P i) :: rest)) :=
  q_last hx hb hW hi hj ej hdg kk
end QJ
