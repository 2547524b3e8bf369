/-! ===== what each call does, of numbers: the same words for the class and for the reference ===== -/
def isR (x : Int32) (n : Nat) : Prop := ∃ j, j < n ∧ x = nI j
theorem isR_no {x : Int32} {n : Nat} (hn : n ≤ 8) (h : x < 0 ∨ nI n ≤ x) : ¬ isR x n := by
  rintro ⟨j, hj, rfl⟩
  rcases h with h | h
  · exact nI_pos (by omega) h
  · exact nI_ge hj (by omega) h
theorem isR_yes {x : Int32} {n : Nat} (hn : n ≤ 8) (h1 : ¬ x < 0) (h2 : ¬ nI n ≤ x) : isR x n := by
  rcases pk_ix x (n := n) (by omega) with h | h | h
  · exact absurd h h1
  · exact absurd h h2
  · exact h
theorem nI_inj8 {a b n : Nat} (hn : n ≤ 8) (ha : a < n) (hb : b < n) (h : nI a = nI b) : a = b := (nI_eq (by omega) (by omega)).mp h
/-- limb j of a number, and a number with another limb there -/
def dig (X j : Nat) : Nat := X / 2 ^ (32 * j) % 4294967296
def setd (X j w : Nat) : Nat := X + w * 2 ^ (32 * j) - dig X j * 2 ^ (32 * j)
theorem dv_div {d : Nat → Nat} : ∀ {k j : Nat}, dB d k → j < k → dv d k / 2 ^ (32 * j) % 4294967296 = d j
  | 0, _, _, h => absurd h (Nat.not_lt_zero _)
  | k + 1, j, hd, h => by
    have h1 := dv_lt (dB_le hd (Nat.le_succ k))
    show (dv d k + d k * 2 ^ (32 * k)) / 2 ^ (32 * j) % 4294967296 = d j
    by_cases q : j = k
    · subst q
      rw [Nat.add_mul_div_right _ _ (p32_pos j), Nat.div_eq_of_lt h1, Nat.zero_add, Nat.mod_eq_of_lt (hd j h)]
    · obtain ⟨e, he⟩ : ∃ e, k = j + 1 + e := ⟨k - j - 1, by omega⟩
      have e1 : d k * 2 ^ (32 * k) = 4294967296 * (d k * 2 ^ (32 * e)) * 2 ^ (32 * j) := by
        rw [he, show 32 * (j + 1 + e) = 32 + 32 * e + 32 * j by omega, Nat.pow_add, Nat.pow_add]
        grind
      rw [e1, Nat.add_mul_div_right _ _ (p32_pos j), Nat.add_mul_mod_self_left]
      exact dv_div (dB_le hd (Nat.le_succ k)) (by omega)
theorem dig_rv {f : Nat → Int32} {k j : Nat} (h : j < k) : dig (rv f k) j = uI (f j) := dv_div (rB f k) h
theorem setd_rv {f : Nat → Int32} {k j : Nat} {w : Int32} (h : j < k) : rv (upd f j w) k = setd (rv f k) j (uI w) := by
  unfold setd
  rw [dig_rv h]
  have := rv_updk (f := f) (v := w) h
  omega
def sPokeMod (k : Nat) (i w : Int32) (M : Nat) (X : Nat → Nat) (rd r : Int32) (M' : Nat) (X' : Nat → Nat) (rd' : Int32) : Prop :=
  (∃ j, j < k ∧ i = nI j ∧ r = 1 ∧ M' = setd M j (uI w) ∧ X' = X ∧ rd' = 0) ∨ (¬ isR i k ∧ r = 0 ∧ M' = M ∧ X' = X ∧ rd' = rd)
def sPeekMod (k : Nat) (i : Int32) (M : Nat) (X : Nat → Nat) (rd r : Int32) (M' : Nat) (X' : Nat → Nat) (rd' : Int32) : Prop :=
  ((∃ j, j < k ∧ i = nI j ∧ r = nI (dig M j)) ∨ (¬ isR i k ∧ r = 0)) ∧ M' = M ∧ X' = X ∧ rd' = rd
def sInit (M : Nat) (X : Nat → Nat) (rd r : Int32) (M' : Nat) (X' : Nat → Nat) (rd' : Int32) : Prop :=
  M' = M ∧ X' = X ∧ ((M % 2 = 1 ∧ 3 ≤ M ∧ r = 0 ∧ rd' = 1) ∨ (¬ (M % 2 = 1 ∧ 3 ≤ M) ∧ r = 1 ∧ rd' = rd))
def sReady (M : Nat) (X : Nat → Nat) (rd r : Int32) (M' : Nat) (X' : Nat → Nat) (rd' : Int32) : Prop := r = rd ∧ M' = M ∧ X' = X ∧ rd' = rd
def sPoke (n k : Nat) (d i w : Int32) (M : Nat) (X : Nat → Nat) (rd r : Int32) (M' : Nat) (X' : Nat → Nat) (rd' : Int32) : Prop :=
  ((∃ e j, e < n ∧ j < k ∧ d = nI e ∧ i = nI j ∧ r = 1 ∧ X' = va_up X e (setd (X e) j (uI w))) ∨ (¬ (isR d n ∧ isR i k) ∧ r = 0 ∧ X' = X)) ∧ M' = M ∧ rd' = rd
def sPeek (n k : Nat) (d i : Int32) (M : Nat) (X : Nat → Nat) (rd r : Int32) (M' : Nat) (X' : Nat → Nat) (rd' : Int32) : Prop :=
  ((∃ e j, e < n ∧ j < k ∧ d = nI e ∧ i = nI j ∧ r = nI (dig (X e) j)) ∨ (¬ (isR d n ∧ isR i k) ∧ r = 0)) ∧ M' = M ∧ X' = X ∧ rd' = rd
/-- a call on registers d, a, b; Pv says what comes into d -/
def sReg (n : Nat) (Pv : Nat → Nat → Nat → Nat → Prop) (d a b : Int32) (M : Nat) (X : Nat → Nat) (rd r : Int32) (M' : Nat) (X' : Nat → Nat) (rd' : Int32) : Prop :=
  ((∃ d1 a1 b1 v, d1 < n ∧ a1 < n ∧ b1 < n ∧ d = nI d1 ∧ a = nI a1 ∧ b = nI b1 ∧ rd = 1 ∧ r = 1 ∧ Pv M (X a1) (X b1) v ∧ X' = va_up X d1 v) ∨ (¬ (rd = 1 ∧ isR d n ∧ isR a n ∧ isR b n) ∧ r = 0 ∧ X' = X)) ∧ M' = M ∧ rd' = rd
def pRes (M x _y v : Nat) : Prop := v = x % M
def pAdd (M x y v : Nat) : Prop := v = (x % M + y % M) % M
def pSub (M x y v : Nat) : Prop := v = dfm M (x % M) (y % M)
def pMul (M x y v : Nat) : Prop := v = x * y % M
def pMon (k M x y v : Nat) : Prop := M % 2 = 1 ∧ v < M ∧ v * 2 ^ (32 * k) % M = x * y % M
def pPow (M x y v : Nat) : Prop := v = x ^ y % M
def sInv (n : Nat) (d a : Int32) (M : Nat) (X : Nat → Nat) (rd r : Int32) (M' : Nat) (X' : Nat → Nat) (rd' : Int32) : Prop :=
  ((∃ d1 a1, d1 < n ∧ a1 < n ∧ d = nI d1 ∧ a = nI a1 ∧ rd = 1 ∧ ((∃ v, r = 0 ∧ Nat.gcd (X a1) M = 1 ∧ 0 < M ∧ v < M ∧ v * X a1 % M = 1 % M ∧ X' = va_up X d1 v) ∨ (r = 1 ∧ Nat.gcd (X a1) M ≠ 1 ∧ X' = X))) ∨ (¬ (rd = 1 ∧ isR d n ∧ isR a n) ∧ r = 2 ∧ X' = X)) ∧ M' = M ∧ rd' = rd
def sWit (n : Nat) (a : Int32) (M : Nat) (X : Nat → Nat) (rd r : Int32) (M' : Nat) (X' : Nat → Nat) (rd' : Int32) : Prop :=
  ((∃ a1 u, a1 < n ∧ a = nI a1 ∧ rd = 1 ∧ twos M u ∧ ((r = 1 ∧ wit M u (X a1)) ∨ (r = 0 ∧ ¬ wit M u (X a1)))) ∨ (¬ (rd = 1 ∧ isR a n) ∧ r = 2)) ∧ M' = M ∧ X' = X ∧ rd' = rd
def sCmp (n : Nat) (a b : Int32) (M : Nat) (X : Nat → Nat) (rd r : Int32) (M' : Nat) (X' : Nat → Nat) (rd' : Int32) : Prop :=
  ((∃ a1 b1, a1 < n ∧ b1 < n ∧ a = nI a1 ∧ b = nI b1 ∧ r = if X a1 < X b1 then -1 else if X a1 = X b1 then 0 else 1) ∨ (¬ (isR a n ∧ isR b n) ∧ r = 2)) ∧ M' = M ∧ X' = X ∧ rd' = rd
/-! each leaves one answer and one state -/
def one1 (r1 r2 : Int32) (M1 M2 : Nat) (X1 X2 : Nat → Nat) (d1 d2 : Int32) : Prop := r1 = r2 ∧ M1 = M2 ∧ X1 = X2 ∧ d1 = d2
section ON
variable {n k M M1 M2 : Nat} {X X1 X2 : Nat → Nat} {rd r1 r2 d1 d2 i w d a b : Int32}
theorem o_pokeMod (hk : k ≤ 8) (h1 : sPokeMod k i w M X rd r1 M1 X1 d1) (h2 : sPokeMod k i w M X rd r2 M2 X2 d2) : one1 r1 r2 M1 M2 X1 X2 d1 d2 := by
  rcases h1 with ⟨j, hj, e1, e2, e3, e4, e5⟩ | ⟨hn, e2, e3, e4, e5⟩ <;> rcases h2 with ⟨j', hj', f1, f2, f3, f4, f5⟩ | ⟨hn', f2, f3, f4, f5⟩
  · have := nI_inj8 hk hj hj' (e1.symm.trans f1)
    subst this
    exact ⟨e2.trans f2.symm, e3.trans f3.symm, e4.trans f4.symm, e5.trans f5.symm⟩
  · exact absurd ⟨j, hj, e1⟩ hn'
  · exact absurd ⟨j', hj', f1⟩ hn
  · exact ⟨e2.trans f2.symm, e3.trans f3.symm, e4.trans f4.symm, e5.trans f5.symm⟩
theorem o_peekMod (hk : k ≤ 8) (h1 : sPeekMod k i M X rd r1 M1 X1 d1) (h2 : sPeekMod k i M X rd r2 M2 X2 d2) : one1 r1 r2 M1 M2 X1 X2 d1 d2 := by
  obtain ⟨h1, e3, e4, e5⟩ := h1
  obtain ⟨h2, f3, f4, f5⟩ := h2
  refine ⟨?_, e3.trans f3.symm, e4.trans f4.symm, e5.trans f5.symm⟩
  rcases h1 with ⟨j, hj, e1, e2⟩ | ⟨hn, e2⟩ <;> rcases h2 with ⟨j', hj', f1, f2⟩ | ⟨hn', f2⟩
  · have := nI_inj8 hk hj hj' (e1.symm.trans f1)
    subst this
    exact e2.trans f2.symm
  · exact absurd ⟨j, hj, e1⟩ hn'
  · exact absurd ⟨j', hj', f1⟩ hn
  · exact e2.trans f2.symm
theorem o_init (h1 : sInit M X rd r1 M1 X1 d1) (h2 : sInit M X rd r2 M2 X2 d2) : one1 r1 r2 M1 M2 X1 X2 d1 d2 := by
  obtain ⟨e3, e4, h1⟩ := h1
  obtain ⟨f3, f4, h2⟩ := h2
  rcases h1 with ⟨a1, a2, e1, e2⟩ | ⟨a1, e1, e2⟩ <;> rcases h2 with ⟨b1, b2, f1, f2⟩ | ⟨b1, f1, f2⟩
  · exact ⟨e1.trans f1.symm, e3.trans f3.symm, e4.trans f4.symm, e2.trans f2.symm⟩
  · exact absurd ⟨a1, a2⟩ b1
  · exact absurd ⟨b1, b2⟩ a1
  · exact ⟨e1.trans f1.symm, e3.trans f3.symm, e4.trans f4.symm, e2.trans f2.symm⟩
theorem o_ready (h1 : sReady M X rd r1 M1 X1 d1) (h2 : sReady M X rd r2 M2 X2 d2) : one1 r1 r2 M1 M2 X1 X2 d1 d2 := ⟨h1.1.trans h2.1.symm, h1.2.1.trans h2.2.1.symm, h1.2.2.1.trans h2.2.2.1.symm, h1.2.2.2.trans h2.2.2.2.symm⟩
theorem o_poke (hn8 : n ≤ 8) (hk : k ≤ 8) (h1 : sPoke n k d i w M X rd r1 M1 X1 d1) (h2 : sPoke n k d i w M X rd r2 M2 X2 d2) : one1 r1 r2 M1 M2 X1 X2 d1 d2 := by
  obtain ⟨h1, e3, e5⟩ := h1
  obtain ⟨h2, f3, f5⟩ := h2
  rcases h1 with ⟨x, j, hx, hj, ex, e1, e2, e4⟩ | ⟨hn, e2, e4⟩ <;> rcases h2 with ⟨x', j', hx', hj', fx, f1, f2, f4⟩ | ⟨hn', f2, f4⟩
  · have q1 := nI_inj8 hk hj hj' (e1.symm.trans f1)
    have q2 := nI_inj8 hn8 hx hx' (ex.symm.trans fx)
    subst q1
    subst q2
    exact ⟨e2.trans f2.symm, e3.trans f3.symm, e4.trans f4.symm, e5.trans f5.symm⟩
  · exact absurd ⟨⟨x, hx, ex⟩, ⟨j, hj, e1⟩⟩ hn'
  · exact absurd ⟨⟨x', hx', fx⟩, ⟨j', hj', f1⟩⟩ hn
  · exact ⟨e2.trans f2.symm, e3.trans f3.symm, e4.trans f4.symm, e5.trans f5.symm⟩
theorem o_peek (hn8 : n ≤ 8) (hk : k ≤ 8) (h1 : sPeek n k d i M X rd r1 M1 X1 d1) (h2 : sPeek n k d i M X rd r2 M2 X2 d2) : one1 r1 r2 M1 M2 X1 X2 d1 d2 := by
  obtain ⟨h1, e3, e4, e5⟩ := h1
  obtain ⟨h2, f3, f4, f5⟩ := h2
  refine ⟨?_, e3.trans f3.symm, e4.trans f4.symm, e5.trans f5.symm⟩
  rcases h1 with ⟨x, j, hx, hj, ex, e1, e2⟩ | ⟨hn, e2⟩ <;> rcases h2 with ⟨x', j', hx', hj', fx, f1, f2⟩ | ⟨hn', f2⟩
  · have q1 := nI_inj8 hk hj hj' (e1.symm.trans f1)
    have q2 := nI_inj8 hn8 hx hx' (ex.symm.trans fx)
    subst q1
    subst q2
    exact e2.trans f2.symm
  · exact absurd ⟨⟨x, hx, ex⟩, ⟨j, hj, e1⟩⟩ hn'
  · exact absurd ⟨⟨x', hx', fx⟩, ⟨j', hj', f1⟩⟩ hn
  · exact e2.trans f2.symm
theorem o_reg {Pv : Nat → Nat → Nat → Nat → Prop} (hPv : ∀ M x y v v', Pv M x y v → Pv M x y v' → v = v') (hn8 : n ≤ 8) (h1 : sReg n Pv d a b M X rd r1 M1 X1 d1) (h2 : sReg n Pv d a b M X rd r2 M2 X2 d2) : one1 r1 r2 M1 M2 X1 X2 d1 d2 := by
  obtain ⟨h1, e3, e5⟩ := h1
  obtain ⟨h2, f3, f5⟩ := h2
  rcases h1 with ⟨x, y, z, v, hx, hy, hz, ex, ey, ez, er, e2, ev, e4⟩ | ⟨hn, e2, e4⟩ <;> rcases h2 with ⟨x', y', z', v', hx', hy', hz', fx, fy, fz, fr, f2, fv, f4⟩ | ⟨hn', f2, f4⟩
  · have q1 := nI_inj8 hn8 hx hx' (ex.symm.trans fx)
    have q2 := nI_inj8 hn8 hy hy' (ey.symm.trans fy)
    have q3 := nI_inj8 hn8 hz hz' (ez.symm.trans fz)
    subst q1
    subst q2
    subst q3
    have q4 := hPv _ _ _ _ _ ev fv
    subst q4
    exact ⟨e2.trans f2.symm, e3.trans f3.symm, e4.trans f4.symm, e5.trans f5.symm⟩
  · exact absurd ⟨er, ⟨x, hx, ex⟩, ⟨y, hy, ey⟩, ⟨z, hz, ez⟩⟩ hn'
  · exact absurd ⟨fr, ⟨x', hx', fx⟩, ⟨y', hy', fy⟩, ⟨z', hz', fz⟩⟩ hn
  · exact ⟨e2.trans f2.symm, e3.trans f3.symm, e4.trans f4.symm, e5.trans f5.symm⟩
theorem o_inv (hn8 : n ≤ 8) (h1 : sInv n d a M X rd r1 M1 X1 d1) (h2 : sInv n d a M X rd r2 M2 X2 d2) : one1 r1 r2 M1 M2 X1 X2 d1 d2 := by
  obtain ⟨h1, e3, e5⟩ := h1
  obtain ⟨h2, f3, f5⟩ := h2
  rcases h1 with ⟨x, y, hx, hy, ex, ey, er, h1⟩ | ⟨hn, e2, e4⟩ <;> rcases h2 with ⟨x', y', hx', hy', fx, fy, fr, h2⟩ | ⟨hn', f2, f4⟩
  · have q1 := nI_inj8 hn8 hx hx' (ex.symm.trans fx)
    have q2 := nI_inj8 hn8 hy hy' (ey.symm.trans fy)
    subst q1
    subst q2
    rcases h1 with ⟨v, e2, eg, em, el, ev, e4⟩ | ⟨e2, eg, e4⟩ <;> rcases h2 with ⟨v', f2, fg, fm, fl, fv, f4⟩ | ⟨f2, fg, f4⟩
    · have q4 := inv_unique em el fl ev fv
      subst q4
      exact ⟨e2.trans f2.symm, e3.trans f3.symm, e4.trans f4.symm, e5.trans f5.symm⟩
    · exact absurd eg fg
    · exact absurd fg eg
    · exact ⟨e2.trans f2.symm, e3.trans f3.symm, e4.trans f4.symm, e5.trans f5.symm⟩
  · exact absurd ⟨er, ⟨x, hx, ex⟩, ⟨y, hy, ey⟩⟩ hn'
  · exact absurd ⟨fr, ⟨x', hx', fx⟩, ⟨y', hy', fy⟩⟩ hn
  · exact ⟨e2.trans f2.symm, e3.trans f3.symm, e4.trans f4.symm, e5.trans f5.symm⟩
theorem o_wit (hn8 : n ≤ 8) (h1 : sWit n a M X rd r1 M1 X1 d1) (h2 : sWit n a M X rd r2 M2 X2 d2) : one1 r1 r2 M1 M2 X1 X2 d1 d2 := by
  obtain ⟨h1, e3, e4, e5⟩ := h1
  obtain ⟨h2, f3, f4, f5⟩ := h2
  refine ⟨?_, e3.trans f3.symm, e4.trans f4.symm, e5.trans f5.symm⟩
  rcases h1 with ⟨y, u, hy, ey, er, et, h1⟩ | ⟨hn, e2⟩ <;> rcases h2 with ⟨y', u', hy', fy, fr, ft, h2⟩ | ⟨hn', f2⟩
  · have q1 := nI_inj8 hn8 hy hy' (ey.symm.trans fy)
    have q2 := twos_same et ft
    subst q1
    subst q2
    rcases h1 with ⟨e2, ew⟩ | ⟨e2, ew⟩ <;> rcases h2 with ⟨f2, fw⟩ | ⟨f2, fw⟩
    · exact e2.trans f2.symm
    · exact absurd ew fw
    · exact absurd fw ew
    · exact e2.trans f2.symm
  · exact absurd ⟨er, ⟨y, hy, ey⟩⟩ hn'
  · exact absurd ⟨fr, ⟨y', hy', fy⟩⟩ hn
  · exact e2.trans f2.symm
theorem o_cmp (hn8 : n ≤ 8) (h1 : sCmp n a b M X rd r1 M1 X1 d1) (h2 : sCmp n a b M X rd r2 M2 X2 d2) : one1 r1 r2 M1 M2 X1 X2 d1 d2 := by
  obtain ⟨h1, e3, e4, e5⟩ := h1
  obtain ⟨h2, f3, f4, f5⟩ := h2
  refine ⟨?_, e3.trans f3.symm, e4.trans f4.symm, e5.trans f5.symm⟩
  rcases h1 with ⟨x, j, hx, hj, ex, e1, e2⟩ | ⟨hn, e2⟩ <;> rcases h2 with ⟨x', j', hx', hj', fx, f1, f2⟩ | ⟨hn', f2⟩
  · have q1 := nI_inj8 hn8 hj hj' (e1.symm.trans f1)
    have q2 := nI_inj8 hn8 hx hx' (ex.symm.trans fx)
    subst q1
    subst q2
    exact e2.trans f2.symm
  · exact absurd ⟨⟨x, hx, ex⟩, ⟨j, hj, e1⟩⟩ hn'
  · exact absurd ⟨⟨x', hx', fx⟩, ⟨j', hj', f1⟩⟩ hn
  · exact e2.trans f2.symm
end ON
theorem pMon_one {k M x y v v' : Nat} (h : pMon k M x y v) (h' : pMon k M x y v') : v = v' := by
  have h1 := cancelP h.1 (32 * k) (h.2.2.trans h'.2.2.symm)
  rw [Nat.mod_eq_of_lt h.2.1, Nat.mod_eq_of_lt h'.2.1] at h1
  exact h1
/-! ===== the class's side ===== -/
def cAbs (g : qCfg) (σ : qSt) (M : Nat) (X : Nat → Nat) : Prop := qV g σ.F 12 = M ∧ ∀ r, r < g.n → qV g σ.F (21 + r) = X r
def cInv (g : qCfg) (σ : qSt) : Prop := qV g σ.F 13 = 1 ∧ (σ.rd = 0 ∨ σ.rd = 1) ∧ (σ.rd = 1 → Pp g σ.F σ.mi)
def cCh (σ σ' : qSt) : Prop := σ'.J = σ.J ∧ σ'.rm = σ.rm
/-- what a call of the class leaves -/
def cPost (g : qCfg) (σ : qSt) (sp : Int32 → Nat → (Nat → Nat) → Int32 → Prop) : Int32 → qSt → Prop := fun r σ' => cCh σ σ' ∧ cInv g σ' ∧ ∃ M' X', cAbs g σ' M' X' ∧ sp r M' X' σ'.rd
theorem cAbs_up {g : qCfg} {σ : qSt} {F' : Nat → Nat → Int32} {M d v : Nat} {X : Nat → Nat} {l : List Nat} (h : cAbs g σ M X) (hf : Fr σ.F F' l) (hl : ∀ r, r ∈ l → 16 ≤ r ∧ r < 21 ∨ r = 21 + d) (hv : qV g F' (21 + d) = v) : cAbs g (σ.setF F') M (va_up X d v) := by
  refine ⟨(hf.V (fun q => by have := hl 12 q; omega)).trans h.1, fun r hr => ?_⟩
  by_cases q : r = d
  · subst q
    rw [va_up_self]
    exact hv
  · rw [va_up_ne _ _ q]
    exact (hf.V (fun z => by have := hl _ z; omega)).trans (h.2 r hr)
theorem cAbs_keep {g : qCfg} {σ : qSt} {F' : Nat → Nat → Int32} {M : Nat} {X : Nat → Nat} {l : List Nat} (h : cAbs g σ M X) (hf : Fr σ.F F' l) (hl : ∀ r, r ∈ l → 13 ≤ r ∧ r < 21) : cAbs g (σ.setF F') M X := by
  refine ⟨(hf.V (fun q => by have := hl 12 q; omega)).trans h.1, fun r hr => ?_⟩
  exact (hf.V (fun z => by have := hl _ z; omega)).trans (h.2 r hr)
theorem cInv_keep {g : qCfg} {σ : qSt} {F' : Nat → Nat → Int32} {l : List Nat} (h : cInv g σ) (hf : Fr σ.F F' l) (hl : ∀ r, r ∈ l → 16 ≤ r) : cInv g (σ.setF F') := ⟨(hf.V (fun q => by have := hl 13 q; omega)).trans h.1, h.2.1, fun q => ((h.2.2 q).keep hf hl).1⟩
