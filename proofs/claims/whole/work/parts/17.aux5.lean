/-! ===== modulo an odd number ===== -/
theorem cancel2 {m x y : Nat} (ho : m % 2 = 1) (h : 2 * x % m = 2 * y % m) : x % m = y % m := by
  obtain ⟨z, hm⟩ : ∃ z, m = 2 * z + 1 := ⟨m / 2, by omega⟩
  have key : ∀ x, x % m = ((z + 1) * (2 * x % m)) % m := fun x => by
    rw [Nat.mul_mod_mod, show (z + 1) * (2 * x) = x + m * x by rw [hm]; grind, Nat.add_mul_mod_self_left]
  rw [key x, h, ← key y]
theorem cancelP {m : Nat} (ho : m % 2 = 1) : ∀ (j : Nat) {x y : Nat}, x * 2 ^ j % m = y * 2 ^ j % m → x % m = y % m
  | 0, x, y, h => by rw [Nat.pow_zero, Nat.mul_one, Nat.mul_one] at h; exact h
  | j + 1, x, y, h => by
    refine cancelP ho j (cancel2 ho ?_)
    rw [show 2 * (x * 2 ^ j) = x * 2 ^ (j + 1) by rw [Nat.pow_succ]; grind, show 2 * (y * 2 ^ j) = y * 2 ^ (j + 1) by rw [Nat.pow_succ]; grind]
    exact h
theorem mm {a b c d m : Nat} (h1 : a % m = b % m) (h2 : c % m = d % m) : a * c % m = b * d % m := by rw [Nat.mul_mod, h1, h2, ← Nat.mul_mod]
/-- the rows that prepare() has made -/
def Pp (g : qCfg) (F : Nat → Nat → Int32) (mi : Int32) : Prop := qV g F 12 % 2 = 1 ∧ 3 ≤ qV g F 12 ∧ qV g F 13 = 1 ∧ qV g F 14 = 2 ^ (32 * g.k) % qV g F 12 ∧ qV g F 15 = 2 ^ (32 * g.k) * 2 ^ (32 * g.k) % qV g F 12 ∧ (uI mi * qV g F 12 + 1) % 4294967296 = 0
theorem Pp.keep {g : qCfg} {F F' : Nat → Nat → Int32} {mi : Int32} {l : List Nat} (h : Pp g F mi) (hf : Fr F F' l) (hl : ∀ r, r ∈ l → 16 ≤ r) : Pp g F' mi ∧ qV g F' 12 = qV g F 12 := by
  have e : ∀ r, r < 16 → qV g F' r = qV g F r := fun r hr => hf.V (fun q => by have := hl r q; omega)
  refine ⟨?_, e 12 (by decide)⟩
  unfold Pp
  rw [e 12 (by decide), e 13 (by decide), e 14 (by decide), e 15 (by decide)]
  exact h
theorem Pp.pos {g : qCfg} {F : Nat → Nat → Int32} {mi : Int32} (h : Pp g F mi) : 0 < qV g F 12 := by have := h.2.1; omega
theorem Pp.lt13 {g : qCfg} {F : Nat → Nat → Int32} {mi : Int32} (h : Pp g F mi) : qV g F 13 < qV g F 12 := by have := h.2.1; have := h.2.2.1; omega
theorem Pp.lt14 {g : qCfg} {F : Nat → Nat → Int32} {mi : Int32} (h : Pp g F mi) : qV g F 14 < qV g F 12 := by rw [h.2.2.2.1]; exact Nat.mod_lt _ h.pos
theorem Pp.lt15 {g : qCfg} {F : Nat → Nat → Int32} {mi : Int32} (h : Pp g F mi) : qV g F 15 < qV g F 12 := by rw [h.2.2.2.2.1]; exact Nat.mod_lt _ h.pos
theorem mlt_r {g : qCfg} {F : Nat → Nat → Int32} {j r m : Nat} (h : qV g F r < m) : qV g F j * qV g F r < 2 ^ (32 * g.k) * m := Nat.mul_lt_mul'' qV_lt h
theorem mlt_l {g : qCfg} {F : Nat → Nat → Int32} {j r m : Nat} (h : qV g F j < m) : qV g F j * qV g F r < 2 ^ (32 * g.k) * m := by
  rw [Nat.mul_comm]
  exact Nat.mul_lt_mul'' qV_lt h
theorem ge16 {i : Nat} (h : 17 ≤ i) : ∀ r, r ∈ [16, i] → 16 ≤ r := fun r hr => by
  simp only [List.mem_cons, List.not_mem_nil, or_false] at hr
  omega
section MF
variable {m z x y x1 x2 y1 y2 r2 J c : Nat}
/-- into Montgomery's form -/
theorem mf_to (ho : m % 2 = 1) (hr : r2 = 2 ^ J * 2 ^ J % m) (hz : z * 2 ^ J % m = x * r2 % m) : z % m = x * 2 ^ J % m := by
  apply cancelP ho J
  rw [hz, hr, Nat.mul_mod_mod, Nat.mul_assoc]
theorem mf_mul (ho : m % 2 = 1) (hz : z * 2 ^ J % m = y1 * y2 % m) (h1 : y1 % m = x1 * 2 ^ J % m) (h2 : y2 % m = x2 * 2 ^ J % m) : z % m = x1 * x2 * 2 ^ J % m := by
  apply cancelP ho J
  rw [hz, mm h1 h2]
  congr 1
  grind
/-- a plain number times one in Montgomery's form -/
theorem mf_mul1 (ho : m % 2 = 1) (hz : z * 2 ^ J % m = y1 * y2 % m) (h1 : y1 % m = x1 * 2 ^ J % m) : z % m = x1 * y2 % m := by
  apply cancelP ho J
  rw [hz, mm h1 (rfl : y2 % m = y2 % m)]
  congr 1
  grind
theorem mf_from (ho : m % 2 = 1) (hz : z * 2 ^ J % m = y * 1 % m) (h : y % m = x * 2 ^ J % m) : z % m = x % m := by
  apply cancelP ho J
  rw [hz, Nat.mul_one, h]
end MF
theorem pw_step {c e m J y b : Nat} (hy : y % m = c ^ (e / 2 ^ (b + 1)) * c ^ (e / 2 ^ (b + 1)) * 2 ^ J % m) (h0 : ¬ e.testBit b = true) : y % m = c ^ (e / 2 ^ b) * 2 ^ J % m := by
  rw [hy, ← Nat.pow_add]
  congr 3
  rw [Nat.testBit_eq_decide_div_mod_eq] at h0
  have h1 : ¬ e / 2 ^ b % 2 = 1 := fun q => h0 (by simp [q])
  rw [Nat.pow_succ, ← Nat.div_div_eq_div_mul]
  generalize e / 2 ^ b = z at h1
  omega
theorem pw_step1 {c e m J y b : Nat} (hy : y % m = c ^ (e / 2 ^ (b + 1)) * c ^ (e / 2 ^ (b + 1)) * c * 2 ^ J % m) (h0 : e.testBit b = true) : y % m = c ^ (e / 2 ^ b) * 2 ^ J % m := by
  rw [hy, ← Nat.pow_add, ← Nat.pow_succ]
  congr 3
  rw [Nat.testBit_eq_decide_div_mod_eq] at h0
  have h1 : e / 2 ^ b % 2 = 1 := by simpa using h0
  rw [Nat.pow_succ, ← Nat.div_div_eq_div_mul]
  generalize e / 2 ^ b = z at h1
  omega
theorem neg_lt_nI {u : Nat} (h : u < 2 ^ 31) : nI 0 - 1 < nI u := by
  rw [Int32.lt_iff_toInt_lt, nI_toInt h, show (nI 0 - 1).toInt = -1 by decide]
  omega
