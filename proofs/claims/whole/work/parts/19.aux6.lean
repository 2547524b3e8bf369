/-! ===== the binary rule for inverses ===== -/
def hlf (m v : Nat) : Nat := if v % 2 = 1 then (v + m) / 2 else v / 2
def dfm (m x y : Nat) : Nat := if y ≤ x then x - y else x + m - y
theorem hlf_lt {m v : Nat} (h : v < m) : hlf m v < m := by unfold hlf; split <;> omega
theorem hlf_two {m v : Nat} (ho : m % 2 = 1) : 2 * hlf m v % m = v % m := by
  unfold hlf
  split
  · rw [show 2 * ((v + m) / 2) = v + m by omega, Nat.add_mod_right]
  · rw [show 2 * (v / 2) = v by omega]
theorem dfm_lt {m x y : Nat} (h : x < m) : dfm m x y < m := by unfold dfm; split <;> omega
theorem dfm_add {m x y : Nat} (hy : y < m) : (dfm m x y + y) % m = x % m := by
  unfold dfm
  split
  · rw [show x - y + y = x by omega]
  · rw [show x + m - y + y = x + m by omega, Nat.add_mod_right]
theorem add_can {m p q r : Nat} (hm : 0 < m) (h : (p + r) % m = (q + r) % m) : p % m = q % m := by
  have e : ∀ z, (z + r + (m - r % m)) % m = z % m := fun z => by
    have h1 := Nat.mod_lt r hm
    have h2 := Nat.div_add_mod r m
    rw [show z + r + (m - r % m) = z + m * (r / m + 1) by rw [Nat.mul_add]; omega, Nat.add_mul_mod_self_left]
  rw [← e p, ← e q, Nat.add_mod, h, ← Nat.add_mod]
def gInv (m a l r u v : Nat) : Prop := u < m ∧ v < m ∧ u * a % m = l % m ∧ v * a % m = r % m ∧ Nat.gcd l r = Nat.gcd a m
theorem gcd_half {l r : Nat} (hl : l % 2 = 0) (hr : r % 2 = 1) : Nat.gcd (l / 2) r = Nat.gcd l r := by
  have hc : Nat.Coprime 2 r := by
    unfold Nat.Coprime
    have h1 := Nat.gcd_dvd_left 2 r
    have h2 := Nat.gcd_dvd_right 2 r
    have h3 : Nat.gcd 2 r ≤ 2 := Nat.le_of_dvd (by decide) h1
    have h4 : 0 < Nat.gcd 2 r := Nat.gcd_pos_of_pos_left _ (by decide)
    rcases (show Nat.gcd 2 r = 1 ∨ Nat.gcd 2 r = 2 by omega) with q | q
    · exact q
    · rw [q] at h2
      omega
  have e : l = 2 * (l / 2) := by omega
  have h5 := Nat.Coprime.gcd_mul_left_cancel (l / 2) hc
  rw [← e] at h5
  exact h5.symm
theorem gInv_half {m a l r u v : Nat} (ho : m % 2 = 1) (h : gInv m a l r u v) (hl : l % 2 = 0) (hr : r % 2 = 1) : gInv m a (l / 2) r (hlf m u) v := by
  obtain ⟨h1, h2, h3, h4, h5⟩ := h
  refine ⟨hlf_lt h1, h2, ?_, h4, by rw [gcd_half hl hr]; exact h5⟩
  apply cancel2 ho
  rw [← Nat.mul_assoc, mm (hlf_two (v := u) ho) (rfl : a % m = a % m), h3]
  congr 1
  omega
theorem gInv_sub {m a l r u v : Nat} (hm : 0 < m) (h : gInv m a l r u v) (hle : r ≤ l) : gInv m a (l - r) r (dfm m u v) v := by
  obtain ⟨h1, h2, h3, h4, h5⟩ := h
  refine ⟨dfm_lt h1, h2, ?_, h4, by rw [Nat.gcd_sub_self_left hle]; exact h5⟩
  apply add_can (r := r) hm
  rw [show l - r + r = l by omega, ← h3, Nat.add_mod, ← h4, ← Nat.add_mod, ← Nat.add_mul]
  exact mm (dfm_add h2) rfl
theorem gInv_swap {m a l r u v : Nat} (h : gInv m a l r u v) : gInv m a r l v u := ⟨h.2.1, h.1, h.2.2.2.1, h.2.2.1, by rw [Nat.gcd_comm]; exact h.2.2.2.2⟩
/-- what it says at the end -/
theorem gInv_end {m a r u v : Nat} (h : gInv m a 0 r u v) : r = Nat.gcd a m ∧ (r = 1 → v * a % m = 1 % m) := by
  have h5 := h.2.2.2.2
  rw [Nat.gcd_zero_left] at h5
  exact ⟨h5, fun q => by rw [h.2.2.2.1, q]⟩
theorem inv_unique {m a x y : Nat} (hm : 0 < m) (hx : x < m) (hy : y < m) (h1 : x * a % m = 1 % m) (h2 : y * a % m = 1 % m) : x = y := by
  have e : x * a * y % m = y * a * x % m := by congr 1; grind
  rw [mm h1 (rfl : y % m = y % m), mm h2 (rfl : x % m = x % m), Nat.one_mul, Nat.one_mul, Nat.mod_eq_of_lt hx, Nat.mod_eq_of_lt hy] at e
  exact e.symm
/-- the rule's step in the class -/
def gstep (m : Nat) (l r u v : Nat) : Nat × Nat × Nat × Nat := if l % 2 = 1 then (if l < r then (r - l, l, dfm m v u, u) else (l - r, r, dfm m u v, v)) else (l / 2, r, hlf m u, v)
theorem gstep_ok {m a l r u v L : Nat} (ho : m % 2 = 1) (h : gInv m a l r u v) (hr : r % 2 = 1) (hl : 0 < l) (hL : l * r < 2 ^ L) {l' r' u' v' : Nat} (e : (l', r', u', v') = gstep m l r u v) : gInv m a l' r' u' v' ∧ r' % 2 = 1 ∧ ∃ L', l' * r' < 2 ^ L' ∧ 2 * L' + l' % 2 + 1 ≤ 2 * L + l % 2 := by
  have hm : 0 < m := by omega
  unfold gstep at e
  split at e
  · rename_i ho'
    split at e
    · rename_i hlt
      cases e
      refine ⟨gInv_sub hm (gInv_swap h) (Nat.le_of_lt hlt), ho', L, ?_, by omega⟩
      have : (r - l) * l ≤ r * l := Nat.mul_le_mul_right _ (by omega)
      rw [Nat.mul_comm r l] at this
      omega
    · rename_i hlt
      cases e
      refine ⟨gInv_sub hm h (by omega), hr, L, ?_, by omega⟩
      have : (l - r) * r ≤ l * r := Nat.mul_le_mul_right _ (by omega)
      omega
  · rename_i he
    cases e
    refine ⟨gInv_half ho h (by omega) hr, hr, ?_⟩
    have h1 : l * r = 2 * (l / 2 * r) := by
      rw [← Nat.mul_assoc]
      congr 1
      omega
    have h2 : 1 ≤ l / 2 * r := Nat.mul_pos (by omega) (by omega)
    cases L with
    | zero => rw [Nat.pow_zero] at hL; omega
    | succ L => exact ⟨L, by rw [Nat.pow_succ] at hL; omega, by omega⟩
/-! ===== Miller's rule ===== -/
def wit (m s x : Nat) : Prop := ¬ x % m = 0 ∧ ¬ x ^ (m / 2 ^ s) % m = 1 ∧ ∀ i, i < s → ¬ x ^ (m / 2 ^ s * 2 ^ i) % m = m - 1
def twos (m s : Nat) : Prop := 1 ≤ s ∧ m % 2 ^ s = 1 ∧ m / 2 ^ s % 2 = 1
theorem twos_next {m s : Nat} (h : m % 2 ^ s = 1) (h0 : ¬ m.testBit s = true) : m % 2 ^ (s + 1) = 1 := by
  rw [Nat.testBit_eq_decide_div_mod_eq] at h0
  have h1 : m / 2 ^ s % 2 = 0 := by
    have : ¬ m / 2 ^ s % 2 = 1 := fun q => h0 (by simp [q])
    omega
  rw [Nat.mod_pow_succ, h, h1, Nat.mul_zero]
theorem twos_end {m s : Nat} (h : m % 2 ^ s = 1) (h3 : 3 ≤ m) (hb : m < 2 ^ (s + 1)) : m / 2 ^ s % 2 = 1 := by
  have h1 := Nat.div_add_mod m (2 ^ s)
  have h2 : m / 2 ^ s < 2 := Nat.div_lt_of_lt_mul (by rw [← Nat.pow_succ]; exact hb)
  rcases (show m / 2 ^ s = 0 ∨ m / 2 ^ s = 1 by generalize m / 2 ^ s = z at h2; omega) with q | q
  · rw [q, Nat.mul_zero] at h1
    omega
  · rw [q]
theorem twos_one {m : Nat} : ∀ {s s' : Nat}, m % 2 ^ s = 1 → m / 2 ^ s % 2 = 1 → 1 ≤ s → m % 2 ^ s' = 1 → m / 2 ^ s' % 2 = 1 → 1 ≤ s' → s ≤ s' := by
  intro s s' h1 h2 h3 h4 h5 h6
  rcases Nat.lt_or_ge s' s with q | q
  · exfalso
    obtain ⟨d, rfl⟩ : ∃ d, s = s' + 1 + d := ⟨s - s' - 1, by omega⟩
    have e : m % 2 ^ (s' + 1) = 1 := by
      have h7 : m % 2 ^ (s' + 1 + d) % 2 ^ (s' + 1) = m % 2 ^ (s' + 1) := Nat.mod_mod_of_dvd _ ⟨2 ^ d, by rw [← Nat.pow_add]⟩
      rw [← h7, h1, Nat.mod_eq_of_lt (Nat.one_lt_two_pow (by omega))]
    rw [Nat.mod_pow_succ, h4, h5] at e
    have := Nat.pow_pos (n := s') (show 0 < 2 by decide)
    omega
  · exact q
theorem twos_same {m s s' : Nat} (h : twos m s) (h' : twos m s') : s = s' := Nat.le_antisymm (twos_one h.2.1 h.2.2 h.1 h'.2.1 h'.2.2 h'.1) (twos_one h'.2.1 h'.2.2 h'.1 h.2.1 h.2.2 h.1)
theorem R_ne {m J : Nat} (ho : m % 2 = 1) (h3 : 3 ≤ m) : 2 ^ J % m ≠ 0 := fun q => by
  have h1 := cancelP ho J (x := 1) (y := 0) (by rw [Nat.one_mul, Nat.zero_mul, q, Nat.zero_mod])
  rw [Nat.mod_eq_of_lt (by omega), Nat.zero_mod] at h1
  omega
theorem m1R {m R : Nat} (h3 : 3 ≤ m) (hR : R % m ≠ 0) : (m - 1) * R % m = m - R % m := by
  have h1 := Nat.mod_lt R (show 0 < m by omega)
  rw [← Nat.mul_mod_mod]
  obtain ⟨ρ, hρ⟩ : ∃ ρ, R % m = ρ + 1 := ⟨R % m - 1, by omega⟩
  rw [hρ]
  obtain ⟨n, hn⟩ : ∃ n, m = n + 1 := ⟨m - 1, by omega⟩
  rw [show (m - 1) * (ρ + 1) = (m - (ρ + 1)) + m * ρ by
    obtain ⟨d, hd⟩ : ∃ d, m = ρ + 1 + d := ⟨m - (ρ + 1), by omega⟩
    rw [hd, show ρ + 1 + d - 1 = ρ + d by omega, show ρ + 1 + d - (ρ + 1) = d by omega]
    grind, Nat.add_mul_mod_self_left, Nat.mod_eq_of_lt (by omega)]
/-- in Montgomery's form: is it 1, is it m - 1 -/
theorem mf_is {m J V y z : Nat} (ho : m % 2 = 1) (hV : V % m = y * 2 ^ J % m) : V % m = z * 2 ^ J % m ↔ y % m = z % m := ⟨fun h => cancelP ho J (hV.symm.trans h), fun h => by rw [hV]; exact mm h rfl⟩
theorem twos_ex {m : Nat} (ho : m % 2 = 1) (h3 : 3 ≤ m) : ∃ s, twos m s := by
  have key : ∀ n x, 1 ≤ x → m % 2 ^ x = 1 → m < 2 ^ (x + n) → ∃ s, twos m s := by
    intro n
    induction n with
    | zero =>
      intro x h1 h2 h4
      rw [Nat.add_zero] at h4
      rw [Nat.mod_eq_of_lt h4] at h2
      omega
    | succ n ih =>
      intro x h1 h2 h4
      by_cases q : m.testBit x = true
      · refine ⟨x, h1, h2, ?_⟩
        rw [Nat.testBit_eq_decide_div_mod_eq] at q
        simpa using q
      · exact ih (x + 1) (by omega) (twos_next h2 q) (by rw [show x + 1 + n = x + (n + 1) by omega]; exact h4)
  exact key m 1 (by omega) ho (Nat.lt_of_lt_of_le Nat.lt_two_pow_self (Nat.pow_le_pow_right (by decide) (by omega)))
