theorem lor_B {a d : Nat} (hd : d < 4294967296) (ha : a < 4294967296) : lN (a * 4294967296) ||| lN d = lN (a * 4294967296 + d) := by
  rw [wb_or (by omega) (by omega)]
  congr 1
  rw [Nat.mul_comm]
  exact (Nat.two_pow_add_eq_or_of_lt (i := 32) hd a).symm
theorem dv_shift {d : Nat → Nat} : ∀ {k : Nat}, dv d (k + 1) = d 0 + 4294967296 * dv (fun y => d (y + 1)) k
  | 0 => by show 0 + d 0 * 2 ^ (32 * 0) = d 0 + 4294967296 * 0; omega
  | k + 1 => by
    show dv d (k + 1) + d (k + 1) * 2 ^ (32 * (k + 1)) = d 0 + 4294967296 * (dv (fun y => d (y + 1)) k + d (k + 1) * 2 ^ (32 * k))
    rw [dv_shift, p32]
    grind
/-- a row that has lost its lowest limb, t on top -/
theorem drop_num {g : qCfg} {F0 F : Nat → Nat → Int32} {i t : Nat} (hk : 1 ≤ g.k) (h1 : ∀ y, y < g.k - 1 → F i y = F0 i (y + 1)) (h2 : F i (g.k - 1) = nI t) : qV g F i + t / 4294967296 * 2 ^ (32 * g.k) = qV g F0 i / 4294967296 + t * 2 ^ (32 * (g.k - 1)) := by
  obtain ⟨k, hk'⟩ : ∃ k, g.k = k + 1 := ⟨g.k - 1, by omega⟩
  have e1 : qV g F i = dv (fun y => uI (F0 i (y + 1))) k + t % 4294967296 * 2 ^ (32 * k) := by
    unfold qV rv
    rw [hk', dv_step (e := fun y => uI (F0 i (y + 1))) (fun x hx => by rw [h1 x (by omega)])]
    rw [show k = g.k - 1 by omega, h2, uI_nI]
  have e2 : qV g F0 i = uI (F0 i 0) + 4294967296 * dv (fun y => uI (F0 i (y + 1))) k := by
    unfold qV rv
    rw [hk']
    exact dv_shift
  have h3 := uI_lt (F0 i 0)
  have e3 : qV g F0 i / 4294967296 = dv (fun y => uI (F0 i (y + 1))) k := by rw [e2]; omega
  rw [e1, e3, hk', p32, show k + 1 - 1 = k by omega]
  have e4 : t * 2 ^ (32 * k) = (t % 4294967296 + t / 4294967296 * 4294967296) * 2 ^ (32 * k) := by
    congr 1
    omega
  rw [e4]
  grind
theorem rv_updk {f : Nat → Int32} {y : Nat} {v : Int32} : ∀ {k : Nat}, y < k → rv (upd f y v) k + uI (f y) * 2 ^ (32 * y) = rv f k + uI v * 2 ^ (32 * y)
  | 0, h => absurd h (Nat.not_lt_zero y)
  | k + 1, h => by
    rw [rv_succ, rv_succ]
    by_cases q : y = k
    · subst q
      rw [pk_us, rv_cong (h := f) (fun x hx => pk_un (by omega))]
      omega
    · have ih := rv_updk (f := f) (v := v) (show y < k by omega)
      rw [pk_un (by omega)]
      omega
theorem st_half {R R' D P a0 d T v Z : Nat} (hT : 2 * v + T % 2 = a0 * 4294967296 + d) (h1 : R' + d * P = R + v * P) (hv : 2 * R + a0 * (P * 4294967296) = Z + (D + d * P)) : 2 * R' + T % 2 * P = Z + D := by
  have : (2 * v + T % 2) * P = (a0 * 4294967296 + d) * P := by rw [hT]
  generalize T % 2 = u at *
  grind
