theorem Nh.rd {J J' : Nat → Nat → Int64} {i r v : Nat} (h : Nh J r v) (he : ∀ x, x < 9 → J' i x = J 4 (9 * r + x)) : Nb J' i v := by
  refine ⟨fun x hx => by show uL (J' i x) < _; rw [he x hx]; exact h.1 x hx, ?_⟩
  rw [dv_cong (e := fun x => uL (J 4 (9 * r + x))) (fun x hx => by rw [he x hx])]
  exact h.2
theorem lor_1 {a : Nat} (h : a % 2 = 0) (ha : a < 4294967296) : lN a ||| 1 = lN (a + 1) := by
  have h1 : lN a ||| lN 1 = lN (a ||| 1) := wb_or (by omega) (by decide)
  have h2 : a ||| 1 = a + 1 := by
    obtain ⟨b, hb⟩ : ∃ b, a = 2 ^ 1 * b := ⟨a / 2, by omega⟩
    rw [hb]
    exact (Nat.two_pow_add_eq_or_of_lt (i := 1) (b := 1) (by decide) b).symm
  rw [← h2]
  exact h1
/-- the lowest limb, even, becomes one more -/
theorem Nb_inc {J : Nat → Nat → Int64} {i v : Nat} (h : Nb J i v) (hb : uL (J i 0) + 1 < 4294967296) : Nb (va_up J i (va_up (J i) 0 (lN (uL (J i 0) + 1)))) i (v + 1) := by
  unfold Nb
  rw [va_up_self, uL_up hb]
  refine ⟨fun x hx => ?_, ?_⟩
  · by_cases q : x = 0
    · rw [q, va_up_self]; exact hb
    · rw [va_up_ne _ _ q]; exact h.1 x hx
  · have h1 := dv_updk (d := fun y => uL (J i y)) (v := uL (J i 0) + 1) (show 0 < 9 by decide)
    rw [h.2] at h1
    have h2 : dv (va_up (fun y => uL (J i y)) 0 (uL (J i 0) + 1)) 9 + uL (J i 0) * 1 = v + (uL (J i 0) + 1) * 1 := h1
    omega
