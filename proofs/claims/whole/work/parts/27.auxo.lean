/-! ===== the reference's side ===== -/
def mAbs (g : qCfg) (σ : qSt) (M : Nat) (X : Nat → Nat) : Prop := Nh σ.J 8 M ∧ M < 2 ^ (32 * g.k) ∧ ∀ r, r < g.n → Nh σ.J r (X r) ∧ X r < 2 ^ (32 * g.k)
def mInv (σ : qSt) (M : Nat) : Prop := (σ.rm = 0 ∨ σ.rm = 1) ∧ (σ.rm = 1 → M % 2 = 1 ∧ 3 ≤ M)
def mCh (σ σ' : qSt) : Prop := σ'.F = σ.F ∧ σ'.mi = σ.mi ∧ σ'.rd = σ.rd
def mPost (g : qCfg) (σ : qSt) (sp : Int32 → Nat → (Nat → Nat) → Int32 → Prop) : Int32 → qSt → Prop := fun r σ' => mCh σ σ' ∧ ∃ M' X', mAbs g σ' M' X' ∧ mInv σ' M' ∧ sp r M' X' σ'.rm
theorem mAbs_keep {g : qCfg} {σ : qSt} {J' : Nat → Nat → Int64} {M : Nat} {X : Nat → Nat} {l : List Nat} (h : mAbs g σ M X) (hf : Gr σ.J J' l) (hl : 4 ∉ l) : mAbs g (σ.setJ J') M X := ⟨hf.H hl h.1, h.2.1, fun r hr => ⟨hf.H hl (h.2.2 r hr).1, (h.2.2 r hr).2⟩⟩
theorem Nh_other {J J' : Nat → Nat → Int64} {e r v : Nat} (h : Nh J r v) (hre : r ≠ e) (ho : ∀ y, y < 9 * e ∨ 9 * e + 9 ≤ y → J' 4 y = J 4 y) : Nh J' r v := by
  have h1 : ∀ x, x < 9 → J' 4 (9 * r + x) = J 4 (9 * r + x) := fun x hx => ho _ (by omega)
  refine ⟨fun x hx => by show uL (J' 4 (9 * r + x)) < _; rw [h1 x hx]; exact h.1 x hx, ?_⟩
  rw [dv_cong (e := fun x => uL (J 4 (9 * r + x))) (fun x hx => by rw [h1 x hx])]
  exact h.2
theorem Nh_wr {J J' : Nat → Nat → Int64} {e i v : Nat} (h : Nb J i v) (hw : ∀ x, x < 9 → J' 4 (9 * e + x) = J i x) : Nh J' e v := by
  refine ⟨fun x hx => by show uL (J' 4 (9 * e + x)) < _; rw [hw x hx]; exact h.1 x hx, ?_⟩
  rw [dv_cong (e := fun x => uL (J i x)) (fun x hx => by rw [hw x hx])]
  exact h.2
/-- behind write(e, i) -/
theorem mAbs_wr {g : qCfg} {σ : qSt} {J J' : Nat → Nat → Int64} {M : Nat} {X : Nat → Nat} {e i v : Nat} (h : mAbs g (σ.setJ J) M X) (he : e < 8) (hN : Nb J i v) (hv : v < 2 ^ (32 * g.k)) (hw : ∀ x, x < 9 → J' 4 (9 * e + x) = J i x) (ho : ∀ y, y < 9 * e ∨ 9 * e + 9 ≤ y → J' 4 y = J 4 y) : mAbs g (σ.setJ J') M (va_up X e v) := by
  refine ⟨Nh_other h.1 (by omega) ho, h.2.1, fun r hr => ?_⟩
  by_cases q : r = e
  · subst q
    rw [va_up_self]
    exact ⟨Nh_wr hN hw, hv⟩
  · rw [va_up_ne _ _ q]
    exact ⟨Nh_other (h.2.2 r hr).1 q ho, (h.2.2 r hr).2⟩
theorem dv_dig (X : Nat) : ∀ k, dv (dig X) k = X % 2 ^ (32 * k)
  | 0 => by
    show 0 = X % 2 ^ (32 * 0)
    rw [Nat.mul_zero, Nat.pow_zero, Nat.mod_one]
  | k + 1 => by
    show dv (dig X) k + dig X k * 2 ^ (32 * k) = _
    rw [dv_dig X k, p32, Nat.mod_mul]
    unfold dig
    rw [Nat.mul_comm (X / 2 ^ (32 * k) % 4294967296)]
theorem setd_lt {X j w k : Nat} (hX : X < 2 ^ (32 * k)) (hj : j < k) (hw : w < 4294967296) : setd X j w < 2 ^ (32 * k) := by
  have h1 := dv_updk (d := dig X) (v := w) hj
  rw [dv_dig, Nat.mod_eq_of_lt hX] at h1
  have h2 : dB (va_up (dig X) j w) k := fun x hx => by
    by_cases q : x = j
    · rw [q, va_up_self]; exact hw
    · rw [va_up_ne _ _ q]; exact Nat.mod_lt _ (by decide)
  have h3 := dv_lt h2
  unfold setd
  omega
theorem Nh_dig {J : Nat → Nat → Int64} {r v j : Nat} (h : Nh J r v) (hj : j < 9) : uL (J 4 (9 * r + j)) = dig v j := by
  unfold dig
  rw [← h.2]
  exact (dv_div h.1 hj).symm
theorem Nh_set {J : Nat → Nat → Int64} {r v j w : Nat} (h : Nh J r v) (hj : j < 9) (hw : w < 4294967296) : Nh (va_up J 4 (va_up (J 4) (9 * r + j) (lN w))) r (setd v j w) := by
  have e1 : (fun x => uL (va_up J 4 (va_up (J 4) (9 * r + j) (lN w)) 4 (9 * r + x))) = va_up (fun x => uL (J 4 (9 * r + x))) j w := by
    funext x
    rw [va_up_self]
    by_cases q : x = j
    · rw [q, va_up_self, va_up_self, uL_lN (by omega)]
    · rw [va_up_ne _ _ (by omega), va_up_ne _ _ q]
  unfold Nh
  rw [e1]
  refine ⟨fun x hx => ?_, ?_⟩
  · by_cases q : x = j
    · rw [q, va_up_self]; exact hw
    · rw [va_up_ne _ _ q]; exact h.1 x hx
  · have h1 := dv_updk (d := fun x => uL (J 4 (9 * r + x))) (v := w) hj
    have h2 := Nh_dig h hj
    rw [h.2] at h1
    unfold setd
    rw [← h2]
    have h3 : dv (va_up (fun x => uL (J 4 (9 * r + x))) j w) 9 + uL (J 4 (9 * r + j)) * 2 ^ (32 * j) = v + w * 2 ^ (32 * j) := h1
    omega
theorem Nh_set_ne {J : Nat → Nat → Int64} {r e v j : Nat} {w : Int64} (h : Nh J r v) (hre : r ≠ e) (hj : j < 9) : Nh (va_up J 4 (va_up (J 4) (9 * e + j) w)) r v :=
  Nh_other h hre (fun y hy => by rw [va_up_self, va_up_ne _ _ (by omega)])
theorem lt256 {M k : Nat} (hk : k ≤ 8) (h : M < 2 ^ (32 * k)) : M < 2 ^ 256 := Nat.lt_of_lt_of_le h (Nat.pow_le_pow_right (by decide) (by omega))
theorem Nb_dec {J : Nat → Nat → Int64} {i v : Nat} (h : Nb J i v) (hb : 1 ≤ uL (J i 0)) : Nb (va_up J i (va_up (J i) 0 (lN (uL (J i 0) - 1)))) i (v - 1) := by
  have hb0 : uL (J i 0) < 4294967296 := h.1 0 (by decide)
  have hb1 : uL (J i 0) - 1 < 4294967296 := by omega
  unfold Nb
  rw [va_up_self, uL_up hb1]
  refine ⟨fun x hx => ?_, ?_⟩
  · by_cases q : x = 0
    · rw [q, va_up_self]; exact hb1
    · rw [va_up_ne _ _ q]; exact h.1 x hx
  · have h1 := dv_updk (d := fun y => uL (J i y)) (v := uL (J i 0) - 1) (show 0 < 9 by decide)
    rw [h.2] at h1
    have h2 : dv (va_up (fun y => uL (J i y)) 0 (uL (J i 0) - 1)) 9 + uL (J i 0) * 1 = v + (uL (J i 0) - 1) * 1 := h1
    omega
theorem hlf_mont {M J x z : Nat} (ho : M % 2 = 1) (h : x * 2 ^ J % M = z % M) : hlf M x * 2 ^ (J + 1) % M = z % M := by
  rw [← h, Nat.pow_succ, Nat.mul_comm (2 ^ J) 2, ← Nat.mul_assoc, Nat.mul_comm (hlf M x) 2]
  exact mm (hlf_two ho) rfl
theorem tw_odd {M y p : Nat} (h : M = 1 + 2 ^ y * p) (hy : 1 ≤ y) (hp : p % 2 = 1) : twos M y ∧ M / 2 ^ y = p := by
  have h1 : 1 < 2 ^ y := Nat.one_lt_two_pow (by omega)
  have h2 : M / 2 ^ y = p := by rw [h, Nat.add_mul_div_left _ _ (by omega), Nat.div_eq_of_lt h1, Nat.zero_add]
  refine ⟨⟨hy, by rw [h, Nat.add_mul_mod_self_left, Nat.mod_eq_of_lt h1], by rw [h2]; exact hp⟩, h2⟩
theorem tw_lt {M y p : Nat} (h : M = 1 + 2 ^ y * p) (hp : 0 < p) (hM : M < 2 ^ 256) : y < 256 := by
  rcases Nat.lt_or_ge y 256 with q | q
  · exact q
  · have h1 : 2 ^ 256 ≤ 2 ^ y := Nat.pow_le_pow_right (by decide) q
    have h2 : 2 ^ y * 1 ≤ 2 ^ y * p := Nat.mul_le_mul_left _ hp
    omega
