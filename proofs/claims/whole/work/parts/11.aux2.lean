theorem fa_boolp {c : Prop} {d : Decidable c} {r : Int32} (h : r = if c then 1 else 0) : (r = 0 ↔ ¬ c) ∧ (¬ r = 0 ↔ c) := by
  by_cases q : c
  · rw [if_pos q] at h
    subst h
    exact ⟨⟨fun z => absurd z (by decide), fun z => absurd q z⟩, ⟨fun _ => q, fun _ => by decide⟩⟩
  · rw [if_neg q] at h
    subst h
    exact ⟨⟨fun _ => q, fun _ => rfl⟩, ⟨fun z => absurd rfl z, fun z => absurd z q⟩⟩
theorem ushr_amt : ∀ n, n < 32 → (((nI n).toUInt32 &&& Int32.toUInt32 31).toBitVec % 32).toNat = n := by decide +kernel
theorem ushr_nI (x : Int32) {n : Nat} (hn : n < 32) : (x.toUInt32 >>> ((nI n : Int32).toUInt32 &&& Int32.toUInt32 31)).toInt32 = nI (uI x / 2 ^ n) := by
  apply uI_inj
  have h1 : uI x / 2 ^ n < 4294967296 := Nat.lt_of_le_of_lt (Nat.div_le_self _ _) (uI_lt x)
  rw [uI_nI' h1]
  exact pk_ushr x (nI n) n (ushr_amt n hn)
/-- the highest bit isn't set: the number is smaller -/
theorem tb_down {v x : Nat} (h : v < 2 ^ (x + 1)) (h0 : ¬ v.testBit x = true) : v < 2 ^ x := by
  rw [Nat.testBit_eq_decide_div_mod_eq] at h0
  have h1 : v / 2 ^ x < 2 := Nat.div_lt_of_lt_mul (by rw [← Nat.pow_succ]; exact h)
  have h2 : ¬ v / 2 ^ x % 2 = 1 := fun q => h0 (by simp [q])
  have h3 : v / 2 ^ x = 0 := by
    generalize v / 2 ^ x = z at h1 h2
    omega
  exact (Nat.div_eq_zero_iff_lt (Nat.pow_pos (by decide))).mp h3
theorem lcmp_ge {a b : Nat} (ha : a < 2 ^ 63) (hb : b < 2 ^ 63) : 0 ≤ lg_cmp (lN a) (lN b) ↔ b ≤ a := by
  unfold lg_cmp
  by_cases h1 : lN a > lN b
  · rw [if_pos h1]
    have := (pk_lLT hb ha).mp h1
    exact ⟨fun _ => by omega, fun _ => by decide⟩
  · rw [if_neg h1]
    have h2 : ¬ b < a := fun q => h1 ((pk_lLT hb ha).mpr q)
    by_cases h3 : lN a = lN b
    · rw [if_pos h3]
      have := (pk_lEQ ha hb).mp h3
      exact ⟨fun _ => by omega, fun _ => by decide⟩
    · rw [if_neg h3]
      have : ¬ a = b := fun q => h3 (by rw [q])
      exact ⟨fun q => absurd q (by decide), fun q => by omega⟩
