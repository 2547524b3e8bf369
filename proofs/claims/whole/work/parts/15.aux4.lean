/-! ===== numbers for Ring ===== -/
theorem mod_two {x m : Nat} (h1 : m ≤ x) (h2 : x < 2 * m) : x % m = x - m := by
  rw [Nat.mod_eq_sub_mod h1, Nat.mod_eq_of_lt (by omega)]
theorem bring_num {V m R V' c t : Nat} (hm : m < R) (ht : t ≤ 1) (h : V + t * R < 2 * m) (hge : t ≠ 0 ∨ m ≤ V) (hs : V' + m = V + c * R) (hc : c ≤ 1) (hV : V' < R) : V' = (V + t * R) % m := by
  rcases (show t = 0 ∨ t = 1 by omega) with rfl | rfl <;> rcases (show c = 0 ∨ c = 1 by omega) with rfl | rfl
  · rw [mod_two (by omega) (by omega)]; omega
  · omega
  · omega
  · rw [mod_two (by omega) (by omega)]; omega
theorem lcmp_0 {t : Nat} (ht : t < 2 ^ 63) : lg_cmp (lN t) 0 = 0 ↔ t = 0 := by
  unfold lg_cmp
  by_cases h1 : lN t > 0
  · rw [if_pos h1]
    have := (pk_lLT (a := 0) (by decide) ht).mp h1
    exact ⟨fun q => absurd q (by decide), fun q => by omega⟩
  · rw [if_neg h1]
    have h2 : ¬ 0 < t := fun q => h1 ((pk_lLT (a := 0) (by decide) ht).mpr q)
    have h3 : t = 0 := by omega
    subst h3
    exact ⟨fun _ => rfl, fun _ => by decide⟩
theorem ord_lt {a b : Nat} {r : Int32} (h : r = if a < b then -1 else if a = b then 0 else 1) : r < 0 ↔ a < b := by
  by_cases h1 : a < b
  · rw [if_pos h1] at h
    subst h
    exact ⟨fun _ => h1, fun _ => by decide⟩
  · rw [if_neg h1] at h
    by_cases h2 : a = b
    · rw [if_pos h2] at h
      subst h
      exact ⟨fun q => absurd q (by decide), fun q => absurd q h1⟩
    · rw [if_neg h2] at h
      subst h
      exact ⟨fun q => absurd q (by decide), fun q => absurd q h1⟩
theorem ord_eq {a b : Nat} {r : Int32} (h : r = if a < b then -1 else if a = b then 0 else 1) : r = 0 ↔ a = b := by
  by_cases h1 : a < b
  · rw [if_pos h1] at h
    subst h
    exact ⟨fun q => absurd q (by decide), fun q => by omega⟩
  · rw [if_neg h1] at h
    by_cases h2 : a = b
    · rw [if_pos h2] at h
      subst h
      exact ⟨fun _ => h2, fun _ => rfl⟩
    · rw [if_neg h2] at h
      subst h
      exact ⟨fun q => absurd q (by decide), fun q => absurd q h2⟩
theorem subb_num {Va Vb m R V1 V2 c c2 : Nat} (hm : m < R) (hb : Vb < R) (h1 : V1 + Vb = Va + c * R) (hc : c ≤ 1) (hV1 : V1 < R) (hle : Vb ≤ Va + m) (ha : Va < R) (h2 : c = 0 ∧ V2 = V1 ∨ c = 1 ∧ V2 + c2 * R = V1 + m ∧ c2 ≤ 1 ∧ V2 < R) : V2 = if Vb ≤ Va then Va - Vb else Va + m - Vb := by
  rcases h2 with ⟨rfl, h⟩ | ⟨rfl, h, hc2, hV2⟩
  · rw [if_pos (by omega)]; omega
  · rcases (show c2 = 0 ∨ c2 = 1 by omega) with rfl | rfl <;> rw [if_neg (by omega)] <;> omega
theorem dbl_num {V x m : Nat} : (V * 2 ^ x % m + V * 2 ^ x % m) % m = V * 2 ^ (x + 1) % m := by
  rw [← Nat.add_mod, Nat.pow_succ]
  congr 1
  rw [← Nat.mul_assoc]
  omega
/-! ===== Montgomery's step ===== -/
theorem mont_low {V1 d0 u m mi q : Nat} (hV : V1 = d0 + 4294967296 * q) (hu : u = d0 * mi % 4294967296) (hm : (mi * m + 1) % 4294967296 = 0) : (V1 + u * m) % 4294967296 = 0 := by
  obtain ⟨w, hw⟩ : ∃ w, mi * m + 1 = 4294967296 * w := ⟨(mi * m + 1) / 4294967296, by omega⟩
  obtain ⟨z, hz⟩ : ∃ z, d0 * mi = u + 4294967296 * z := ⟨d0 * mi / 4294967296, by omega⟩
  have h1 : V1 + u * m + 4294967296 * (z * m) = 4294967296 * (q + d0 * w) := by
    have e1 : (u + 4294967296 * z) * m = d0 * (mi * m) := by rw [← hz, Nat.mul_assoc]
    have e2 : d0 * (mi * m + 1) = d0 * (4294967296 * w) := by rw [hw]
    grind
  omega
theorem mont_step {T V t R V1 c1 a Vb V2 c2 u m V3 Rm P A q : Nat} (hT : (V + t * R) * P = A * Vb + q * m) (h1 : V1 + c1 * R = V + a * Vb) (h2 : V2 + c2 * R = V1 + u * m) (hz : V2 % 4294967296 = 0) (h3 : V3 + T * R = V2 / 4294967296 + (t + c1 + c2) * Rm) (hR : R = Rm * 4294967296) : (V3 + T * R) * (P * 4294967296) = (A + a * P) * Vb + (q + u * P) * m := by
  obtain ⟨v, hv⟩ : ∃ v, V2 = 4294967296 * v := ⟨V2 / 4294967296, by omega⟩
  have e0 : V2 / 4294967296 = v := by omega
  rw [e0] at h3
  have e1 : (V3 + T * R) * 4294967296 = V2 + (t + c1 + c2) * R := by rw [h3, hv, hR]; grind
  have e2 : V2 + (t + c1 + c2) * R = (V + t * R) + a * Vb + u * m := by grind
  have e3 : (V3 + T * R) * (P * 4294967296) = ((V3 + T * R) * 4294967296) * P := by grind
  rw [e3, e1, e2]
  grind
theorem mont_bound {T P A Vb q m R : Nat} (hT : T * P = A * Vb + q * m) (hA : A < P) (hq : q < P) (hb : Vb < R) (hm : m < R) (h0 : 0 < m) : T < 2 * R := by
  have h1 : A * Vb ≤ P * Vb := Nat.mul_le_mul_right _ (Nat.le_of_lt hA)
  have h2 : q * m < P * m := Nat.mul_lt_mul_of_pos_right hq h0
  have h3 : T * P < (Vb + m) * P := by rw [hT]; grind
  have h4 := Nat.lt_of_mul_lt_mul_right h3
  omega
theorem mont_final {T P A Vb q m : Nat} (hT : T * P = A * Vb + q * m) (hq : q < P) (hAB : A * Vb < P * m) (h0 : 0 < m) : T < 2 * m := by
  have h2 : q * m < P * m := Nat.mul_lt_mul_of_pos_right hq h0
  have h3 : T * P < (2 * m) * P := by rw [hT]; grind
  exact Nat.lt_of_mul_lt_mul_right h3
/-! ===== the inverse of an odd limb ===== -/
theorem uI_mul (x y : Int32) : uI (x * y) = uI x * uI y % 4294967296 := by
  unfold uI
  rw [Int32.toBitVec_mul, BitVec.toNat_mul]
theorem uI_sub (x y : Int32) : uI (x - y) = (4294967296 - uI y + uI x) % 4294967296 := by
  unfold uI
  rw [Int32.toBitVec_sub, BitVec.toNat_sub]
theorem uI_neg (x : Int32) : uI (-x) = (4294967296 - uI x) % 4294967296 := by
  unfold uI
  rw [Int32.toBitVec_neg, BitVec.toNat_neg]
theorem inv_step {a x : Int32} {j K : Int} {q : Int} (h : (uI a : Int) * uI x - 1 = j * q) (hK : j * j * K = 4294967296 ∨ ∃ K', j * j = 4294967296 * K' ∧ K = 1) : ∃ q' : Int, (uI a : Int) * uI (x * (2 - a * x)) - 1 = (if j * j * K = 4294967296 then j * j else 4294967296) * q' := by
  obtain ⟨w, hw⟩ : ∃ w : Int, (uI (x * (2 - a * x)) : Int) = uI x * (2 - uI a * uI x) + 4294967296 * w := by
    have e1 := uI_mul x (2 - a * x)
    have e2 := uI_sub 2 (a * x)
    have e3 := uI_mul a x
    have e4 : uI 2 = 2 := by decide
    rw [e4] at e2
    have b3 := uI_lt (a * x)
    obtain ⟨w3, h3⟩ : ∃ w3 : Int, (uI (a * x) : Int) = uI a * uI x + 4294967296 * w3 := ⟨-((uI a * uI x / 4294967296 : Nat) : Int), by
      have : uI a * uI x = 4294967296 * (uI a * uI x / 4294967296) + uI a * uI x % 4294967296 := (Nat.div_add_mod _ _).symm
      have h9 : ((uI a * uI x : Nat) : Int) = (uI a : Int) * uI x := Int.natCast_mul _ _
      omega⟩
    obtain ⟨w2, h2⟩ : ∃ w2 : Int, (uI (2 - a * x) : Int) = 2 - uI (a * x) + 4294967296 * w2 := by
      rcases (show 4294967296 ≤ 4294967296 - uI (a * x) + 2 ∨ 4294967296 - uI (a * x) + 2 < 4294967296 by omega) with z | z
      · exact ⟨0, by omega⟩
      · exact ⟨1, by omega⟩
    obtain ⟨w1, h1⟩ : ∃ w1 : Int, (uI (x * (2 - a * x)) : Int) = uI x * uI (2 - a * x) + 4294967296 * w1 := ⟨-((uI x * uI (2 - a * x) / 4294967296 : Nat) : Int), by
      have : uI x * uI (2 - a * x) = 4294967296 * (uI x * uI (2 - a * x) / 4294967296) + uI x * uI (2 - a * x) % 4294967296 := (Nat.div_add_mod _ _).symm
      have h9 : ((uI x * uI (2 - a * x) : Nat) : Int) = (uI x : Int) * uI (2 - a * x) := Int.natCast_mul _ _
      omega⟩
    refine ⟨uI x * (-w3 + w2) + w1, ?_⟩
    rw [h1, h2, h3]
    grind
  have key : (uI a : Int) * uI (x * (2 - a * x)) - 1 = -(j * q) * (j * q) + 4294967296 * (uI a * w) := by
    rw [hw, ← h]
    grind
  rw [key]
  rcases hK with hK | ⟨K', hK, hK1⟩
  · rw [if_pos hK]
    exact ⟨-(q * q) + K * (uI a * w), by rw [← hK]; grind⟩
  · subst hK1
    by_cases z : j * j * 1 = 4294967296
    · rw [if_pos z]
      exact ⟨-(q * q) + (uI a * w), by rw [← z]; grind⟩
    · rw [if_neg z]
      exact ⟨-(K' * (q * q)) + (uI a * w), by grind⟩
theorem inv_num {a : Int32} (ho : uI a % 2 = 1) {x1 x2 x3 x4 : Int32} (h1 : x1 = a * (2 - a * a)) (h2 : x2 = x1 * (2 - a * x1)) (h3 : x3 = x2 * (2 - a * x2)) (h4 : x4 = x3 * (2 - a * x3)) : uI a * uI x4 % 4294967296 = 1 := by
  obtain ⟨n, hn⟩ : ∃ n : Nat, uI a = 2 * n + 1 := ⟨uI a / 2, by omega⟩
  obtain ⟨q0, h0⟩ : ∃ q : Int, (uI a : Int) * uI a - 1 = 8 * q := by
    obtain ⟨r, hr⟩ : ∃ r : Nat, n * (n + 1) = 2 * r := by
      by_cases hp : n % 2 = 0
      · obtain ⟨z, hz⟩ : ∃ z, n = 2 * z := ⟨n / 2, by omega⟩
        exact ⟨z * (n + 1), by rw [hz]; grind⟩
      · obtain ⟨z, hz⟩ : ∃ z, n = 2 * z + 1 := ⟨n / 2, by omega⟩
        exact ⟨n * (z + 1), by rw [hz]; grind⟩
    refine ⟨r, ?_⟩
    have hr' : (n : Int) * (n + 1) = 2 * r := by exact_mod_cast hr
    rw [hn]
    push_cast
    grind
  obtain ⟨q1, k1⟩ := inv_step (K := 67108864) h0 (Or.inl (by decide))
  rw [if_pos (by decide), ← h1] at k1
  obtain ⟨q2, k2⟩ := inv_step (K := 1048576) k1 (Or.inl (by decide))
  rw [if_pos (by decide), ← h2] at k2
  obtain ⟨q3, k3⟩ := inv_step (K := 256) k2 (Or.inl (by decide))
  rw [if_pos (by decide), ← h3] at k3
  obtain ⟨q4, k4⟩ := inv_step (K := 1) k3 (Or.inr ⟨65536, by decide, rfl⟩)
  rw [if_neg (by decide), ← h4] at k4
  have h9 : ((uI a * uI x4 : Nat) : Int) = (uI a : Int) * uI x4 := Int.natCast_mul _ _
  omega
/-- minusInverse does what its name says -/
theorem minus_inv {a x : Int32} {m : Nat} (h : uI a * uI x % 4294967296 = 1) (hm : ∃ q, m = uI a + 4294967296 * q) : (uI (-x) * m + 1) % 4294967296 = 0 := by
  obtain ⟨q, rfl⟩ := hm
  rw [uI_neg]
  have hb := uI_lt x
  obtain ⟨w, hw⟩ : ∃ w, uI a * uI x = 1 + 4294967296 * w := ⟨uI a * uI x / 4294967296, by omega⟩
  have hx : 0 < uI x := by
    rcases Nat.eq_zero_or_pos (uI x) with z | z
    · rw [z] at hw; omega
    · exact z
  rw [Nat.mod_eq_of_lt (show 4294967296 - uI x < 4294967296 by omega)]
  have e1 : (4294967296 - uI x) * (uI a + 4294967296 * q) + uI x * (uI a + 4294967296 * q) = 4294967296 * (uI a + 4294967296 * q) := by
    rw [← Nat.add_mul]
    congr 1
    omega
  have e2 : uI x * (uI a + 4294967296 * q) = 1 + 4294967296 * (w + uI x * q) := by
    have : uI x * uI a = uI a * uI x := Nat.mul_comm _ _
    grind
  omega
theorem cel_mi {g : qCfg} {σ : qSt} {v : Int32} : ∀ j, j ≠ 1 → cel g (σ.setMi v) j = cel g σ j
  | 0, _ => rfl
  | 1, h => absurd rfl h
  | 2, _ => rfl
  | 3, _ => rfl
  | 4, _ => rfl
  | _ + 5, _ => rfl
theorem cel_rd {g : qCfg} {σ : qSt} {v : Int32} : ∀ j, j ≠ 0 → cel g (σ.setRd v) j = cel g σ j
  | 0, h => absurd rfl h
  | 1, _ => rfl
  | 2, _ => rfl
  | 3, _ => rfl
  | 4, _ => rfl
  | _ + 5, _ => rfl
theorem cel_rm {g : qCfg} {σ : qSt} {v : Int32} : ∀ j, j ≠ 3 → cel g (σ.setRm v) j = cel g σ j
  | 0, _ => rfl
  | 1, _ => rfl
  | 2, _ => rfl
  | 3, h => absurd rfl h
  | 4, _ => rfl
  | _ + 5, _ => rfl
