/-! began as rows of kit/laws/BITS.to-paste (wb_ family) -/
/-! ===== lN n to 2^64: shifts, and, or, masks, one bit ===== -/
theorem wb_tb (n : Nat) : (lN n).toBitVec = BitVec.ofNat 64 n := rfl
theorem wb_inj {a b : Int64} (h : a.toBitVec = b.toBitVec) : a = b := Int64.toBitVec_inj.mp h
theorem wb_tn {n : Nat} (h : n < 2 ^ 64) : (lN n).toBitVec.toNat = n := by rw [wb_tb, BitVec.toNat_ofNat, Nat.mod_eq_of_lt h]
theorem wb_of (x : Int64) : ∃ n, n < 2 ^ 64 ∧ x = lN n := ⟨x.toBitVec.toNat, x.toBitVec.isLt, wb_inj (by rw [wb_tb]; simp)⟩
theorem wb_of32 (x : Int32) : ∃ n, n < 2 ^ 32 ∧ x = nI n := ⟨x.toBitVec.toNat, x.toBitVec.isLt, Int32.toBitVec_inj.mp (by show _ = BitVec.ofNat 32 _; simp)⟩
theorem wb_c : ∀ k, k < 64 → ((nI k).toInt64 &&& 63) = lN k := by decide +kernel
theorem wb_cu : ∀ k, k < 64 → ((nI k).toInt64.toUInt64 &&& Int64.toUInt64 63) = UInt64.ofNat k := by decide +kernel
theorem wb_sm : ∀ k, k < 64 → (BitVec.ofNat 64 k).smod 64 = BitVec.ofNat 64 k := by decide +kernel
theorem wb_pw {a b : Nat} (h : a ≤ b) : 2 ^ b = 2 ^ a * 2 ^ (b - a) := by rw [← Nat.pow_add]; congr 1; omega
theorem wb_lt2 {a b : Nat} (h : a < b) : 2 ^ a < 2 ^ b := Nat.pow_lt_pow_right (by decide) h
theorem wb_mod (n : Nat) : lN n = lN (n % 2 ^ 64) := wb_inj (by rw [wb_tb, wb_tb]; apply BitVec.eq_of_toNat_eq; rw [BitVec.toNat_ofNat, BitVec.toNat_ofNat, Nat.mod_mod])
theorem wb_shr {n k : Nat} (hn : n < 2 ^ 64) (hk : k < 64) : ((lN n).toUInt64 >>> ((nI k).toInt64.toUInt64 &&& Int64.toUInt64 63)).toInt64 = lN (n / 2 ^ k) := by
  rw [wb_cu k hk]
  apply wb_inj
  apply BitVec.eq_of_toNat_eq
  show ((lN n).toUInt64 >>> UInt64.ofNat k).toNat = (BitVec.ofNat 64 _).toNat
  have h1 : (UInt64.ofNat k).toNat = k := by
    show (BitVec.ofNat 64 k).toNat = k
    rw [BitVec.toNat_ofNat, Nat.mod_eq_of_lt (by omega)]
  have h2 : (lN n).toUInt64.toNat = n := wb_tn hn
  rw [UInt64.toNat_shiftRight, h1, h2, Nat.mod_eq_of_lt hk, Nat.shiftRight_eq_div_pow, BitVec.toNat_ofNat, Nat.mod_eq_of_lt (Nat.lt_of_le_of_lt (Nat.div_le_self _ _) hn)]
theorem wb_shl (n : Nat) {k : Nat} (hk : k < 64) : lN n <<< ((nI k).toInt64 &&& 63) = lN (n * 2 ^ k) := by
  rw [wb_c k hk]
  apply wb_inj
  rw [Int64.toBitVec_shiftLeft, wb_tb, wb_tb, wb_tb, wb_sm k hk]
  apply BitVec.eq_of_toNat_eq
  rw [BitVec.shiftLeft_eq', BitVec.toNat_shiftLeft, BitVec.toNat_ofNat, BitVec.toNat_ofNat, BitVec.toNat_ofNat, Nat.mod_eq_of_lt (show k < 2 ^ 64 by omega), Nat.shiftLeft_eq, Nat.mul_mod, Nat.mod_mod, ← Nat.mul_mod]
theorem wb_and {a b : Nat} (ha : a < 2 ^ 64) (hb : b < 2 ^ 64) : lN a &&& lN b = lN (a &&& b) := by
  apply wb_inj
  rw [Int64.toBitVec_and, wb_tb, wb_tb, wb_tb]
  apply BitVec.eq_of_toNat_eq
  rw [BitVec.toNat_and, BitVec.toNat_ofNat, BitVec.toNat_ofNat, BitVec.toNat_ofNat, Nat.mod_eq_of_lt ha, Nat.mod_eq_of_lt hb, Nat.mod_eq_of_lt (Nat.and_lt_two_pow _ hb)]
theorem wb_or {a b : Nat} (ha : a < 2 ^ 64) (hb : b < 2 ^ 64) : lN a ||| lN b = lN (a ||| b) := by
  apply wb_inj
  rw [Int64.toBitVec_or, wb_tb, wb_tb, wb_tb]
  apply BitVec.eq_of_toNat_eq
  rw [BitVec.toNat_or, BitVec.toNat_ofNat, BitVec.toNat_ofNat, BitVec.toNat_ofNat, Nat.mod_eq_of_lt ha, Nat.mod_eq_of_lt hb, Nat.mod_eq_of_lt (Nat.or_lt_two_pow ha hb)]
theorem wb_mask {n k : Nat} (hn : n < 2 ^ 64) (hk : k < 64) : lN n &&& lN (2 ^ k - 1) = lN (n % 2 ^ k) := by
  rw [wb_and hn (by have := wb_lt2 hk; omega), Nat.and_two_pow_sub_one_eq_mod]
theorem wb_a1 {n : Nat} (hn : n < 2 ^ 64) : lN n &&& 1 = lN (n % 2) := wb_mask (k := 1) hn (by decide)
theorem wb_bit {n k : Nat} (hn : n < 2 ^ 64) (hk : k < 64) : ((lN n).toUInt64 >>> ((nI k).toInt64.toUInt64 &&& Int64.toUInt64 63)).toInt64 &&& 1 = lN (n / 2 ^ k % 2) := by
  rw [wb_shr hn hk, wb_a1 (Nat.lt_of_le_of_lt (Nat.div_le_self _ _) hn)]
/-! ===== numbers in limbs: digits d x, each below 2^32 ===== -/
def dv (d : Nat → Nat) : Nat → Nat
  | 0 => 0
  | k + 1 => dv d k + d k * 2 ^ (32 * k)
def dB (d : Nat → Nat) (k : Nat) : Prop := ∀ x, x < k → d x < 4294967296
theorem dB_le {d : Nat → Nat} {k j : Nat} (h : dB d k) (hj : j ≤ k) : dB d j := fun x hx => h x (by omega)
theorem p32 (k : Nat) : 2 ^ (32 * (k + 1)) = 2 ^ (32 * k) * 4294967296 := by
  rw [show 32 * (k + 1) = 32 * k + 32 by omega, Nat.pow_add]
theorem p32_pos (k : Nat) : 0 < 2 ^ (32 * k) := Nat.pow_pos (by decide)
theorem dv_cong {d e : Nat → Nat} : ∀ {k : Nat}, (∀ x, x < k → d x = e x) → dv d k = dv e k
  | 0, _ => rfl
  | k + 1, h => by
    show dv d k + d k * _ = dv e k + e k * _
    rw [dv_cong (fun x hx => h x (by omega)), h k (by omega)]
theorem dv_lt {d : Nat → Nat} : ∀ {k : Nat}, dB d k → dv d k < 2 ^ (32 * k)
  | 0, _ => by show (0 : Nat) < 2 ^ (32 * 0); decide
  | k + 1, h => by
    have h1 := dv_lt (dB_le h (Nat.le_succ k))
    have h2 := h k (by omega)
    have h3 : d k * 2 ^ (32 * k) ≤ 4294967295 * 2 ^ (32 * k) := Nat.mul_le_mul_right _ (by omega)
    show dv d k + d k * 2 ^ (32 * k) < _
    rw [p32]
    omega
theorem dv_step {d e : Nat → Nat} {k : Nat} (h : ∀ x, x < k → d x = e x) : dv d (k + 1) = dv e k + d k * 2 ^ (32 * k) := by
  show dv d k + _ = _
  rw [dv_cong h]
theorem dv_zero {d : Nat → Nat} : ∀ {k : Nat}, (∀ x, x < k → d x = 0) → dv d k = 0
  | 0, _ => rfl
  | k + 1, h => by
    show dv d k + d k * _ = 0
    rw [dv_zero (fun x hx => h x (by omega)), h k (by omega)]
    omega
/-- high limbs that are 0 don't count -/
theorem dv_ext {d : Nat → Nat} {k : Nat} : ∀ {j : Nat}, (∀ x, k ≤ x → x < k + j → d x = 0) → dv d (k + j) = dv d k
  | 0, _ => rfl
  | j + 1, h => by
    show dv d (k + j) + d (k + j) * _ = _
    rw [dv_ext (fun x h1 h2 => h x h1 (by omega)), h (k + j) (by omega) (by omega)]
    omega
/-- the highest limb that differs decides -/
theorem dv_less {d e : Nat → Nat} {x : Nat} (hd : dB d (x + 1)) (hx : d x < e x) : ∀ {j : Nat}, (∀ y, x < y → y < x + 1 + j → d y = e y) → dv d (x + 1 + j) < dv e (x + 1 + j)
  | 0, _ => by
    have h1 := dv_lt (dB_le hd (Nat.le_succ x))
    have h3 : (d x + 1) * 2 ^ (32 * x) ≤ e x * 2 ^ (32 * x) := Nat.mul_le_mul_right _ hx
    rw [Nat.add_mul] at h3
    show dv d x + d x * 2 ^ (32 * x) < dv e x + e x * 2 ^ (32 * x)
    omega
  | j + 1, h => by
    have ih := dv_less hd hx (j := j) (fun y h1 h2 => h y h1 (by omega))
    show dv d (x + 1 + j) + d (x + 1 + j) * _ < dv e (x + 1 + j) + e (x + 1 + j) * _
    rw [h (x + 1 + j) (by omega) (by omega)]
    omega
theorem dv_inj {d e : Nat → Nat} : ∀ {k : Nat}, dB d k → dB e k → dv d k = dv e k → ∀ x, x < k → d x = e x
  | 0, _, _, _, x, hx => absurd hx (Nat.not_lt_zero x)
  | k + 1, h1, h2, h, x, hx => by
    rcases Nat.lt_trichotomy (d k) (e k) with q | q | q
    · have := dv_less (j := 0) h1 q (fun y _ _ => by omega)
      have h' : dv d (k + 1 + 0) = dv e (k + 1 + 0) := h
      omega
    · have h' : dv d k + d k * 2 ^ (32 * k) = dv e k + e k * 2 ^ (32 * k) := h
      rw [q] at h'
      rcases Nat.lt_or_ge x k with hk | hk
      · exact dv_inj (dB_le h1 (Nat.le_succ k)) (dB_le h2 (Nat.le_succ k)) (by omega) x hk
      · rw [show x = k by omega]; exact q
    · have := dv_less (j := 0) h2 q (fun y _ _ => by omega)
      have h' : dv d (k + 1 + 0) = dv e (k + 1 + 0) := h
      omega
/-- a number of one limb -/
theorem dv_one {d : Nat → Nat} {k : Nat} (hk : 1 ≤ k) (h : ∀ x, 1 ≤ x → x < k → d x = 0) : dv d k = d 0 := by
  have h1 := dv_ext (d := d) (k := 1) (j := k - 1) (fun x h1 h2 => h x h1 (by omega))
  rw [show 1 + (k - 1) = k by omega] at h1
  rw [h1]
  show 0 + d 0 * 2 ^ (32 * 0) = d 0
  omega
theorem dv_small {d : Nat → Nat} {k v : Nat} (hk : 1 ≤ k) (hd : dB d k) (hv : v < 4294967296) : dv d k = v ↔ d 0 = v ∧ ∀ x, 1 ≤ x → x < k → d x = 0 := by
  constructor
  · intro h
    have h1 : dv (fun x => if x = 0 then v else 0) k = v := by
      rw [dv_one hk (fun x h1 _ => if_neg (by omega))]
      rfl
    have h2 := dv_inj hd (fun x _ => by show (if x = 0 then v else 0) < _; split <;> omega) (h.trans h1.symm)
    exact ⟨h2 0 (by omega), fun x h1 hx => (h2 x hx).trans (if_neg (by omega))⟩
  · intro h
    rw [dv_one hk h.2, h.1]
theorem dv_low {d : Nat → Nat} : ∀ {k : Nat}, 1 ≤ k → ∃ q, dv d k = d 0 + 4294967296 * q
  | 0, h => absurd h (by omega)
  | 1, _ => ⟨0, by show 0 + d 0 * 2 ^ (32 * 0) = _; omega⟩
  | k + 2, _ => by
    obtain ⟨q, hq⟩ := dv_low (d := d) (k := k + 1) (by omega)
    refine ⟨q + d (k + 1) * 2 ^ (32 * k), ?_⟩
    show dv d (k + 1) + d (k + 1) * 2 ^ (32 * (k + 1)) = _
    rw [hq, p32]
    grind
theorem dv_mod2 {d : Nat → Nat} {k : Nat} (h : 1 ≤ k) : dv d k % 2 = d 0 % 2 := by
  obtain ⟨q, hq⟩ := dv_low (d := d) h
  omega
theorem dv_bit {d : Nat → Nat} {b : Nat} : ∀ {k : Nat}, dB d k → b < 32 * k → (dv d k).testBit b = (d (b / 32)).testBit (b % 32)
  | 0, _, h => absurd h (by omega)
  | k + 1, hd, h => by
    have h1 := dv_lt (dB_le hd (Nat.le_succ k))
    have e : dv d (k + 1) = 2 ^ (32 * k) * d k + dv d k := by
      show dv d k + d k * 2 ^ (32 * k) = _
      rw [Nat.mul_comm, Nat.add_comm]
    rw [e, Nat.testBit_two_pow_mul_add _ h1]
    by_cases hb : b < 32 * k
    · rw [if_pos hb, dv_bit (dB_le hd (Nat.le_succ k)) hb]
    · rw [if_neg hb, show b / 32 = k by omega, show b % 32 = b - 32 * k by omega]
/-! ===== one step of a sum, a difference, a multiple, a half ===== -/
theorem st_add {h A B P c a b v c' : Nat} (hv : v + c' * 4294967296 = c + a + b) (hi : h + c * P = A + B) : (h + v * P) + c' * (P * 4294967296) = (A + a * P) + (B + b * P) := by
  have : (v + c' * 4294967296) * P = (c + a + b) * P := by rw [hv]
  grind
theorem st_mul {h A B P c a b v c' f : Nat} (hv : v + c' * 4294967296 = c + f * b + a) (hi : h + c * P = A + f * B) : (h + v * P) + c' * (P * 4294967296) = (A + a * P) + f * (B + b * P) := by
  have : (v + c' * 4294967296) * P = (c + f * b + a) * P := by rw [hv]
  grind
theorem st_sub {h A B P c a b v c' : Nat} (hv : v + b + c = a + c' * 4294967296) (hi : h + B = A + c * P) : (h + v * P) + (B + b * P) = (A + a * P) + c' * (P * 4294967296) := by
  have : (v + b + c) * P = (a + c' * 4294967296) * P := by rw [hv]
  grind
/-! ===== Int32 and Int64 as numbers ===== -/
def uI (x : Int32) : Nat := x.toBitVec.toNat
def uL (x : Int64) : Nat := x.toBitVec.toNat
theorem uI_lt (x : Int32) : uI x < 4294967296 := x.toBitVec.isLt
theorem uL_lt (x : Int64) : uL x < 18446744073709551616 := x.toBitVec.isLt
theorem nI_uI (x : Int32) : nI (uI x) = x := by
  apply Int32.toBitVec_inj.mp
  show BitVec.ofNat 32 _ = _
  unfold uI
  simp
theorem lN_uL (x : Int64) : lN (uL x) = x := by
  apply Int64.toBitVec_inj.mp
  show BitVec.ofNat 64 _ = _
  unfold uL
  simp
theorem uI_nI {n : Nat} : uI (nI n) = n % 4294967296 := by
  show (BitVec.ofNat 32 n).toNat = _
  rw [BitVec.toNat_ofNat]
theorem uI_nI' {n : Nat} (h : n < 4294967296) : uI (nI n) = n := by rw [uI_nI, Nat.mod_eq_of_lt h]
theorem uL_lN {n : Nat} (h : n < 18446744073709551616) : uL (lN n) = n := by
  show (BitVec.ofNat 64 n).toNat = _
  rw [BitVec.toNat_ofNat, Nat.mod_eq_of_lt h]
theorem uI_inj {x y : Int32} (h : uI x = uI y) : x = y := by rw [← nI_uI x, ← nI_uI y, h]
theorem uI_ne {x y : Int32} (h : x ≠ y) : uI x ≠ uI y := fun q => h (uI_inj q)
theorem uI_0 : uI 0 = 0 := by decide
theorem uI_1 : uI 1 = 1 := by decide
theorem nI_mod (n : Nat) : nI (n % 4294967296) = nI n := by
  apply uI_inj
  rw [uI_nI, uI_nI, Nat.mod_mod]
/-- an int, as a limb in a long -/
theorem m32 (x : Int32) : x.toInt64 &&& 4294967295 = lN (uI x) := by
  apply wb_inj
  have h1 : (x.toInt64 &&& 4294967295).toBitVec.toNat = uL x.toInt64 % 2 ^ 32 := by
    rw [Int64.toBitVec_and, BitVec.toNat_and]
    exact Nat.and_two_pow_sub_one_eq_mod _ 32
  have h2 : uI x = uL x.toInt64 % 2 ^ 32 := by
    have h3 : x.toInt64.toInt32 = x := by simp
    have h4 := lN_i (uL x.toInt64)
    rw [lN_uL, h3] at h4
    exact (congrArg uI h4).trans uI_nI
  apply BitVec.eq_of_toNat_eq
  rw [h1, ← h2]
  exact (wb_tn (Nat.lt_trans (uI_lt x) (by decide))).symm
theorem lN_ushr32 {n : Nat} (h : n < 18446744073709551616) : ((lN n).toUInt64 >>> ((32 : Int32).toInt64.toUInt64 &&& Int64.toUInt64 63)).toInt64 = lN (n / 4294967296) := wb_shr (k := 32) h (by decide)
theorem lN_ushr1 {n : Nat} (h : n < 18446744073709551616) : ((lN n).toUInt64 >>> ((1 : Int32).toInt64.toUInt64 &&& Int64.toUInt64 63)).toInt64 = lN (n / 2) := wb_shr (k := 1) h (by decide)
/-- a row's number -/
def rv (f : Nat → Int32) (k : Nat) : Nat := dv (fun x => uI (f x)) k
theorem rB (f : Nat → Int32) (k : Nat) : dB (fun x => uI (f x)) k := fun x _ => uI_lt _
theorem rv_lt {f : Nat → Int32} {k : Nat} : rv f k < 2 ^ (32 * k) := dv_lt (rB f k)
theorem rv_cong {f h : Nat → Int32} {k : Nat} (e : ∀ x, x < k → f x = h x) : rv f k = rv h k := dv_cong (fun x hx => by rw [e x hx])
theorem rv_inj {f h : Nat → Int32} {k : Nat} (e : rv f k = rv h k) : ∀ x, x < k → f x = h x := fun x hx => uI_inj (dv_inj (rB f k) (rB h k) e x hx)
theorem rv_succ (f : Nat → Int32) (k : Nat) : rv f (k + 1) = rv f k + uI (f k) * 2 ^ (32 * k) := rfl
theorem rv_upd {h : Nat → Int32} {x : Nat} {v : Int32} : rv (upd h x v) (x + 1) = rv h x + uI v * 2 ^ (32 * x) := by
  rw [rv_succ]
  have e1 : upd h x v x = v := by simp [upd]
  rw [e1, rv_cong (h := h) (fun y hy => by simp [upd, show y ≠ x by omega])]
