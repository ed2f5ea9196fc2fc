/-! ===== Int64 as an unsigned number: uN x ===== -/
def uN (x : Int64) : Nat := x.toUInt64.toNat
theorem uN_lt (x : Int64) : uN x < 18446744073709551616 := x.toUInt64.toNat_lt
theorem uN_inj {x y : Int64} (h : uN x = uN y) : x = y := congrArg UInt64.toInt64 (UInt64.toNat_inj.mp h)
theorem uN_add (x y : Int64) : uN (x + y) = (uN x + uN y) % 18446744073709551616 := by
  show (x.toUInt64 + y.toUInt64).toNat = _
  exact UInt64.toNat_add _ _
theorem uN_mul (x y : Int64) : uN (x * y) = (uN x * uN y) % 18446744073709551616 := by
  show (x.toUInt64 * y.toUInt64).toNat = _
  exact UInt64.toNat_mul _ _
theorem uN_shl (x : Int64) : uN (x <<< ((1 : Int32).toInt64 &&& 63)) = (2 * uN x) % 18446744073709551616 := by
  have h : (((1 : Int32).toInt64 &&& 63).toBitVec.smod 64).toNat = 1 := by decide
  show (x.toBitVec <<< (((1 : Int32).toInt64 &&& 63).toBitVec.smod 64).toNat).toNat = _
  rw [h, BitVec.toNat_shiftLeft, Nat.shiftLeft_eq, Nat.mul_comm]
  rfl
theorem uN_shr (x : Int64) (s : UInt64) : uN (x.toUInt64 >>> s).toInt64 = uN x / 2 ^ (s.toNat % 64) := by
  show (x.toUInt64 >>> s).toNat = _
  rw [UInt64.toNat_shiftRight, Nat.shiftRight_eq_div_pow]
  rfl
theorem uN_s32 (x : Int64) : uN (x.toUInt64 >>> ((32 : Int32).toInt64.toUInt64 &&& Int64.toUInt64 63)).toInt64 = uN x / 4294967296 := by
  have h : ((32 : Int32).toInt64.toUInt64 &&& Int64.toUInt64 63).toNat % 64 = 32 := by decide
  rw [uN_shr, h]
theorem uN_s63 (x : Int64) : uN (x.toUInt64 >>> ((63 : Int32).toInt64.toUInt64 &&& Int64.toUInt64 63)).toInt64 = uN x / 9223372036854775808 := by
  have h : ((63 : Int32).toInt64.toUInt64 &&& Int64.toUInt64 63).toNat % 64 = 63 := by decide
  rw [uN_shr, h]
theorem uN_lo (x : Int64) : uN (x &&& 4294967295) = uN x % 4294967296 := by
  show (x.toUInt64 &&& Int64.toUInt64 4294967295).toNat = _
  rw [UInt64.toNat_and]
  exact Nat.and_two_pow_sub_one_eq_mod _ 32
theorem uN_bit (x : Int64) : (x &&& 1) = 0 ↔ uN x % 2 = 0 := by
  have h : uN (x &&& 1) = uN x % 2 := by
    show (x.toUInt64 &&& Int64.toUInt64 1).toNat = _
    rw [UInt64.toNat_and]
    exact Nat.and_two_pow_sub_one_eq_mod _ 1
  rw [← h]
  exact ⟨fun z => by rw [z]; rfl, fun z => uN_inj (z.trans rfl)⟩
theorem uN_or {x y : Int64} (hy : uN y < 2) : uN ((x <<< ((1 : Int32).toInt64 &&& 63)) ||| y) = (2 * uN x) % 18446744073709551616 + uN y := by
  have h1 : uN ((x <<< ((1 : Int32).toInt64 &&& 63)) ||| y) = uN (x <<< ((1 : Int32).toInt64 &&& 63)) ||| uN y := UInt64.toNat_or _ _
  have h2 : (2 * uN x) % 18446744073709551616 = 2 ^ 1 * (uN x % 9223372036854775808) := by omega
  rw [h1, uN_shl, h2]
  exact (Nat.two_pow_add_eq_or_of_lt (i := 1) hy _).symm
theorem nat_xor {a : Nat} (h : a < 18446744073709551616) : a ^^^ 2 ^ 63 = (a + 9223372036854775808) % 18446744073709551616 := by
  have h1 : (a ^^^ 2 ^ 63) % 2 ^ 63 = a % 2 ^ 63 := by rw [Nat.xor_mod_two_pow, Nat.mod_self, Nat.xor_zero]
  have h2 : (a ^^^ 2 ^ 63) / 2 ^ 63 = (a / 2 ^ 63) ^^^ 1 := by rw [Nat.xor_div_two_pow, Nat.div_self (Nat.two_pow_pos 63)]
  have h3 : a / 2 ^ 63 = 0 ∨ a / 2 ^ 63 = 1 := by omega
  generalize a ^^^ 2 ^ 63 = t at h1 h2
  rcases h3 with h3 | h3
  · rw [h3] at h2
    have h2 : t / 2 ^ 63 = 1 := h2
    omega
  · rw [h3] at h2
    have h2 : t / 2 ^ 63 = 0 := h2
    omega
theorem uN_xor (x : Int64) : uN (x ^^^ (-9223372036854775808)) = (uN x + 9223372036854775808) % 18446744073709551616 := by
  rw [← nat_xor (uN_lt x)]
  exact UInt64.toNat_xor _ _
theorem uN_int (x : Int64) : x.toInt = if 2 * uN x < 18446744073709551616 then (uN x : Int) else (uN x : Int) - 18446744073709551616 := BitVec.toInt_eq_toNat_cond _
theorem uN_le (x y : Int64) : (x ^^^ (-9223372036854775808)) ≤ (y ^^^ (-9223372036854775808)) ↔ uN x ≤ uN y := by
  have hx := uN_lt x
  have hy := uN_lt y
  rw [Int64.le_iff_toInt_le, uN_int, uN_int, uN_xor, uN_xor]
  omega
theorem uN_sk (x : Int64) {k : Nat} (hk : k < 64) : uN (x.toUInt64 >>> ((nI k).toInt64.toUInt64 &&& Int64.toUInt64 63)).toInt64 = uN x / 2 ^ k := by
  have h : ((nI k).toInt64.toUInt64 &&& Int64.toUInt64 63).toNat % 64 = k := by
    rw [nI_l (by omega), UInt64.toNat_and]
    have e : (lN k).toUInt64.toNat = k % 2 ^ 64 := rfl
    have e2 : (Int64.toUInt64 63).toNat = 2 ^ 6 - 1 := by decide
    rw [e, e2, Nat.and_two_pow_sub_one_eq_mod]
    omega
  rw [uN_shr, h]
/-! ===== numbers by limbs ===== -/
theorem uN_0 : uN 0 = 0 := rfl
theorem uN_1 : uN 1 = 1 := rfl
theorem uN_sub (x y : Int64) : uN (x - y) = (uN x + (18446744073709551616 - uN y)) % 18446744073709551616 := by
  have h : uN (x - y) = (18446744073709551616 - uN y + uN x) % 18446744073709551616 := UInt64.toNat_sub _ _
  rw [h, Nat.add_comm]
theorem uN_pos {x : Int64} (h : uN x < 9223372036854775808) : x.toInt = (uN x : Int) := by
  rw [uN_int]
  exact if_pos (by omega)
theorem uN_lt' {x y : Int64} (hx : uN x < 9223372036854775808) (hy : uN y < 9223372036854775808) : x < y ↔ uN x < uN y := by
  rw [Int64.lt_iff_toInt_lt, uN_pos hx, uN_pos hy]
  omega
theorem uN_le' {x y : Int64} (hx : uN x < 9223372036854775808) (hy : uN y < 9223372036854775808) : x ≤ y ↔ uN x ≤ uN y := by
  rw [Int64.le_iff_toInt_le, uN_pos hx, uN_pos hy]
  omega
theorem uN_eq {x y : Int64} : x = y ↔ uN x = uN y := ⟨fun h => by rw [h], uN_inj⟩
theorem uN_lN {n : Nat} (h : n < 18446744073709551616) : uN (lN n) = n := by
  show (Int64.ofNat n).toUInt64.toNat = n
  have h1 : (Int64.ofNat n).toUInt64 = UInt64.ofNat n := rfl
  rw [h1]
  exact Nat.mod_eq_of_lt h
def uI (x : Int32) : Nat := x.toUInt32.toNat
theorem uI_lt (x : Int32) : uI x < 4294967296 := x.toUInt32.toNat_lt
theorem uI_inj {x y : Int32} (h : uI x = uI y) : x = y := congrArg UInt32.toInt32 (UInt32.toNat_inj.mp h)
theorem uI_0 : uI 0 = 0 := rfl
theorem uI_z {x : Int32} : x = 0 ↔ uI x = 0 := ⟨fun h => by rw [h]; rfl, fun h => uI_inj h⟩
theorem uI_nI {n : Nat} (h : n < 4294967296) : uI (nI n) = n := by
  show (Int32.ofNat n).toUInt32.toNat = n
  have h1 : (Int32.ofNat n).toUInt32 = UInt32.ofNat n := rfl
  rw [h1]
  exact Nat.mod_eq_of_lt h
theorem uI_int (x : Int32) : x.toInt = if 2 * uI x < 4294967296 then (uI x : Int) else (uI x : Int) - 4294967296 := rfl
theorem uI_l (x : Int64) : uI x.toInt32 = uN x % 4294967296 := by
  show (x.toBitVec.signExtend 32).toNat = x.toBitVec.toNat % 4294967296
  rw [BitVec.signExtend_eq_setWidth_of_le _ (by decide)]
  exact BitVec.toNat_setWidth 32 x.toBitVec
theorem uN_i2l (x : Int32) : uN x.toInt64 = if 2 * uI x < 4294967296 then uI x else uI x + 18446744069414584320 := by
  have h1 : x.toInt64.toInt = x.toInt := Int32.toInt_toInt64 x
  have h2 := uN_int x.toInt64
  have h3 := uI_int x
  have h4 := uN_lt x.toInt64
  have h5 := uI_lt x
  rw [h1, h3] at h2
  by_cases hc : 2 * uI x < 4294967296
  · rw [if_pos hc] at h2 ⊢
    by_cases hd : 2 * uN x.toInt64 < 18446744073709551616
    · rw [if_pos hd] at h2; omega
    · rw [if_neg hd] at h2; omega
  · rw [if_neg hc] at h2 ⊢
    by_cases hd : 2 * uN x.toInt64 < 18446744073709551616
    · rw [if_pos hd] at h2; omega
    · rw [if_neg hd] at h2; omega
theorem uN_of32 (x : Int32) : uN (x.toInt64 &&& 4294967295) = uI x := by
  have h5 := uI_lt x
  rw [uN_lo, uN_i2l]
  by_cases hc : 2 * uI x < 4294967296
  · rw [if_pos hc]; omega
  · rw [if_neg hc]; omega
/-- the number of n digits to the base 2 to the 32 -/
def zs (d : Nat → Nat) : Nat → Nat
  | 0 => 0
  | n + 1 => zs d n + d n * 4294967296 ^ n
theorem zs_lt {d : Nat → Nat} : ∀ {n : Nat}, (∀ i, i < n → d i < 4294967296) → zs d n < 4294967296 ^ n
  | 0, _ => by simp [zs]
  | n + 1, h => by
    have h1 := zs_lt (n := n) (fun i hi => h i (Nat.lt_succ_of_lt hi))
    have h2 := h n (Nat.lt_succ_self n)
    have h3 : d n * 4294967296 ^ n ≤ 4294967295 * 4294967296 ^ n := Nat.mul_le_mul_right _ (by omega)
    show zs d n + d n * 4294967296 ^ n < 4294967296 ^ (n + 1)
    rw [Nat.pow_succ]
    omega
theorem zs_congr {d d' : Nat → Nat} : ∀ {n : Nat}, (∀ i, i < n → d i = d' i) → zs d n = zs d' n
  | 0, _ => rfl
  | n + 1, h => by
    show zs d n + d n * _ = zs d' n + d' n * _
    rw [zs_congr (n := n) (fun i hi => h i (Nat.lt_succ_of_lt hi)), h n (Nat.lt_succ_self n)]
theorem zs_add {d : Nat → Nat} (i : Nat) : ∀ k : Nat, zs d (i + k) = zs d i + 4294967296 ^ i * zs (fun j => d (i + j)) k
  | 0 => by simp [zs]
  | k + 1 => by
    show zs d (i + k) + d (i + k) * 4294967296 ^ (i + k) = zs d i + 4294967296 ^ i * (zs (fun j => d (i + j)) k + d (i + k) * 4294967296 ^ k)
    rw [zs_add i k, Nat.mul_add, Nat.pow_add]
    have : d (i + k) * (4294967296 ^ i * 4294967296 ^ k) = 4294967296 ^ i * (d (i + k) * 4294967296 ^ k) := by
      rw [Nat.mul_left_comm]
    rw [this, Nat.add_assoc]
theorem zs_dig {d : Nat → Nat} {n i : Nat} (h : ∀ j, j < n → d j < 4294967296) (hi : i < n) : zs d n / 4294967296 ^ i % 4294967296 = d i := by
  obtain ⟨k, rfl⟩ : ∃ k, n = i + (k + 1) := ⟨n - i - 1, by omega⟩
  have h1 := zs_lt (n := i) (d := d) (fun j hj => h j (by omega))
  have hp : 0 < 4294967296 ^ i := Nat.pow_pos (by decide)
  rw [zs_add, Nat.add_mul_div_left _ _ hp, Nat.div_eq_of_lt h1, Nat.zero_add]
  have h2 : zs (fun j => d (i + j)) (k + 1) = d i + 4294967296 * zs (fun j => d (i + (1 + j))) k := by
    have := zs_add (d := fun j => d (i + j)) 1 k
    rw [Nat.add_comm 1 k] at this
    rw [this]
    simp [zs]
  rw [h2, Nat.add_mul_mod_self_left]
  exact Nat.mod_eq_of_lt (h i (by omega))
theorem zs_big {d : Nat → Nat} {n i : Nat} (h : ∀ j, j < n → d j < 4294967296) (hi : n ≤ i) : zs d n / 4294967296 ^ i = 0 := by
  apply Nat.div_eq_of_lt
  exact Nat.lt_of_lt_of_le (zs_lt h) (Nat.pow_le_pow_right (by decide) hi)
/-- digits above are 0 -/
theorem zs_up {d : Nat → Nat} {n : Nat} : ∀ k : Nat, (∀ j, n ≤ j → j < n + k → d j = 0) → zs d (n + k) = zs d n
  | 0, _ => rfl
  | k + 1, h => by
    show zs d (n + k) + d (n + k) * _ = zs d n
    rw [zs_up k (fun j h1 h2 => h j h1 (by omega)), h (n + k) (by omega) (by omega)]
    simp
/-- the digits of a number -/
def zdg (v i : Nat) : Nat := v / 4294967296 ^ i % 4294967296
theorem zdg_lt (v i : Nat) : zdg v i < 4294967296 := Nat.mod_lt _ (by decide)
theorem zs_zdg (v : Nat) : ∀ n : Nat, zs (zdg v) n = v % 4294967296 ^ n
  | 0 => by simp [zs, Nat.mod_one]
  | n + 1 => by
    show zs (zdg v) n + v / 4294967296 ^ n % 4294967296 * 4294967296 ^ n = _
    rw [zs_zdg v n, Nat.pow_succ, Nat.mod_mul, Nat.mul_comm (4294967296 ^ n)]
theorem zdg_0 (v : Nat) {i : Nat} (h : v < 4294967296 ^ i) : zdg v i = 0 := by
  unfold zdg
  rw [Nat.div_eq_of_lt h]
