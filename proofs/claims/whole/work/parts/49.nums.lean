/-! NUMBERS: ints and longs as numbers, modulo their sizes -/
theorem i32_eqI {x y : Int} (h : x % 4294967296 = y % 4294967296) : Int32.ofInt x = Int32.ofInt y := by
  apply Int32.toInt_inj.1
  rw [Int32.toInt_ofInt, Int32.toInt_ofInt, ← Int.emod_bmod x, ← Int.emod_bmod y]
  show Int.bmod (x % 4294967296) _ = Int.bmod (y % 4294967296) _
  rw [h]
theorem i64_eqI {x y : Int} (h : x % 18446744073709551616 = y % 18446744073709551616) : Int64.ofInt x = Int64.ofInt y := by
  apply Int64.toInt_inj.1
  rw [Int64.toInt_ofInt, Int64.toInt_ofInt, ← Int.emod_bmod x, ← Int.emod_bmod y]
  show Int.bmod (x % 18446744073709551616) _ = Int.bmod (y % 18446744073709551616) _
  rw [h]
theorem i32_of {x : Int} (h1 : -2147483648 ≤ x) (h2 : x ≤ 2147483647) : (Int32.ofInt x).toInt = x := Int32.toInt_ofInt_of_le (by omega) (by omega)
theorem i64_of {x : Int} (h1 : -9223372036854775808 ≤ x) (h2 : x ≤ 9223372036854775807) : (Int64.ofInt x).toInt = x := Int64.toInt_ofInt_of_le (by omega) (by omega)
theorem i32_clamp {x : Int} (h1 : 0 ≤ x) (h2 : x ≤ 2147483647) : (Int32.ofInt x).toNatClampNeg = x.toNat := by
  show (Int32.ofInt x).toInt.toNat = x.toNat
  rw [i32_of (by omega) h2]
theorem i32_neg {x : Int} (h1 : -2147483648 ≤ x) (h2 : x ≤ 2147483647) : Int32.ofInt x < 0 ↔ x < 0 := by
  rw [Int32.lt_iff_toInt_lt, i32_of h1 h2]
  exact Iff.rfl
theorem bm8 (x : Int) : x.bmod 256 = (x + 128) % 256 - 128 := by
  rw [Int.bmod_def]
  split <;> omega
theorem bm16 (x : Int) : x.bmod 65536 = (x + 32768) % 65536 - 32768 := by
  rw [Int.bmod_def]
  split <;> omega
theorem i32_i2b (x : Int) : (Int32.ofInt x).toInt8.toInt32 = Int32.ofInt ((x + 128) % 256 - 128) := by
  apply Int32.toInt_inj.1
  rw [Int8.toInt_toInt32, Int32.toInt8_ofInt, Int8.toInt_ofInt, i32_of (by omega) (by omega)]
  exact bm8 x
theorem i32_i2s (x : Int) : (Int32.ofInt x).toInt16.toInt32 = Int32.ofInt ((x + 32768) % 65536 - 32768) := by
  apply Int32.toInt_inj.1
  rw [Int16.toInt_toInt32, Int32.toInt16_ofInt, Int16.toInt_ofInt, i32_of (by omega) (by omega)]
  exact bm16 x
theorem i32_i2l {x : Int} (h1 : -2147483648 ≤ x) (h2 : x ≤ 2147483647) : (Int32.ofInt x).toInt64 = Int64.ofInt x := by
  apply Int64.toInt_inj.1
  rw [Int32.toInt_toInt64, i32_of h1 h2, i64_of (by omega) (by omega)]
theorem i64_l2i (x : Int) : (Int64.ofInt x).toInt32 = Int32.ofInt x := by simp
theorem sh32 : ∀ k : Nat, k < 32 → (Int32.ofInt (k : Int) &&& 31).toBitVec.smod 32 = BitVec.ofNat 32 k := by decide +kernel
theorem sh64 : ∀ k : Nat, k < 64 → ((Int32.ofInt (k : Int)).toInt64 &&& 63).toBitVec.smod 64 = BitVec.ofNat 64 k := by decide +kernel
theorem tp32 : ∀ k : Nat, k < 32 → BitVec.twoPow 32 k = BitVec.ofInt 32 (2 ^ k) := by decide +kernel
theorem tp64 : ∀ k : Nat, k < 64 → BitVec.twoPow 64 k = BitVec.ofInt 64 (2 ^ k) := by decide +kernel
theorem bn32 {k : Nat} (h : k < 32) : (BitVec.ofNat 32 k).toNat = k := by
  rw [BitVec.toNat_ofNat]
  omega
theorem bn64 {k : Nat} (h : k < 64) : (BitVec.ofNat 64 k).toNat = k := by
  rw [BitVec.toNat_ofNat]
  omega
theorem i32_shl {k : Nat} (hk : k < 32) (x : Int) : Int32.ofInt x <<< (Int32.ofInt (k : Int) &&& 31) = Int32.ofInt (x * 2 ^ k) := by
  apply Int32.toBitVec_inj.1
  show (BitVec.ofInt 32 x) <<< ((Int32.ofInt (k : Int) &&& 31).toBitVec.smod 32) = BitVec.ofInt 32 (x * 2 ^ k)
  rw [sh32 k hk, BitVec.shiftLeft_eq', BitVec.ofInt_mul, BitVec.shiftLeft_eq_mul_twoPow, bn32 hk, tp32 k hk]
theorem i64_shl {k : Nat} (hk : k < 64) (x : Int) : Int64.ofInt x <<< ((Int32.ofInt (k : Int)).toInt64 &&& 63) = Int64.ofInt (x * 2 ^ k) := by
  apply Int64.toBitVec_inj.1
  show (BitVec.ofInt 64 x) <<< (((Int32.ofInt (k : Int)).toInt64 &&& 63).toBitVec.smod 64) = BitVec.ofInt 64 (x * 2 ^ k)
  rw [sh64 k hk, BitVec.shiftLeft_eq', BitVec.ofInt_mul, BitVec.shiftLeft_eq_mul_twoPow, bn64 hk, tp64 k hk]
theorem i32_shr {k : Nat} (hk : k < 32) {x : Int} (h1 : -2147483648 ≤ x) (h2 : x ≤ 2147483647) : Int32.ofInt x >>> (Int32.ofInt (k : Int) &&& 31) = Int32.ofInt (x / 2 ^ k) := by
  have e : (Int32.ofInt x >>> (Int32.ofInt (k : Int) &&& 31)).toInt = x / 2 ^ k := by
    show ((BitVec.ofInt 32 x).sshiftRight' ((Int32.ofInt (k : Int) &&& 31).toBitVec.smod 32)).toInt = _
    rw [sh32 k hk, BitVec.sshiftRight_eq', BitVec.toInt_sshiftRight, Int.shiftRight_eq_div_pow, bn32 hk]
    have e2 : (BitVec.ofInt 32 x).toInt = x := i32_of h1 h2
    rw [e2]
    rfl
  rw [← e]
  exact (Int32.ofInt_toInt _).symm
theorem i64_shr {k : Nat} (hk : k < 64) {x : Int} (h1 : -9223372036854775808 ≤ x) (h2 : x ≤ 9223372036854775807) : Int64.ofInt x >>> ((Int32.ofInt (k : Int)).toInt64 &&& 63) = Int64.ofInt (x / 2 ^ k) := by
  have e : (Int64.ofInt x >>> ((Int32.ofInt (k : Int)).toInt64 &&& 63)).toInt = x / 2 ^ k := by
    show ((BitVec.ofInt 64 x).sshiftRight' (((Int32.ofInt (k : Int)).toInt64 &&& 63).toBitVec.smod 64)).toInt = _
    rw [sh64 k hk, BitVec.sshiftRight_eq', BitVec.toInt_sshiftRight, Int.shiftRight_eq_div_pow, bn64 hk]
    have e2 : (BitVec.ofInt 64 x).toInt = x := i64_of h1 h2
    rw [e2]
    rfl
  rw [← e]
  exact (Int64.ofInt_toInt _).symm
theorem us32 : ∀ k : Nat, k < 32 → ((Int32.ofInt (k : Int)).toUInt32 &&& Int32.toUInt32 31) = UInt32.ofNat k := by decide +kernel
theorem us64 : ∀ k : Nat, k < 64 → ((Int32.ofInt (k : Int)).toInt64.toUInt64 &&& Int64.toUInt64 63) = UInt64.ofNat k := by decide +kernel
theorem bti {w : Nat} {x : BitVec w} (h : 2 * x.toNat < 2 ^ w) : x.toInt = x.toNat := by
  rw [BitVec.toInt_eq_toNat_cond, if_pos h]
theorem i32_ushr {k : Nat} (hk : k < 32) (h0 : 0 < k) (x : Int) : ((Int32.ofInt x).toUInt32 >>> ((Int32.ofInt (k : Int)).toUInt32 &&& Int32.toUInt32 31)).toInt32 = Int32.ofInt (x % 4294967296 / 2 ^ k) := by
  have e : ((Int32.ofInt x).toUInt32 >>> ((Int32.ofInt (k : Int)).toUInt32 &&& Int32.toUInt32 31)).toNat = (x % 4294967296).toNat / 2 ^ k := by
    rw [us32 k hk, UInt32.toNat_shiftRight, UInt32.toNat_ofNat', Nat.shiftRight_eq_div_pow]
    have e1 : (Int32.ofInt x).toUInt32.toNat = (x % 4294967296).toNat := BitVec.toNat_ofInt x
    rw [e1]
    congr 2
    omega
  have p2 : 2 ≤ 2 ^ k := by
    have := Nat.pow_le_pow_right (n := 2) (by omega) h0
    omega
  have lt : (x % 4294967296).toNat / 2 ^ k < 2147483648 := by
    have h1 : (x % 4294967296).toNat / 2 ^ k ≤ (x % 4294967296).toNat / 2 := Nat.div_le_div_left p2 (by omega)
    omega
  generalize ((Int32.ofInt x).toUInt32 >>> ((Int32.ofInt (k : Int)).toUInt32 &&& Int32.toUInt32 31)) = w at e ⊢
  have e3 : w.toInt32.toInt = x % 4294967296 / 2 ^ k := by
    have e4 : w.toInt32.toInt = (w.toNat : Int) := bti (x := w.toBitVec) (by show 2 * w.toNat < _; omega)
    rw [e4, e, Int.natCast_ediv, Int.toNat_of_nonneg (by omega)]
    rfl
  rw [← e3]
  exact (Int32.ofInt_toInt _).symm
theorem bv_mask {w k : Nat} (hk : k ≤ w) (x : Int) : BitVec.ofInt w x &&& BitVec.ofInt w (2 ^ k - 1) = BitVec.ofInt w (x % 2 ^ k) := by
  apply BitVec.eq_of_toNat_eq
  rw [BitVec.toNat_and, BitVec.toNat_ofInt, BitVec.toNat_ofInt, BitVec.toNat_ofInt]
  have hp : (2 : Int) ^ k = ((2 ^ k : Nat) : Int) := rfl
  have hd : (2 ^ k : Nat) ∣ 2 ^ w := Nat.pow_dvd_pow 2 hk
  have h1 : 1 ≤ 2 ^ k := Nat.one_le_two_pow
  have hle : 2 ^ k ≤ 2 ^ w := Nat.le_of_dvd (Nat.two_pow_pos w) hd
  rw [hp]
  have hd2 : ((2 ^ k : Nat) : Int) ∣ ((2 ^ w : Nat) : Int) := Int.natCast_dvd_natCast.mpr hd
  have e0 := Int.emod_emod_of_dvd x hd2
  have e4 := Nat.and_two_pow_sub_one_eq_mod (x % ((2 ^ w : Nat) : Int)).toNat k
  generalize hP : 2 ^ k = p at *
  generalize hQ : 2 ^ w = q at *
  have e1 : (((p : Int) - 1) % (q : Int)).toNat = p - 1 := by
    rw [Int.emod_eq_of_lt (by omega) (by omega)]
    omega
  rw [e1, e4]
  have e2 : x % (p : Int) % (q : Int) = x % (p : Int) := Int.emod_eq_of_lt (Int.emod_nonneg _ (by omega)) (by have := Int.emod_lt_of_pos x (b := (p : Int)) (by omega); omega)
  rw [e2, ← e0]
  have h5 : 0 ≤ x % (q : Int) := Int.emod_nonneg _ (by omega)
  have e6 : ((x % (q : Int)).toNat : Int) = x % (q : Int) := Int.toNat_of_nonneg h5
  have e7 : (((x % (q : Int)).toNat % p : Nat) : Int) = x % (q : Int) % (p : Int) := by rw [Int.natCast_emod, e6]
  omega
theorem i32_mask {k : Nat} (hk : k ≤ 32) (x : Int) {m q : Int} (hm : m = 2 ^ k - 1) (hq : q = 2 ^ k) : Int32.ofInt x &&& Int32.ofInt m = Int32.ofInt (x % q) := by
  subst hm hq
  apply Int32.toBitVec_inj.1
  exact bv_mask hk x
theorem i64_mask {k : Nat} (hk : k ≤ 64) (x : Int) {m q : Int} (hm : m = 2 ^ k - 1) (hq : q = 2 ^ k) : Int64.ofInt x &&& Int64.ofInt m = Int64.ofInt (x % q) := by
  subst hm hq
  apply Int64.toBitVec_inj.1
  exact bv_mask hk x
/-- bits that don't meet are added -/
theorem nat_and_z {a c k : Nat} (h : a < 2 ^ k) : a &&& (c * 2 ^ k) = 0 := by
  apply Nat.eq_of_testBit_eq
  intro i
  rw [Nat.testBit_and, Nat.zero_testBit, Nat.testBit_mul_two_pow]
  by_cases hi : k ≤ i
  · rw [Nat.testBit_lt_two_pow (Nat.lt_of_lt_of_le h (Nat.pow_le_pow_right (by omega) hi)), Bool.false_and]
  · rw [decide_eq_false hi, Bool.false_and, Bool.and_false]
theorem bv_or {w k : Nat} (hk : k ≤ w) {x : Int} (y : Int) (h1 : 0 ≤ x) (h2 : x < 2 ^ k) : BitVec.ofInt w x ||| BitVec.ofInt w (y * 2 ^ k) = BitVec.ofInt w (x + y * 2 ^ k) := by
  rw [BitVec.ofInt_add]
  refine (BitVec.add_eq_or_of_and_eq_zero _ _ ?_).symm
  apply BitVec.eq_of_toNat_eq
  rw [BitVec.toNat_and, BitVec.toNat_ofInt, BitVec.toNat_ofInt]
  have hp : (2 : Int) ^ k = ((2 ^ k : Nat) : Int) := rfl
  obtain ⟨e, he⟩ : ∃ e, w = k + e := ⟨w - k, by omega⟩
  have hw : ((2 ^ w : Nat) : Int) = ((2 ^ e : Nat) : Int) * ((2 ^ k : Nat) : Int) := by
    rw [he, Nat.pow_add, Nat.mul_comm, Int.natCast_mul]
  rw [hp] at h2 ⊢
  have hle : (2 ^ k : Nat) ≤ 2 ^ w := Nat.pow_le_pow_right (by omega) hk
  have e1 : x % ((2 ^ w : Nat) : Int) = x := Int.emod_eq_of_lt h1 (by omega)
  have e2 : (y * ((2 ^ k : Nat) : Int) % ((2 ^ w : Nat) : Int)).toNat = (y % ((2 ^ e : Nat) : Int)).toNat * 2 ^ k := by
    have hP : (0 : Int) < ((2 ^ k : Nat) : Int) := Int.natCast_pos.mpr (Nat.two_pow_pos k)
    have hE : ((2 ^ e : Nat) : Int) ≠ 0 := by
      have := Nat.two_pow_pos e
      omega
    rw [hw, Int.mul_comm y, Int.mul_comm ((2 ^ e : Nat) : Int), Int.mul_emod_mul_of_pos _ _ hP]
    have h0 : 0 ≤ y % ((2 ^ e : Nat) : Int) := Int.emod_nonneg _ hE
    obtain ⟨m, hm⟩ := Int.eq_ofNat_of_zero_le h0
    rw [hm]
    show (((2 ^ k * m : Nat) : Int)).toNat = (m : Int).toNat * 2 ^ k
    rw [Int.toNat_natCast, Int.toNat_natCast, Nat.mul_comm]
  rw [e1, e2, nat_and_z (by omega)]
  simp
theorem i32_or {k : Nat} (hk : k ≤ 32) {x y p z : Int} (hp : p = 2 ^ k) (hz : z = x + y * p) (h1 : 0 ≤ x) (h2 : x < p) : Int32.ofInt x ||| Int32.ofInt (y * p) = Int32.ofInt z := by
  subst hp hz
  apply Int32.toBitVec_inj.1
  exact bv_or hk y h1 h2
theorem i64_or {k : Nat} (hk : k ≤ 64) {x y p z : Int} (hp : p = 2 ^ k) (hz : z = x + y * p) (h1 : 0 ≤ x) (h2 : x < p) : Int64.ofInt x ||| Int64.ofInt (y * p) = Int64.ofInt z := by
  subst hp hz
  apply Int64.toBitVec_inj.1
  exact bv_or hk y h1 h2
theorem i32_or2 {k : Nat} (hk : k ≤ 32) {x y p z : Int} (hp : p = 2 ^ k) (hz : z = x + y * p) (h1 : 0 ≤ x) (h2 : x < p) : Int32.ofInt (y * p) ||| Int32.ofInt x = Int32.ofInt z := by
  rw [Int32.or_comm]
  exact i32_or hk hp hz h1 h2
theorem i64_or2 {k : Nat} (hk : k ≤ 64) {x y p z : Int} (hp : p = 2 ^ k) (hz : z = x + y * p) (h1 : 0 ≤ x) (h2 : x < p) : Int64.ofInt (y * p) ||| Int64.ofInt x = Int64.ofInt z := by
  rw [Int64.or_comm]
  exact i64_or hk hp hz h1 h2
theorem div_i32 {x y : Int} (h1 : 0 ≤ x) (h2 : x ≤ 2147483647) (h3 : 0 < y) (h4 : y ≤ 2147483647) : Int32.ofInt x / Int32.ofInt y = Int32.ofInt (x / y) := by
  apply Int32.toInt_inj.1
  have hb : Int32.ofInt y ≠ -1 := by
    intro q
    have := congrArg Int32.toInt q
    rw [i32_of (by omega) h4] at this
    have e : (-1 : Int32).toInt = -1 := by decide
    omega
  have hq : 0 ≤ x / y := Int.ediv_nonneg h1 (by omega)
  have hq2 : x / y ≤ x := Int.ediv_le_self y h1
  rw [Int32.toInt_div_of_ne_right _ _ hb, i32_of (by omega) h2, i32_of (by omega) h4, i32_of (by omega) (by omega), Int.tdiv_eq_ediv_of_nonneg h1]
theorem rem_i32 {x y : Int} (h1 : 0 ≤ x) (h2 : x ≤ 2147483647) (h3 : 0 < y) (h4 : y ≤ 2147483647) : Int32.ofInt x - Int32.ofInt x / Int32.ofInt y * Int32.ofInt y = Int32.ofInt (x % y) := by
  rw [div_i32 h1 h2 h3 h4, ← Int32.ofInt_mul, ← Int32.ofInt_sub]
  congr 1
  have := Int.emod_def x y
  rw [this, Int.mul_comm]
theorem div_i64 {x y : Int} (h1 : 0 ≤ x) (h2 : x ≤ 9223372036854775807) (h3 : 0 < y) (h4 : y ≤ 9223372036854775807) : Int64.ofInt x / Int64.ofInt y = Int64.ofInt (x / y) := by
  apply Int64.toInt_inj.1
  have hb : Int64.ofInt y ≠ -1 := by
    intro q
    have := congrArg Int64.toInt q
    rw [i64_of (by omega) h4] at this
    have e : (-1 : Int64).toInt = -1 := by decide
    omega
  have hq : 0 ≤ x / y := Int.ediv_nonneg h1 (by omega)
  have hq2 : x / y ≤ x := Int.ediv_le_self y h1
  rw [Int64.toInt_div_of_ne_right _ _ hb, i64_of (by omega) h2, i64_of (by omega) h4, i64_of (by omega) (by omega), Int.tdiv_eq_ediv_of_nonneg h1]
theorem rem_i64 {x y : Int} (h1 : 0 ≤ x) (h2 : x ≤ 9223372036854775807) (h3 : 0 < y) (h4 : y ≤ 9223372036854775807) : Int64.ofInt x - Int64.ofInt x / Int64.ofInt y * Int64.ofInt y = Int64.ofInt (x % y) := by
  rw [div_i64 h1 h2 h3 h4, ← Int64.ofInt_mul, ← Int64.ofInt_sub]
  congr 1
  have := Int.emod_def x y
  rw [this, Int.mul_comm]
