/-! BITS of whole numbers -/
theorem bv_of (a : Int) : (Int32.ofInt a).toBitVec.toNat = (a % 4294967296).toNat := by
  show (BitVec.ofInt 32 a).toNat = _
  rw [BitVec.toNat_ofInt]
  rfl
theorem bv_of64 (a : Int) : (Int64.ofInt a).toBitVec.toNat = (a % 18446744073709551616).toNat := by
  show (BitVec.ofInt 64 a).toNat = _
  rw [BitVec.toNat_ofInt]
  rfl
theorem bv_to (x : Int32) (h : x.toBitVec.toNat < 2147483648) : x.toInt = (x.toBitVec.toNat : Int) := by
  show x.toBitVec.toInt = _
  rw [BitVec.toInt_eq_toNat_cond, if_pos (by omega)]
theorem bv_to64 (x : Int64) (h : x.toBitVec.toNat < 9223372036854775808) : x.toInt = (x.toBitVec.toNat : Int) := by
  show x.toBitVec.toInt = _
  rw [BitVec.toInt_eq_toNat_cond, if_pos (by omega)]
theorem am_or_n (a b : Nat) (ha : a < 2147483648) (hb : b < 2147483648) : am_or (a : Int) (b : Int) = ((a ||| b : Nat) : Int) := by
  unfold am_or
  have e : (Int32.ofInt a ||| Int32.ofInt b).toBitVec.toNat = a ||| b := by
    show ((Int32.ofInt a).toBitVec ||| (Int32.ofInt b).toBitVec).toNat = _
    rw [BitVec.toNat_or, bv_of, bv_of]
    congr 1 <;> omega
  have l : a ||| b < 2147483648 := Nat.or_lt_two_pow (n := 31) ha hb
  rw [bv_to _ (by rw [e]; exact l), e]
theorem am_lor_n (a b : Nat) (ha : a < 9223372036854775808) (hb : b < 9223372036854775808) : am_lor (a : Int) (b : Int) = ((a ||| b : Nat) : Int) := by
  unfold am_lor
  have e : (Int64.ofInt a ||| Int64.ofInt b).toBitVec.toNat = a ||| b := by
    show ((Int64.ofInt a).toBitVec ||| (Int64.ofInt b).toBitVec).toNat = _
    rw [BitVec.toNat_or, bv_of64, bv_of64]
    congr 1 <;> omega
  have l : a ||| b < 9223372036854775808 := Nat.or_lt_two_pow (n := 63) ha hb
  rw [bv_to64 _ (by rw [e]; exact l), e]
/-- bits that lie apart are added -/
theorem or_add (a b k : Nat) (ha : a < 2 ^ k) : a ||| b * 2 ^ k = a + b * 2 ^ k := by
  rw [Nat.or_comm, Nat.mul_comm, ← Nat.two_pow_add_eq_or_of_lt ha, Nat.add_comm]
theorem am_or_add (a b : Int) (k : Nat) (h0 : 0 ≤ a) (h1 : a < 2 ^ k) (h2 : 0 ≤ b) (h3 : a + b * 2 ^ k < 2147483648) : am_or a (b * 2 ^ k) = a + b * 2 ^ k := by
  obtain ⟨x, rfl⟩ := Int.eq_ofNat_of_zero_le h0
  obtain ⟨y, rfl⟩ := Int.eq_ofNat_of_zero_le h2
  have e : ((y : Int) * 2 ^ k) = ((y * 2 ^ k : Nat) : Int) := by
    rw [Int.natCast_mul, Int.natCast_pow]; rfl
  rw [e] at h3 ⊢
  have hx : x < 2 ^ k := by
    have : ((2 : Int) ^ k) = ((2 ^ k : Nat) : Int) := by rw [Int.natCast_pow]; rfl
    rw [this] at h1
    omega
  rw [am_or_n _ _ (by omega) (by omega), or_add _ _ _ hx]
  omega
theorem am_lor_add (a b : Int) (k : Nat) (h0 : 0 ≤ a) (h1 : a < 2 ^ k) (h2 : 0 ≤ b) (h3 : a + b * 2 ^ k < 9223372036854775808) : am_lor a (b * 2 ^ k) = a + b * 2 ^ k := by
  obtain ⟨x, rfl⟩ := Int.eq_ofNat_of_zero_le h0
  obtain ⟨y, rfl⟩ := Int.eq_ofNat_of_zero_le h2
  have e : ((y : Int) * 2 ^ k) = ((y * 2 ^ k : Nat) : Int) := by
    rw [Int.natCast_mul, Int.natCast_pow]; rfl
  rw [e] at h3 ⊢
  have hx : x < 2 ^ k := by
    have : ((2 : Int) ^ k) = ((2 ^ k : Nat) : Int) := by rw [Int.natCast_pow]; rfl
    rw [this] at h1
    omega
  rw [am_lor_n _ _ (by omega) (by omega), or_add _ _ _ hx]
  omega
theorem am_and_1 (a : Int) : am_and a 1 = a % 2 := by
  unfold am_and
  rw [pk_and (Int32.ofInt a) 1 (by decide), nI_toInt (by omega), bv_of]
  omega
theorem am_and_7 (a : Int) : am_and a 7 = a % 8 := by
  unfold am_and
  rw [pk_and (Int32.ofInt a) 3 (by decide), nI_toInt (by omega), bv_of]
  omega
theorem am_and_15 (a : Int) : am_and a 15 = a % 16 := by
  unfold am_and
  rw [pk_and (Int32.ofInt a) 4 (by decide), nI_toInt (by omega), bv_of]
  omega
theorem am_and_31 (a : Int) : am_and a 31 = a % 32 := by
  unfold am_and
  rw [pk_and (Int32.ofInt a) 5 (by decide), nI_toInt (by omega), bv_of]
  omega
theorem am_and_63 (a : Int) : am_and a 63 = a % 64 := by
  unfold am_and
  rw [pk_and (Int32.ofInt a) 6 (by decide), nI_toInt (by omega), bv_of]
  omega
theorem am_and_255 (a : Int) : am_and a 255 = a % 256 := by
  unfold am_and
  rw [pk_and (Int32.ofInt a) 8 (by decide), nI_toInt (by omega), bv_of]
  omega
theorem am_shl_n (a : Int) (k : Nat) (hk : ((Int32.ofInt (k : Int) &&& 31).toBitVec.smod 32).toNat = k) (h0 : 0 ≤ a) (h1 : a * 2 ^ k < 2147483648) : am_shl a k = a * 2 ^ k := by
  unfold am_shl
  have hp : (0 : Int) < 2 ^ k := Int.pow_pos (by decide)
  obtain ⟨x, rfl⟩ := Int.eq_ofNat_of_zero_le h0
  have e : ((x : Int) * 2 ^ k) = ((x * 2 ^ k : Nat) : Int) := by
    rw [Int.natCast_mul, Int.natCast_pow]; rfl
  rw [e] at h1 ⊢
  have hx : x ≤ x * 2 ^ k := Nat.le_mul_of_pos_right x (Nat.two_pow_pos k)
  have e2 := pk_shl (Int32.ofInt x) (Int32.ofInt k &&& 31) k hk
  rw [bv_of, show ((x : Int) % 4294967296).toNat = x by omega, Nat.mod_eq_of_lt (by omega)] at e2
  rw [bv_to _ (by omega), e2]
theorem am_shr_n (a : Int) (k : Nat) (hk : ((Int32.ofInt (k : Int) &&& 31).toBitVec.smod 32).toNat = k) (h0 : 0 ≤ a) (h1 : a < 2147483648) : am_shr a k = a / 2 ^ k := by
  unfold am_shr
  rw [pk_shr _ _ k hk]
  obtain ⟨x, rfl⟩ := Int.eq_ofNat_of_zero_le h0
  have e : (Int32.ofInt (x : Int)).toInt = (x : Int) := by
    rw [bv_to _ (by rw [bv_of]; omega), bv_of]
    omega
  rw [e, Int.shiftRight_eq_div_pow, Int.natCast_pow]
  rfl
theorem am_lshr_6 (a : Int) (h0 : 0 ≤ a) (h1 : a < 9223372036854775808) : am_lshr a 6 = a / 64 := by
  unfold am_lshr
  have e : (Int64.ofInt a).toInt = a := by
    rw [bv_to64 _ (by rw [bv_of64]; omega), bv_of64]
    omega
  have f : (Int64.ofInt a >>> ((Int32.ofInt 6).toInt64 &&& 63)).toInt = (Int64.ofInt a).toInt >>> 6 := by
    show ((Int64.ofInt a).toBitVec.sshiftRight' (((Int32.ofInt 6).toInt64 &&& 63).toBitVec.smod 64)).toInt = (Int64.ofInt a).toBitVec.toInt >>> 6
    rw [BitVec.sshiftRight', BitVec.toInt_sshiftRight]
    rfl
  rw [f, e, Int.shiftRight_eq_div_pow]
  rfl
theorem am_lshr_12 (a : Int) (h0 : 0 ≤ a) (h1 : a < 9223372036854775808) : am_lshr a 12 = a / 4096 := by
  unfold am_lshr
  have e : (Int64.ofInt a).toInt = a := by
    rw [bv_to64 _ (by rw [bv_of64]; omega), bv_of64]
    omega
  have f : (Int64.ofInt a >>> ((Int32.ofInt 12).toInt64 &&& 63)).toInt = (Int64.ofInt a).toInt >>> 12 := by
    show ((Int64.ofInt a).toBitVec.sshiftRight' (((Int32.ofInt 12).toInt64 &&& 63).toBitVec.smod 64)).toInt = (Int64.ofInt a).toBitVec.toInt >>> 12
    rw [BitVec.sshiftRight', BitVec.toInt_sshiftRight]
    rfl
  rw [f, e, Int.shiftRight_eq_div_pow]
  rfl
theorem am_lshr_17 (a : Int) (h0 : 0 ≤ a) (h1 : a < 9223372036854775808) : am_lshr a 17 = a / 131072 := by
  unfold am_lshr
  have e : (Int64.ofInt a).toInt = a := by
    rw [bv_to64 _ (by rw [bv_of64]; omega), bv_of64]
    omega
  have f : (Int64.ofInt a >>> ((Int32.ofInt 17).toInt64 &&& 63)).toInt = (Int64.ofInt a).toInt >>> 17 := by
    show ((Int64.ofInt a).toBitVec.sshiftRight' (((Int32.ofInt 17).toInt64 &&& 63).toBitVec.smod 64)).toInt = (Int64.ofInt a).toBitVec.toInt >>> 17
    rw [BitVec.sshiftRight', BitVec.toInt_sshiftRight]
    rfl
  rw [f, e, Int.shiftRight_eq_div_pow]
  rfl
theorem am_lshr_22 (a : Int) (h0 : 0 ≤ a) (h1 : a < 9223372036854775808) : am_lshr a 22 = a / 4194304 := by
  unfold am_lshr
  have e : (Int64.ofInt a).toInt = a := by
    rw [bv_to64 _ (by rw [bv_of64]; omega), bv_of64]
    omega
  have f : (Int64.ofInt a >>> ((Int32.ofInt 22).toInt64 &&& 63)).toInt = (Int64.ofInt a).toInt >>> 22 := by
    show ((Int64.ofInt a).toBitVec.sshiftRight' (((Int32.ofInt 22).toInt64 &&& 63).toBitVec.smod 64)).toInt = (Int64.ofInt a).toBitVec.toInt >>> 22
    rw [BitVec.sshiftRight', BitVec.toInt_sshiftRight]
    rfl
  rw [f, e, Int.shiftRight_eq_div_pow]
  rfl
theorem am_lshr_26 (a : Int) (h0 : 0 ≤ a) (h1 : a < 9223372036854775808) : am_lshr a 26 = a / 67108864 := by
  unfold am_lshr
  have e : (Int64.ofInt a).toInt = a := by
    rw [bv_to64 _ (by rw [bv_of64]; omega), bv_of64]
    omega
  have f : (Int64.ofInt a >>> ((Int32.ofInt 26).toInt64 &&& 63)).toInt = (Int64.ofInt a).toInt >>> 26 := by
    show ((Int64.ofInt a).toBitVec.sshiftRight' (((Int32.ofInt 26).toInt64 &&& 63).toBitVec.smod 64)).toInt = (Int64.ofInt a).toBitVec.toInt >>> 26
    rw [BitVec.sshiftRight', BitVec.toInt_sshiftRight]
    rfl
  rw [f, e, Int.shiftRight_eq_div_pow]
  rfl
theorem am_lshr_30 (a : Int) (h0 : 0 ≤ a) (h1 : a < 9223372036854775808) : am_lshr a 30 = a / 1073741824 := by
  unfold am_lshr
  have e : (Int64.ofInt a).toInt = a := by
    rw [bv_to64 _ (by rw [bv_of64]; omega), bv_of64]
    omega
  have f : (Int64.ofInt a >>> ((Int32.ofInt 30).toInt64 &&& 63)).toInt = (Int64.ofInt a).toInt >>> 30 := by
    show ((Int64.ofInt a).toBitVec.sshiftRight' (((Int32.ofInt 30).toInt64 &&& 63).toBitVec.smod 64)).toInt = (Int64.ofInt a).toBitVec.toInt >>> 30
    rw [BitVec.sshiftRight', BitVec.toInt_sshiftRight]
    rfl
  rw [f, e, Int.shiftRight_eq_div_pow]
  rfl
theorem am_lshl_30 (a : Int) (h0 : 0 ≤ a) (h1 : a < 2147483648) : am_lshl a 30 = a * 1073741824 := by
  unfold am_lshl
  have e : (Int64.ofInt a <<< ((Int32.ofInt 30).toInt64 &&& 63)).toBitVec.toNat = a.toNat * 2 ^ 30 := by
    show ((Int64.ofInt a).toBitVec <<< (((Int32.ofInt 30).toInt64 &&& 63).toBitVec.smod 64)).toNat = _
    rw [BitVec.shiftLeft_eq', BitVec.toNat_shiftLeft, bv_of64]
    have : (((Int32.ofInt 30).toInt64 &&& 63).toBitVec.smod 64).toNat = 30 := by decide
    rw [this, Nat.shiftLeft_eq, Nat.mod_eq_of_lt (by omega)]
    omega
  rw [bv_to64 _ (by rw [e]; omega), e]
  omega
theorem am_shl_6 (a : Int) (h0 : 0 ≤ a) (h1 : a * 64 < 2147483648) : am_shl a 6 = a * 64 := by
  have e : (2 : Int) ^ 6 = 64 := by decide +kernel
  have q := am_shl_n a 6 (by decide +kernel) h0 (by rw [e]; exact h1)
  rw [e] at q
  exact q
theorem am_or_6 (a b : Int) (h0 : 0 ≤ a) (h1 : a < 64) (h2 : 0 ≤ b) (h3 : a + b * 64 < 2147483648) : am_or a (b * 64) = a + b * 64 := by
  have e : (2 : Int) ^ 6 = 64 := by decide +kernel
  have q := am_or_add a b 6 h0 (by rw [e]; exact h1) h2 (by rw [e]; exact h3)
  rw [e] at q
  exact q
theorem am_shl_12 (a : Int) (h0 : 0 ≤ a) (h1 : a * 4096 < 2147483648) : am_shl a 12 = a * 4096 := by
  have e : (2 : Int) ^ 12 = 4096 := by decide +kernel
  have q := am_shl_n a 12 (by decide +kernel) h0 (by rw [e]; exact h1)
  rw [e] at q
  exact q
theorem am_or_12 (a b : Int) (h0 : 0 ≤ a) (h1 : a < 4096) (h2 : 0 ≤ b) (h3 : a + b * 4096 < 2147483648) : am_or a (b * 4096) = a + b * 4096 := by
  have e : (2 : Int) ^ 12 = 4096 := by decide +kernel
  have q := am_or_add a b 12 h0 (by rw [e]; exact h1) h2 (by rw [e]; exact h3)
  rw [e] at q
  exact q
theorem am_shl_17 (a : Int) (h0 : 0 ≤ a) (h1 : a * 131072 < 2147483648) : am_shl a 17 = a * 131072 := by
  have e : (2 : Int) ^ 17 = 131072 := by decide +kernel
  have q := am_shl_n a 17 (by decide +kernel) h0 (by rw [e]; exact h1)
  rw [e] at q
  exact q
theorem am_or_17 (a b : Int) (h0 : 0 ≤ a) (h1 : a < 131072) (h2 : 0 ≤ b) (h3 : a + b * 131072 < 2147483648) : am_or a (b * 131072) = a + b * 131072 := by
  have e : (2 : Int) ^ 17 = 131072 := by decide +kernel
  have q := am_or_add a b 17 h0 (by rw [e]; exact h1) h2 (by rw [e]; exact h3)
  rw [e] at q
  exact q
theorem am_shl_22 (a : Int) (h0 : 0 ≤ a) (h1 : a * 4194304 < 2147483648) : am_shl a 22 = a * 4194304 := by
  have e : (2 : Int) ^ 22 = 4194304 := by decide +kernel
  have q := am_shl_n a 22 (by decide +kernel) h0 (by rw [e]; exact h1)
  rw [e] at q
  exact q
theorem am_or_22 (a b : Int) (h0 : 0 ≤ a) (h1 : a < 4194304) (h2 : 0 ≤ b) (h3 : a + b * 4194304 < 2147483648) : am_or a (b * 4194304) = a + b * 4194304 := by
  have e : (2 : Int) ^ 22 = 4194304 := by decide +kernel
  have q := am_or_add a b 22 h0 (by rw [e]; exact h1) h2 (by rw [e]; exact h3)
  rw [e] at q
  exact q
theorem am_shl_26 (a : Int) (h0 : 0 ≤ a) (h1 : a * 67108864 < 2147483648) : am_shl a 26 = a * 67108864 := by
  have e : (2 : Int) ^ 26 = 67108864 := by decide +kernel
  have q := am_shl_n a 26 (by decide +kernel) h0 (by rw [e]; exact h1)
  rw [e] at q
  exact q
theorem am_or_26 (a b : Int) (h0 : 0 ≤ a) (h1 : a < 67108864) (h2 : 0 ≤ b) (h3 : a + b * 67108864 < 2147483648) : am_or a (b * 67108864) = a + b * 67108864 := by
  have e : (2 : Int) ^ 26 = 67108864 := by decide +kernel
  have q := am_or_add a b 26 h0 (by rw [e]; exact h1) h2 (by rw [e]; exact h3)
  rw [e] at q
  exact q
theorem am_lor_30 (a b : Int) (h0 : 0 ≤ a) (h1 : a < 1073741824) (h2 : 0 ≤ b) (h3 : a + b * 1073741824 < 9223372036854775808) : am_lor a (b * 1073741824) = a + b * 1073741824 := by
  have e : (2 : Int) ^ 30 = 1073741824 := by decide +kernel
  have q := am_lor_add a b 30 h0 (by rw [e]; exact h1) h2 (by rw [e]; exact h3)
  rw [e] at q
  exact q
