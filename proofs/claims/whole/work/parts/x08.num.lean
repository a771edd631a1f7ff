/-! NUMBERS: the machine's ints and longs as whole numbers -/
theorem toI {x : Int} (h : xkI x) : (Int32.ofInt x).toInt = x := Int32.toInt_ofInt_of_le h.1 h.2
theorem toJ {x : Int} (h : okJ x) : (Int64.ofInt x).toInt = x := Int64.toInt_ofInt_of_le h.1 h.2
theorem okI_toInt (x : Int32) : xkI x.toInt := ⟨x.le_toInt, x.toInt_lt⟩
theorem okJ_toInt (x : Int64) : okJ x.toInt := ⟨x.le_toInt, x.toInt_lt⟩
theorem okI_okJ {x : Int} (h : xkI x) : okJ x := by unfold xkI okJ at *; omega
theorem w32_ok (x : Int) : xkI (w32 x) := by
  unfold xkI w32
  have h1 := Int.le_bmod (x := x) (m := 4294967296) (by decide)
  have h2 := Int.bmod_lt (x := x) (m := 4294967296) (by decide)
  omega
theorem w64_ok (x : Int) : okJ (w64 x) := by
  unfold okJ w64
  have h1 := Int.le_bmod (x := x) (m := 18446744073709551616) (by decide)
  have h2 := Int.bmod_lt (x := x) (m := 18446744073709551616) (by decide)
  omega
theorem w8_ok (x : Int) : -128 ≤ w8 x ∧ w8 x < 128 := by
  unfold w8
  have h1 := Int.le_bmod (x := x) (m := 256) (by decide)
  have h2 := Int.bmod_lt (x := x) (m := 256) (by decide)
  omega
theorem w16_ok (x : Int) : -32768 ≤ w16 x ∧ w16 x < 32768 := by
  unfold w16
  have h1 := Int.le_bmod (x := x) (m := 65536) (by decide)
  have h2 := Int.bmod_lt (x := x) (m := 65536) (by decide)
  omega
theorem xw32_id {x : Int} (h : xkI x) : w32 x = x := by
  unfold w32 xkI at *
  exact Int.bmod_eq_of_le (by omega) (by omega)
theorem xw64_id {x : Int} (h : okJ x) : w64 x = x := by
  unfold w64 okJ at *
  exact Int.bmod_eq_of_le (by omega) (by omega)
theorem of_w32 (x : Int) : Int32.ofInt (w32 x) = Int32.ofInt x := by
  apply Int32.toInt_inj.mp
  rw [toI (w32_ok x), Int32.toInt_ofInt]
  rfl
theorem of_w64 (x : Int) : Int64.ofInt (w64 x) = Int64.ofInt x := by
  apply Int64.toInt_inj.mp
  rw [toJ (w64_ok x), Int64.toInt_ofInt]
  rfl
theorem mI_add (a b : Int) : Int32.ofInt (w32 (a + b)) = Int32.ofInt a + Int32.ofInt b := by rw [of_w32, Int32.ofInt_add]
theorem mI_sub (a b : Int) : Int32.ofInt (w32 (a - b)) = Int32.ofInt a - Int32.ofInt b := by rw [of_w32, Int32.ofInt_sub]
theorem mI_mul (a b : Int) : Int32.ofInt (w32 (a * b)) = Int32.ofInt a * Int32.ofInt b := by rw [of_w32, Int32.ofInt_mul]
theorem mI_neg (a : Int) : Int32.ofInt (w32 (-a)) = -Int32.ofInt a := by rw [of_w32, Int32.ofInt_neg]
theorem mJ_add (a b : Int) : Int64.ofInt (w64 (a + b)) = Int64.ofInt a + Int64.ofInt b := by rw [of_w64, Int64.ofInt_add]
theorem mJ_sub (a b : Int) : Int64.ofInt (w64 (a - b)) = Int64.ofInt a - Int64.ofInt b := by rw [of_w64, Int64.ofInt_sub]
theorem mJ_mul (a b : Int) : Int64.ofInt (w64 (a * b)) = Int64.ofInt a * Int64.ofInt b := by rw [of_w64, Int64.ofInt_mul]
theorem mI_div {a b : Int} (ha : xkI a) (hb : xkI b) : Int32.ofInt (am_div a b) = Int32.ofInt a / Int32.ofInt b := by
  apply Int32.toInt_inj.mp
  unfold am_div
  rw [toI (w32_ok _), Int32.toInt_div, toI ha, toI hb]
  rfl
theorem mJ_div {a b : Int} (ha : okJ a) (hb : okJ b) : Int64.ofInt (am_ldiv a b) = Int64.ofInt a / Int64.ofInt b := by
  apply Int64.toInt_inj.mp
  unfold am_ldiv
  rw [toJ (w64_ok _), Int64.toInt_div, toJ ha, toJ hb]
  rfl
theorem mI_rem {a b : Int} (ha : xkI a) (hb : xkI b) : Int32.ofInt (am_rem a b) = Int32.ofInt a - Int32.ofInt a / Int32.ofInt b * Int32.ofInt b := by
  rw [← mI_div ha hb]
  unfold am_div am_rem
  rw [of_w32, ← Int32.ofInt_mul, ← Int32.ofInt_sub, Int.tmod_def, Int.mul_comm]
theorem mJ_rem {a b : Int} (ha : okJ a) (hb : okJ b) : Int64.ofInt (am_lrem a b) = Int64.ofInt a - Int64.ofInt a / Int64.ofInt b * Int64.ofInt b := by
  rw [← mJ_div ha hb]
  unfold am_ldiv am_lrem
  rw [of_w64, ← Int64.ofInt_mul, ← Int64.ofInt_sub, Int.tmod_def, Int.mul_comm]
theorem tmod_abs (a b : Int) : (a.tmod b).natAbs ≤ a.natAbs := by
  rw [Int.natAbs_tmod]
  exact Nat.mod_le _ _
theorem tmod_sgn (a b : Int) : (0 ≤ a → 0 ≤ a.tmod b) ∧ (a < 0 → a.tmod b ≤ 0) := by
  refine ⟨fun h => Int.tmod_nonneg b h, fun h => ?_⟩
  have h1 : a.tmod b = -((-a).tmod b) := by rw [Int.neg_tmod, Int.neg_neg]
  have h2 : 0 ≤ (-a).tmod b := Int.tmod_nonneg b (by omega)
  omega
theorem tmod_ok {a b : Int} (ha : xkI a) : xkI (am_rem a b) := by
  unfold am_rem xkI at *
  have h1 := tmod_abs a b
  have h2 := tmod_sgn a b
  omega
theorem tmod_okJ {a b : Int} (ha : okJ a) : okJ (am_lrem a b) := by
  unfold am_lrem okJ at *
  have h1 := tmod_abs a b
  have h2 := tmod_sgn a b
  omega
theorem ofI_eq {a b : Int} (ha : xkI a) (hb : xkI b) : Int32.ofInt a = Int32.ofInt b ↔ a = b := by
  rw [← Int32.toInt_inj, toI ha, toI hb]
theorem ofI_lt {a b : Int} (ha : xkI a) (hb : xkI b) : Int32.ofInt a < Int32.ofInt b ↔ a < b := by
  rw [Int32.lt_iff_toInt_lt, toI ha, toI hb]
theorem ofI_le {a b : Int} (ha : xkI a) (hb : xkI b) : Int32.ofInt a ≤ Int32.ofInt b ↔ a ≤ b := by
  rw [Int32.le_iff_toInt_le, toI ha, toI hb]
theorem ofJ_eq {a b : Int} (ha : okJ a) (hb : okJ b) : Int64.ofInt a = Int64.ofInt b ↔ a = b := by
  rw [← Int64.toInt_inj, toJ ha, toJ hb]
theorem ofJ_lt {a b : Int} (ha : okJ a) (hb : okJ b) : Int64.ofInt a < Int64.ofInt b ↔ a < b := by
  rw [Int64.lt_iff_toInt_lt, toJ ha, toJ hb]
theorem okI_0 : xkI 0 := ⟨by decide, by decide⟩
theorem ofI_0 : Int32.ofInt 0 = 0 := by decide
theorem ofI_lt0 {a : Int} (ha : xkI a) : Int32.ofInt a < 0 ↔ a < 0 := by rw [← ofI_0]; exact ofI_lt ha okI_0
theorem ofI_gt0 {a : Int} (ha : xkI a) : 0 < Int32.ofInt a ↔ 0 < a := by rw [← ofI_0]; exact ofI_lt okI_0 ha
theorem ofI_eq0 {a : Int} (ha : xkI a) : Int32.ofInt a = 0 ↔ a = 0 := by rw [← ofI_0]; exact ofI_eq ha okI_0
theorem ofI_nat {a : Int} (ha : xkI a) : (Int32.ofInt a).toNatClampNeg = a.toNat := Int32.toNatClampNeg_ofInt_of_le ha.1 ha.2
theorem ofI_in {a : Int} {n : Nat} (ha : xkI a) (h0 : 0 ≤ a) (h1 : a < (n : Int)) : vp_in (Int32.ofInt a) n := by
  unfold vp_in
  rw [ofI_nat ha, ofI_lt0 ha]
  omega
theorem nJ_i2l {a : Int} (ha : xkI a) : (Int32.ofInt a).toInt64 = Int64.ofInt a := by
  apply Int64.toInt_inj.mp
  rw [Int32.toInt_toInt64, toI ha, toJ (okI_okJ ha)]
theorem nI_l2i {a : Int} (ha : okJ a) : (Int64.ofInt a).toInt32 = Int32.ofInt (w32 a) := by
  apply Int32.toInt_inj.mp
  rw [Int64.toInt_toInt32, toJ ha, toI (w32_ok a)]
  rfl
theorem okI_8 {a : Int} (h : -128 ≤ a ∧ a < 128) : xkI a := by unfold xkI; omega
theorem okI_16 {a : Int} (h : -32768 ≤ a ∧ a < 32768) : xkI a := by unfold xkI; omega
theorem nI_i2b {a : Int} (ha : xkI a) : (Int32.ofInt a).toInt8.toInt32 = Int32.ofInt (w8 a) := by
  apply Int32.toInt_inj.mp
  rw [Int8.toInt_toInt32, Int32.toInt_toInt8, toI ha, toI (okI_8 (w8_ok a))]
  rfl
theorem nI_i2s {a : Int} (ha : xkI a) : (Int32.ofInt a).toInt16.toInt32 = Int32.ofInt (w16 a) := by
  apply Int32.toInt_inj.mp
  rw [Int16.toInt_toInt32, Int32.toInt_toInt16, toI ha, toI (okI_16 (w16_ok a))]
  rfl
theorem nI_cmp {a b : Int} (ha : okJ a) (hb : okJ b) : lg_cmp (Int64.ofInt a) (Int64.ofInt b) = Int32.ofInt (am_lcmp a b) := by
  unfold lg_cmp am_lcmp
  simp only [ofJ_lt ha hb, ofJ_eq ha hb, ofJ_lt hb ha]
  repeat' split
  all_goals first | rfl | omega
theorem lcmp_ok (a b : Int) : xkI (am_lcmp a b) := by
  unfold am_lcmp xkI
  repeat' split
  all_goals omega
theorem nar_b {a : Int} (ha : xkI a) : vp_nar .byte (Int32.ofInt a) = Int32.ofInt (w8 a) := by
  rw [← nI_i2b ha]
  rfl
theorem nar_s {a : Int} (ha : xkI a) : vp_nar .short (Int32.ofInt a) = Int32.ofInt (w16 a) := by
  rw [← nI_i2s ha]
  rfl
