/-! Longs as whole numbers, where nothing runs over. -/
theorem bm64 {z : Int} (h1 : -9223372036854775808 ≤ z) (h2 : z < 9223372036854775808) : z.bmod (2 ^ 64) = z := by
  rw [Int.bmod_def]
  split <;> omega
theorem mul64 {a b : Int64} (h1 : -9223372036854775808 ≤ a.toInt * b.toInt) (h2 : a.toInt * b.toInt < 9223372036854775808) : (a * b).toInt = a.toInt * b.toInt := by
  rw [Int64.toInt_mul, bm64 h1 h2]
theorem add64 {a b : Int64} (h1 : -9223372036854775808 ≤ a.toInt + b.toInt) (h2 : a.toInt + b.toInt < 9223372036854775808) : (a + b).toInt = a.toInt + b.toInt := by
  rw [Int64.toInt_add, bm64 h1 h2]
theorem sub64 {a b : Int64} (h1 : -9223372036854775808 ≤ a.toInt - b.toInt) (h2 : a.toInt - b.toInt < 9223372036854775808) : (a - b).toInt = a.toInt - b.toInt := by
  rw [Int64.toInt_sub, bm64 h1 h2]
theorem neg64 {a : Int64} (h1 : -9223372036854775808 < a.toInt) : (-a).toInt = -a.toInt := by
  rw [Int64.toInt_neg, bm64] <;> have := Int64.toInt_lt a <;> omega
theorem bm32 {z : Int} (h1 : -2147483648 ≤ z) (h2 : z < 2147483648) : z.bmod (2 ^ 32) = z := by
  rw [Int.bmod_def]
  split <;> omega
theorem mul32 {a b : Int32} (h1 : -2147483648 ≤ a.toInt * b.toInt) (h2 : a.toInt * b.toInt < 2147483648) : (a * b).toInt = a.toInt * b.toInt := by
  rw [Int32.toInt_mul, bm32 h1 h2]
theorem add32 {a b : Int32} (h1 : -2147483648 ≤ a.toInt + b.toInt) (h2 : a.toInt + b.toInt < 2147483648) : (a + b).toInt = a.toInt + b.toInt := by
  rw [Int32.toInt_add, bm32 h1 h2]
theorem sub32 {a b : Int32} (h1 : -2147483648 ≤ a.toInt - b.toInt) (h2 : a.toInt - b.toInt < 2147483648) : (a - b).toInt = a.toInt - b.toInt := by
  rw [Int32.toInt_sub, bm32 h1 h2]
theorem shr20 (x : Int64) : (x >>> ((20 : Int32).toInt64 &&& 63)).toInt = x.toInt / 1048576 := by
  have e : ((20 : Int32).toInt64 &&& 63) = 20 := by decide
  rw [e]
  have h : (x >>> (20 : Int64)).toInt = x.toInt >>> 20 := by
    show ((x.toBitVec.sshiftRight' ((20 : Int64).toBitVec.smod 64))).toInt = _
    have e2 : ((20 : Int64).toBitVec.smod 64) = 20#64 := by decide
    rw [e2, BitVec.toInt_sshiftRight']
    rfl
  rw [h, Int.shiftRight_eq_div_pow]
  rfl
theorem and20 (x : Int64) : (x &&& 1048575).toInt = x.toInt % 1048576 := by
  have h1 : (x &&& 1048575).toBitVec.toNat = x.toBitVec.toNat % 1048576 := by
    show (x.toBitVec &&& 1048575#64).toNat = _
    rw [BitVec.toNat_and]
    exact Nat.and_two_pow_sub_one_eq_mod _ 20
  have h2 : (x &&& 1048575).toInt = ((x &&& 1048575).toBitVec.toNat : Int) := k2_int (by rw [h1]; omega)
  rw [h2, h1]
  have h3 : x.toInt = (x.toBitVec.toNat : Int) ∨ x.toInt = (x.toBitVec.toNat : Int) - 18446744073709551616 := by
    have := BitVec.toInt_eq_toNat_cond x.toBitVec
    show x.toBitVec.toInt = _ ∨ x.toBitVec.toInt = _
    rw [this]
    split
    · exact Or.inl rfl
    · exact Or.inr rfl
  rcases h3 with h3 | h3 <;> rw [h3] <;> omega
/-- the order of two products, by halves -/
theorem halves {t v t' v' : Int} : 0 ≤ (t * (v / 1048576) - t' * (v' / 1048576)) + (t * (v % 1048576) - t' * (v' % 1048576)) / 1048576 ↔ t' * v' ≤ t * v := by
  have h1 : v = 1048576 * (v / 1048576) + v % 1048576 := (Int.mul_ediv_add_emod v 1048576).symm
  have h2 : v' = 1048576 * (v' / 1048576) + v' % 1048576 := (Int.mul_ediv_add_emod v' 1048576).symm
  generalize v / 1048576 = q at *
  generalize v % 1048576 = r at *
  generalize v' / 1048576 = q' at *
  generalize v' % 1048576 = r' at *
  subst h1
  subst h2
  have e : t * (1048576 * q + r) - t' * (1048576 * q' + r') = 1048576 * (t * q - t' * q') + (t * r - t' * r') := by grind
  generalize t * q - t' * q' = A at *
  generalize t * r - t' * r' = B at *
  omega
theorem mul_bd {a b A B : Int} (ha : -A ≤ a) (ha' : a ≤ A) (hb : -B ≤ b) (hb' : b ≤ B) : -(A * B) ≤ a * b ∧ a * b ≤ A * B := by
  have hA : 0 ≤ A := by omega
  have hB : 0 ≤ B := by omega
  constructor
  · have h1 : 0 ≤ (A - a) * (B + b) := Int.mul_nonneg (by omega) (by omega)
    have h2 : 0 ≤ (A + a) * (B - b) := Int.mul_nonneg (by omega) (by omega)
    have h3 : 0 ≤ (A - a) * (B - b) := Int.mul_nonneg (by omega) (by omega)
    have h4 : 0 ≤ (A + a) * (B + b) := Int.mul_nonneg (by omega) (by omega)
    grind
  · have h1 : 0 ≤ (A - a) * (B + b) := Int.mul_nonneg (by omega) (by omega)
    have h2 : 0 ≤ (A + a) * (B - b) := Int.mul_nonneg (by omega) (by omega)
    grind
theorem s_atLeast (N : Nat) {t v t' v' : Int64} (h1 : -100000 ≤ t.toInt) (h2 : t.toInt ≤ 100000) (h3 : -100000 ≤ t'.toInt) (h4 : t'.toInt ≤ 100000) (h5 : -1000000000000000000 ≤ v.toInt) (h6 : v.toInt ≤ 1000000000000000000) (h7 : -1000000000000000000 ≤ v'.toInt) (h8 : v'.toInt ≤ 1000000000000000000) :
    M_Ru_atLeast N t v t' v' = some (b01 (t'.toInt * v'.toInt ≤ t.toInt * v.toInt)) := by
  have q1 := mul_bd (A := 100000) (B := 1000000000000) h1 h2 (b := v.toInt / 1048576) (by omega) (by omega)
  have q2 := mul_bd (A := 100000) (B := 1000000000000) h3 h4 (b := v'.toInt / 1048576) (by omega) (by omega)
  have q3 := mul_bd (A := 100000) (B := 1048576) h1 h2 (b := v.toInt % 1048576) (by omega) (by omega)
  have q4 := mul_bd (A := 100000) (B := 1048576) h3 h4 (b := v'.toInt % 1048576) (by omega) (by omega)
  have e1 : (t * (v >>> ((20 : Int32).toInt64 &&& 63))).toInt = t.toInt * (v.toInt / 1048576) := by rw [mul64] <;> rw [shr20] <;> omega
  have e2 : (t' * (v' >>> ((20 : Int32).toInt64 &&& 63))).toInt = t'.toInt * (v'.toInt / 1048576) := by rw [mul64] <;> rw [shr20] <;> omega
  have e3 : (t * (v &&& 1048575)).toInt = t.toInt * (v.toInt % 1048576) := by rw [mul64] <;> rw [and20] <;> omega
  have e4 : (t' * (v' &&& 1048575)).toInt = t'.toInt * (v'.toInt % 1048576) := by rw [mul64] <;> rw [and20] <;> omega
  have e5 : ((t * (v >>> ((20 : Int32).toInt64 &&& 63))) - (t' * (v' >>> ((20 : Int32).toInt64 &&& 63)))).toInt = t.toInt * (v.toInt / 1048576) - t'.toInt * (v'.toInt / 1048576) := by rw [sub64] <;> rw [e1, e2] <;> omega
  have e6 : ((t * (v &&& 1048575)) - (t' * (v' &&& 1048575))).toInt = t.toInt * (v.toInt % 1048576) - t'.toInt * (v'.toInt % 1048576) := by rw [sub64] <;> rw [e3, e4] <;> omega
  have e7 : (((t * (v >>> ((20 : Int32).toInt64 &&& 63))) - (t' * (v' >>> ((20 : Int32).toInt64 &&& 63)))) + (((t * (v &&& 1048575)) - (t' * (v' &&& 1048575))) >>> ((20 : Int32).toInt64 &&& 63))).toInt = (t.toInt * (v.toInt / 1048576) - t'.toInt * (v'.toInt / 1048576)) + (t.toInt * (v.toInt % 1048576) - t'.toInt * (v'.toInt % 1048576)) / 1048576 := by
    rw [add64] <;> rw [e5, shr20, e6] <;> omega
  rw [M_Ru_atLeast]
  simp only [nm, cmp_lt, okZ_0, okZ_1]
  have hh := halves (t := t.toInt) (v := v.toInt) (t' := t'.toInt) (v' := v'.toInt)
  unfold b01
  by_cases hc : t'.toInt * v'.toInt ≤ t.toInt * v.toInt
  · rw [if_pos hc, if_neg]
    rw [Int64.lt_iff_toInt_lt, e7]
    show ¬ _ < (0 : Int)
    have := hh.mpr hc
    omega
  · rw [if_neg hc, if_pos]
    rw [Int64.lt_iff_toInt_lt, e7]
    show _ < (0 : Int)
    rcases Int.lt_or_le ((t.toInt * (v.toInt / 1048576) - t'.toInt * (v'.toInt / 1048576)) + (t.toInt * (v.toInt % 1048576) - t'.toInt * (v'.toInt % 1048576)) / 1048576) 0 with h | h
    · exact h
    · exact absurd (hh.mp h) hc
