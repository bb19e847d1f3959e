/-! Division, the order of fractions, common divisors. -/
theorem tdiv_bd {a b : Int} (hb : 0 < b) : -(Int.natAbs a : Int) ≤ a.tdiv b ∧ a.tdiv b ≤ (Int.natAbs a : Int) := by
  have h := Int.natAbs_tdiv_le_natAbs a b
  omega
theorem tdiv_np {a b : Int} (ha : a ≤ 0) (hb : 0 ≤ b) : a.tdiv b ≤ 0 := by
  have h : 0 ≤ (-a).tdiv b := Int.tdiv_nonneg (by omega) hb
  rw [Int.neg_tdiv] at h
  omega
theorem div64 {x y : Int64} (hy : 0 < y.toInt) : (x / y).toInt = x.toInt.tdiv y.toInt := by
  have h1 := Int64.le_toInt x
  have h2 := Int64.toInt_lt x
  rw [Int64.toInt_div, bm64]
  · have := Int.natAbs_tdiv_le_natAbs x.toInt y.toInt
    by_cases hx : x.toInt = -9223372036854775808
    · have h3 : x.toInt.tdiv y.toInt ≤ 0 := by
        rw [hx]
        exact tdiv_np (by decide) (by omega)
      omega
    · omega
  · by_cases hx : 0 ≤ x.toInt
    · have := Int.natAbs_tdiv_le_natAbs x.toInt y.toInt
      omega
    · have h3 : x.toInt.tdiv y.toInt ≤ 0 := tdiv_np (by omega) (by omega)
      omega
theorem rem64 {x y : Int64} (hy : 0 < y.toInt) : (x - x / y * y).toInt = x.toInt.tmod y.toInt := by
  have h1 := Int64.le_toInt x
  have h2 := Int64.toInt_lt x
  have e := Int.mul_tdiv_add_tmod x.toInt y.toInt
  have m1 : -y.toInt < x.toInt.tmod y.toInt := by
    have := Int.lt_tmod_of_pos x.toInt hy
    omega
  have m2 : x.toInt.tmod y.toInt < y.toInt := Int.tmod_lt_of_pos x.toInt hy
  have m3 : 0 ≤ x.toInt → 0 ≤ x.toInt.tmod y.toInt := fun h => Int.tmod_nonneg _ h
  have m4 : x.toInt ≤ 0 → x.toInt.tmod y.toInt ≤ 0 := fun h => by
    have := Int.tmod_nonneg (a := -x.toInt) y.toInt (by omega)
    rw [Int.neg_tmod] at this
    omega
  have m5 : 0 ≤ x.toInt → x.toInt.tmod y.toInt ≤ x.toInt := fun h => by
    have h9 : 0 ≤ x.toInt.tdiv y.toInt := Int.tdiv_nonneg h (by omega)
    have h8 : 0 ≤ y.toInt * x.toInt.tdiv y.toInt := Int.mul_nonneg (by omega) h9
    omega
  have m6 : x.toInt ≤ 0 → x.toInt ≤ x.toInt.tmod y.toInt := fun h => by
    have h9 : x.toInt.tdiv y.toInt ≤ 0 := tdiv_np h (by omega)
    have h8 : y.toInt * x.toInt.tdiv y.toInt ≤ 0 := Int.mul_nonpos_of_nonneg_of_nonpos (by omega) h9
    omega
  have e1 : (x / y * y).toInt = x.toInt - x.toInt.tmod y.toInt := by
    have hc : x.toInt.tdiv y.toInt * y.toInt = x.toInt - x.toInt.tmod y.toInt := by rw [Int.mul_comm]; omega
    rw [mul64] <;> rw [div64 hy, hc]
    · rcases Int.le_total 0 x.toInt with h | h
      · have := m5 h; have := m3 h; omega
      · have := m6 h; have := m4 h; omega
    · rcases Int.le_total 0 x.toInt with h | h
      · have := m5 h; have := m3 h; omega
      · have := m6 h; have := m4 h; omega
  rw [sub64] <;> rw [e1]
  · omega
  · rcases Int.le_total 0 x.toInt with h | h
    · have := m5 h; have := m3 h; omega
    · have := m6 h; have := m4 h; omega
  · rcases Int.le_total 0 x.toInt with h | h
    · have := m5 h; have := m3 h; omega
    · have := m6 h; have := m4 h; omega
theorem xor_sign {x y : Int64} (hy : 0 ≤ y.toInt) : (0 ≤ x ^^^ y) ↔ 0 ≤ x.toInt := by
  rw [Int64.le_iff_toInt_le]
  show (0 : Int) ≤ (x.toBitVec ^^^ y.toBitVec).toInt ↔ 0 ≤ x.toBitVec.toInt
  have hy' : y.toBitVec.msb = false := by
    have h9 : 0 ≤ y.toBitVec.toInt := hy
    have := BitVec.msb_eq_toInt (x := y.toBitVec)
    rw [this]
    simp
    omega
  have h1 := BitVec.msb_eq_toInt (x := x.toBitVec ^^^ y.toBitVec)
  have h2 := BitVec.msb_eq_toInt (x := x.toBitVec)
  have h3 : (x.toBitVec ^^^ y.toBitVec).msb = x.toBitVec.msb := by rw [BitVec.msb_xor, hy']; simp
  rw [h1, h2] at h3
  have h4 := decide_eq_decide.mp h3
  omega
theorem s_floorDiv (N : Nat) {x y : Int64} (hy : 0 < y.toInt) : ∃ q : Int64, M_Ma_floorDiv N x y = some q ∧ q.toInt = x.toInt / y.toInt := by
  have h1 := Int64.le_toInt x
  have h2 := Int64.toInt_lt x
  have hne : ¬ y = 0 := fun h => by rw [h] at hy; exact absurd hy (by decide)
  have e := Int.mul_tdiv_add_tmod x.toInt y.toInt
  have em := Int.mul_ediv_add_emod x.toInt y.toInt
  have ep := Int.emod_nonneg x.toInt (show y.toInt ≠ 0 by omega)
  have el := Int.emod_lt_of_pos x.toInt hy
  have t2 : x.toInt.tmod y.toInt < y.toInt := Int.tmod_lt_of_pos x.toInt hy
  have t1 : -y.toInt < x.toInt.tmod y.toInt := by
    have := Int.lt_tmod_of_pos x.toInt hy
    omega
  rw [M_Ma_floorDiv, dvJ, if_neg hne, bs]
  simp only [cmp_ge, cmp_eq]
  have hx : ((0 : Int64) ≤ x ^^^ y) ↔ 0 ≤ x.toInt := xor_sign (by omega)
  by_cases h0 : 0 ≤ x.toInt
  · rw [if_pos (hx.mpr h0)]
    exact ⟨_, rfl, by rw [div64 hy, Int.tdiv_eq_ediv_of_nonneg h0]⟩
  · rw [if_neg (fun h => h0 (hx.mp h))]
    have t3 : x.toInt.tmod y.toInt ≤ 0 := by
      have := Int.tmod_nonneg (a := -x.toInt) y.toInt (by omega)
      rw [Int.neg_tmod] at this
      omega
    have hq : x.toInt.tdiv y.toInt ≤ 0 := tdiv_np (by omega) (by omega)
    have hp : y.toInt * x.toInt.tdiv y.toInt ≤ 0 := Int.mul_nonpos_of_nonneg_of_nonpos (by omega) hq
    have e1 : (x / y * y).toInt = x.toInt - x.toInt.tmod y.toInt := by
      have hc : x.toInt.tdiv y.toInt * y.toInt = x.toInt - x.toInt.tmod y.toInt := by rw [Int.mul_comm]; omega
      rw [mul64] <;> rw [div64 hy, hc] <;> omega
    have lo : -9223372036854775808 < x.toInt.tdiv y.toInt ∨ x.toInt.tmod y.toInt = 0 := by
      by_cases hz : x.toInt.tmod y.toInt = 0
      · exact Or.inr hz
      · left
        have hy2 : 2 ≤ y.toInt := by omega
        have : 2 * (-(x.toInt.tdiv y.toInt)) ≤ y.toInt * (-(x.toInt.tdiv y.toInt)) := Int.mul_le_mul_of_nonneg_right hy2 (by omega)
        have h8 : y.toInt * (-(x.toInt.tdiv y.toInt)) = -(y.toInt * x.toInt.tdiv y.toInt) := Int.mul_neg _ _
        omega
    by_cases hz : x / y * y = x
    · rw [if_pos hz]
      refine ⟨_, rfl, ?_⟩
      have hz' : x.toInt.tmod y.toInt = 0 := by
        have := congrArg Int64.toInt hz
        rw [e1] at this
        omega
      rw [div64 hy]
      have h9 : y.toInt * x.toInt.tdiv y.toInt = y.toInt * (x.toInt / y.toInt) + x.toInt % y.toInt := by omega
      have hd : x.toInt % y.toInt = 0 := Int.emod_eq_zero_of_dvd (Int.dvd_of_tmod_eq_zero hz')
      rw [hd, Int.add_zero] at h9
      exact Int.eq_of_mul_eq_mul_left (by omega) h9
    · rw [if_neg hz]
      refine ⟨_, rfl, ?_⟩
      have hz' : x.toInt.tmod y.toInt ≠ 0 := fun h => hz (by rw [← Int64.toInt_inj, e1]; omega)
      have o1 : (1 : Int64).toInt = 1 := rfl
      rw [sub64] <;> rw [div64 hy, o1]
      · have h9 : y.toInt * (x.toInt.tdiv y.toInt - 1 - x.toInt / y.toInt) = x.toInt % y.toInt - x.toInt.tmod y.toInt - y.toInt := by
          rw [Int.mul_sub, Int.mul_sub, Int.mul_one]
          omega
        have hb1 : -y.toInt < x.toInt % y.toInt - x.toInt.tmod y.toInt - y.toInt := by omega
        have hb2 : x.toInt % y.toInt - x.toInt.tmod y.toInt - y.toInt < y.toInt := by omega
        rw [← h9] at hb1 hb2
        generalize hzz : x.toInt.tdiv y.toInt - 1 - x.toInt / y.toInt = z at hb1 hb2
        have hz0 : z = 0 := by
          rcases Int.lt_trichotomy z 0 with h | h | h
          · have : y.toInt * z ≤ y.toInt * (-1) := Int.mul_le_mul_of_nonneg_left (by omega) (by omega)
            omega
          · exact h
          · have : y.toInt * 1 ≤ y.toInt * z := Int.mul_le_mul_of_nonneg_left (by omega) (by omega)
            omega
        omega
      · rcases lo with h | h <;> omega
      · omega
