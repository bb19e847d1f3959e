/-! The reference's isLess, and both common divisors. -/
abbrev cmpP (t : Int32) (w x y z : Int) : Prop := (t = 0 ∧ w * z < y * x) ∨ (t = 1 ∧ y * x < w * z)
theorem tmod_emod {a b : Int} (hb : 0 < b) : (0 ≤ a.tmod b → a.tmod b = a % b) ∧ (¬ 0 ≤ a.tmod b → a.tmod b + b = a % b) := by
  have e := Int.mul_tdiv_add_tmod a b
  have em := Int.mul_ediv_add_emod a b
  have ep := Int.emod_nonneg a (show b ≠ 0 by omega)
  have el := Int.emod_lt_of_pos a hb
  have t2 : a.tmod b < b := Int.tmod_lt_of_pos a hb
  have t1 : -b < a.tmod b := by
    have := Int.lt_tmod_of_pos a hb
    omega
  have key : ∀ z : Int, -b < b * z → b * z < b → z = 0 := by
    intro z h1 h2
    rcases Int.lt_trichotomy z 0 with h | h | h
    · have : b * z ≤ b * (-1) := Int.mul_le_mul_of_nonneg_left (by omega) (by omega)
      omega
    · exact h
    · have : b * 1 ≤ b * z := Int.mul_le_mul_of_nonneg_left (by omega) (by omega)
      omega
  constructor
  · intro h
    have h9 : b * (a.tdiv b - a / b) = a % b - a.tmod b := by rw [Int.mul_sub]; omega
    have := key _ (by rw [h9]; omega) (by rw [h9]; omega)
    rw [this, Int.mul_zero] at h9
    omega
  · intro h
    have h9 : b * (a.tdiv b - 1 - a / b) = a % b - a.tmod b - b := by rw [Int.mul_sub, Int.mul_sub, Int.mul_one]; omega
    have := key _ (by rw [h9]; omega) (by rw [h9]; omega)
    rw [this, Int.mul_zero] at h9
    omega
theorem exact_div {a b : Int64} {q : Int} (hb : 0 < b.toInt) (h : a.toInt = b.toInt * q) : (a / b).toInt = q := by
  rw [div64 hb, h]
  exact Int.mul_tdiv_cancel_left _ (by omega)
theorem lessM_67 {N n : Nat} {w x y z l r : Int64} {t : Int32} (ht : t = 0 ∨ t = 1) (h1 : Frac w x) (h2 : Frac y z) (hl : l.toInt = w.toInt % x.toInt) (hr : r.toInt = y.toInt % z.toInt) :
    M_Mo_isLess_67 N (M_Mo_isLess_17 N n) w x y z t l r = some (b01 (cmpP t w.toInt x.toInt y.toInt z.toInt)) ∨
    (0 < l.toInt ∧ 0 < r.toInt ∧ (cmpP t w.toInt x.toInt y.toInt z.toInt ↔ cmpP (if t = 0 then 1 else 0) x.toInt l.toInt z.toInt r.toInt) ∧ M_Mo_isLess_67 N (M_Mo_isLess_17 N n) w x y z t l r = M_Mo_isLess_17 N n x l z r (if t = 0 then 1 else 0)) := by
  obtain ⟨a1, a2, b1, b2⟩ := h1
  obtain ⟨c1, c2, d1, d2⟩ := h2
  have z0 : (0 : Int64).toInt = 0 := rfl
  have ea := Int.mul_ediv_add_emod w.toInt x.toInt
  have ec := Int.mul_ediv_add_emod y.toInt z.toInt
  have ra0 := Int.emod_nonneg w.toInt (show x.toInt ≠ 0 by omega)
  have rc0 := Int.emod_nonneg y.toInt (show z.toInt ≠ 0 by omega)
  have ral := Int.emod_lt_of_pos w.toInt b1
  have rcl := Int.emod_lt_of_pos y.toInt d1
  have nx : ¬ x = 0 := fun h => by rw [h] at b1; exact absurd b1 (by decide)
  have nz : ¬ z = 0 := fun h => by rw [h] at d1; exact absurd d1 (by decide)
  have s1 : (w - l).toInt = x.toInt * (w.toInt / x.toInt) := by rw [sub64] <;> rw [hl] <;> omega
  have s2 : (y - r).toInt = z.toInt * (y.toInt / z.toInt) := by rw [sub64] <;> rw [hr] <;> omega
  have q1 := exact_div b1 s1
  have q2 := exact_div d1 s2
  rw [M_Mo_isLess_67, dvJ, if_neg nx, bs, dvJ, if_neg nz, bs]
  simp only [cmp_eq, cmp_ge]
  by_cases hq : (w - l) / x = (y - r) / z
  · rw [if_pos hq]
    have hq' : w.toInt / x.toInt = y.toInt / z.toInt := by rw [← q1, ← q2, hq]
    have ec' : y.toInt = z.toInt * (w.toInt / x.toInt) + y.toInt % z.toInt := by rw [hq']; exact ec.symm
    have k1 : (w.toInt * z.toInt < y.toInt * x.toInt) ↔ l.toInt * z.toInt < r.toInt * x.toInt := by rw [hl, hr]; exact cross ea.symm ec'
    have k2 : (y.toInt * x.toInt < w.toInt * z.toInt) ↔ r.toInt * x.toInt < l.toInt * z.toInt := by rw [hl, hr]; exact cross ec' ea.symm
    have fin : (l.toInt = 0 ∨ r.toInt = 0) → M_Mo_isLess_135 N t l r = some (b01 (cmpP t w.toInt x.toInt y.toInt z.toInt)) := by
      intro hz
      have e1 : (l = r) ↔ l.toInt = r.toInt := Int64.toInt_inj.symm
      have e2 : (l = 0) ↔ l.toInt = 0 := by rw [← Int64.toInt_inj, z0]
      have kk : cmpP t w.toInt x.toInt y.toInt z.toInt ↔ (t = 0 ∧ l.toInt = 0 ∧ r.toInt ≠ 0) ∨ (t = 1 ∧ l.toInt ≠ 0 ∧ r.toInt = 0) := by
        unfold cmpP
        rw [k1, k2]
        have l0 : 0 ≤ l.toInt := by omega
        have r0 : 0 ≤ r.toInt := by omega
        by_cases hl0 : l.toInt = 0
        · rw [hl0, Int.zero_mul]
          have hrx : 0 ≤ r.toInt * x.toInt := Int.mul_nonneg r0 (by omega)
          have hrp : r.toInt ≠ 0 → 0 < r.toInt * x.toInt := fun h => Int.mul_pos (by omega) b1
          have hrz : r.toInt = 0 → r.toInt * x.toInt = 0 := fun h => by rw [h, Int.zero_mul]
          by_cases hr0 : r.toInt = 0
          · have := hrz hr0
            simp [hr0]
          · have := hrp hr0
            have h9 : ¬ r.toInt * x.toInt < 0 := by omega
            simp [hr0, this, h9]
        · have hr0 : r.toInt = 0 := by omega
          rw [hr0, Int.zero_mul]
          have hlz : 0 < l.toInt * z.toInt := Int.mul_pos (by omega) d1
          have h9 : ¬ l.toInt * z.toInt < 0 := by omega
          simp [hl0, hlz, h9]
      rw [M_Mo_isLess_135]
      simp only [cmp_eq, okZ_0]
      rw [b01_congr kk]
      unfold b01
      by_cases hlr : l.toInt = r.toInt
      · rw [if_pos (e1.mpr hlr), if_neg]
        omega
      · rw [if_neg (fun h => hlr (e1.mp h))]
        by_cases hl0 : l.toInt = 0
        · rw [if_pos (e2.mpr hl0), M_Mo_isLess_155]
          rcases ht with rfl | rfl
          · rw [if_neg (by decide), okZ_1, if_pos (Or.inl ⟨rfl, hl0, by omega⟩)]
          · rw [if_pos rfl, okZ_0, if_neg]
            intro h
            rcases h with ⟨h, -⟩ | ⟨-, h, -⟩
            · exact absurd h (by decide)
            · exact h hl0
        · rw [if_neg (fun h => hl0 (e2.mp h)), M_Mo_isLess_155]
          rcases ht with rfl | rfl
          · rw [if_pos rfl, okZ_0, if_neg]
            intro h
            rcases h with ⟨-, h, -⟩ | ⟨h, -⟩
            · exact hl0 h
            · exact absurd h (by decide)
          · rw [if_neg (by decide), okZ_1, if_pos (Or.inr ⟨rfl, hl0, by omega⟩)]
    by_cases hl0 : l.toInt = 0
    · left
      rw [if_pos (by rw [← Int64.toInt_inj, hl0]; rfl)]
      exact fin (Or.inl hl0)
    · rw [if_neg (by rw [← Int64.toInt_inj]; exact hl0)]
      by_cases hr0 : r.toInt = 0
      · left
        rw [if_pos (by rw [← Int64.toInt_inj, hr0]; rfl)]
        exact fin (Or.inr hr0)
      · right
        refine ⟨by omega, by omega, ?_, ?_⟩
        · unfold cmpP
          rw [k1, k2]
          rcases ht with rfl | rfl
          · simp [Int.mul_comm]
          · simp [Int.mul_comm]
        · rw [if_neg (by rw [← Int64.toInt_inj]; exact hr0)]
          rcases ht with rfl | rfl
          · rw [if_pos rfl, if_pos rfl]
          · rw [if_neg (by decide), if_neg (by decide)]
  · left
    rw [if_neg hq]
    have hne : w.toInt / x.toInt ≠ y.toInt / z.toInt := fun h => hq (by rw [← Int64.toInt_inj, q1, q2, h])
    have k1 := cross_ne b1 d1 ea.symm ra0 ral ec.symm rc0 rcl hne
    have k2 := cross_ne d1 b1 ec.symm rc0 rcl ea.symm ra0 ral (fun h => hne h.symm)
    have kk : cmpP t w.toInt x.toInt y.toInt z.toInt ↔ (t = 0 ∧ w.toInt / x.toInt < y.toInt / z.toInt) ∨ (t = 1 ∧ y.toInt / z.toInt < w.toInt / x.toInt) := by
      unfold cmpP
      rw [k1, k2]
    rw [b01_congr kk]
    unfold b01
    by_cases hlt : w.toInt / x.toInt < y.toInt / z.toInt
    · rw [if_neg (by rw [Int64.le_iff_toInt_le, q1, q2]; omega), M_Mo_isLess_110]
      rcases ht with rfl | rfl
      · rw [if_neg (by decide), okZ_1, if_pos (Or.inl ⟨rfl, hlt⟩)]
      · rw [if_pos rfl, okZ_0, if_neg]
        intro h
        rcases h with ⟨h, -⟩ | ⟨-, h⟩
        · exact absurd h (by decide)
        · omega
    · rw [if_pos (by rw [Int64.le_iff_toInt_le, q1, q2]; omega), M_Mo_isLess_110]
      rcases ht with rfl | rfl
      · rw [if_pos rfl, okZ_0, if_neg]
        intro h
        rcases h with ⟨-, h⟩ | ⟨h, -⟩
        · omega
        · exact absurd h (by decide)
      · rw [if_neg (by decide), okZ_1, if_pos (Or.inr ⟨rfl, by omega⟩)]
