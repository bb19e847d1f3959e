/-! Both isLess: the order of fractions. -/
theorem half_mod {b r : Int} (hr : 0 < r) (hrb : r < b) : 2 * (b % r) < b := by
  have h1 := Int.emod_lt_of_pos b hr
  have h2 := Int.mul_ediv_add_emod b r
  have h3 : 1 ≤ b / r := by
    rcases Int.lt_or_le (b / r) 1 with h | h
    · have : r * (b / r) ≤ r * 0 := Int.mul_le_mul_of_nonneg_left (by omega) (by omega)
      omega
    · exact h
  have h4 : r * 1 ≤ r * (b / r) := Int.mul_le_mul_of_nonneg_left h3 (by omega)
  omega
/-- fractions with equal whole parts: by what is left -/
theorem cross {a b c d q ra rc : Int} (ha : a = b * q + ra) (hc : c = d * q + rc) : (a * d < c * b) ↔ ra * d < rc * b := by
  subst ha
  subst hc
  have e1 : (b * q + ra) * d = b * q * d + ra * d := Int.add_mul _ _ _
  have e2 : (d * q + rc) * b = d * q * b + rc * b := Int.add_mul _ _ _
  have e3 : b * q * d = d * q * b := by grind
  omega
theorem cross_ne {a b c d q p ra rc : Int} (hb : 0 < b) (hd : 0 < d) (ha : a = b * q + ra) (h1 : 0 ≤ ra) (h2 : ra < b) (hc : c = d * p + rc) (h3 : 0 ≤ rc) (h4 : rc < d) (hne : q ≠ p) : (a * d < c * b) ↔ q < p := by
  subst ha
  subst hc
  have e1 : (b * q + ra) * d = b * d * q + ra * d := by grind
  have e2 : (d * p + rc) * b = b * d * p + rc * b := by grind
  have hbd : 0 < b * d := Int.mul_pos hb hd
  have i1 : 0 ≤ ra * d := Int.mul_nonneg h1 (by omega)
  have i2 : 0 ≤ rc * b := Int.mul_nonneg h3 (by omega)
  have i3 : ra * d ≤ (b - 1) * d := Int.mul_le_mul_of_nonneg_right (by omega) (by omega)
  have i4 : rc * b ≤ (d - 1) * b := Int.mul_le_mul_of_nonneg_right (by omega) (by omega)
  have i5 : (b - 1) * d = b * d - d := by grind
  have i6 : (d - 1) * b = b * d - b := by grind
  rw [e1, e2]
  constructor
  · intro h
    rcases Int.lt_or_le q p with hq | hq
    · exact hq
    · have hq' : p + 1 ≤ q := by omega
      have : b * d * (p + 1) ≤ b * d * q := Int.mul_le_mul_of_nonneg_left hq' (by omega)
      rw [Int.mul_add, Int.mul_one] at this
      omega
  · intro h
    have : b * d * (q + 1) ≤ b * d * p := Int.mul_le_mul_of_nonneg_left (by omega) (by omega)
    rw [Int.mul_add, Int.mul_one] at this
    omega
/-- numbers that the order of fractions can be asked of -/
def Frac (a b : Int64) : Prop := -4611686018427387904 ≤ a.toInt ∧ a.toInt ≤ 4611686018427387904 ∧ 0 < b.toInt ∧ b.toInt ≤ 4611686018427387904
theorem less_step {N n x8 : Nat} {a b c d : Int64} (h1 : Frac a b) (h2 : Frac c d) (hx : x8 < 200) :
    M_CS_isLess_3 N (n + 1) a b c d (nI x8) = some (b01 (a.toInt * d.toInt < c.toInt * b.toInt)) ∨
    ∃ ra rc : Int64, ra.toInt = a.toInt % b.toInt ∧ rc.toInt = c.toInt % d.toInt ∧ 0 < ra.toInt ∧ 0 < rc.toInt ∧ ((a.toInt * d.toInt < c.toInt * b.toInt) ↔ (d.toInt * ra.toInt < b.toInt * rc.toInt)) ∧
      M_CS_isLess_3 N (n + 1) a b c d (nI x8) = M_CS_isLess_3 N n d rc b ra (nI (x8 + 1)) := by
  obtain ⟨a1, a2, b1, b2⟩ := h1
  obtain ⟨c1, c2, d1, d2⟩ := h2
  obtain ⟨q, eq, hq⟩ := s_floorDiv N (x := a) (y := b) b1
  obtain ⟨p, ep, hp⟩ := s_floorDiv N (x := c) (y := d) d1
  have z0 : (0 : Int64).toInt = 0 := rfl
  have n200 : ¬ (200 : Int32) ≤ nI x8 := nI_ge (a := x8) (b := 200) hx (by decide)
  have g1 : ¬ b ≤ 0 := by rw [Int64.le_iff_toInt_le, z0]; omega
  have g2 : (0 : Int64) < d := by rw [Int64.lt_iff_toInt_lt, z0]; omega
  have ea := Int.mul_ediv_add_emod a.toInt b.toInt
  have ec := Int.mul_ediv_add_emod c.toInt d.toInt
  have ra0 := Int.emod_nonneg a.toInt (show b.toInt ≠ 0 by omega)
  have rc0 := Int.emod_nonneg c.toInt (show d.toInt ≠ 0 by omega)
  have ral := Int.emod_lt_of_pos a.toInt b1
  have rcl := Int.emod_lt_of_pos c.toInt d1
  have m1 : (q * b).toInt = a.toInt - a.toInt % b.toInt := by
    have hc : q.toInt * b.toInt = a.toInt - a.toInt % b.toInt := by rw [hq, Int.mul_comm]; omega
    rw [mul64] <;> rw [hc] <;> omega
  have m2 : (p * d).toInt = c.toInt - c.toInt % d.toInt := by
    have hc : p.toInt * d.toInt = c.toInt - c.toInt % d.toInt := by rw [hp, Int.mul_comm]; omega
    rw [mul64] <;> rw [hc] <;> omega
  have l1 : (a - q * b).toInt = a.toInt % b.toInt := by rw [sub64] <;> rw [m1] <;> omega
  have l2 : (c - p * d).toInt = c.toInt % d.toInt := by rw [sub64] <;> rw [m2] <;> omega
  rw [M_CS_isLess_3, if_neg n200]
  simp only [cmp_le, cmp_gt, cmp_eq, cmp_ge, okZ_0, okZ_1]
  rw [if_neg g1, if_pos g2, eq, bs, ep, bs]
  by_cases hqp : q = p
  · rw [if_pos hqp]
    simp only [nm]
    have hqp' : c.toInt / d.toInt = a.toInt / b.toInt := by rw [← hq, ← hp, hqp]
    have key : (a.toInt * d.toInt < c.toInt * b.toInt) ↔ (a.toInt % b.toInt) * d.toInt < (c.toInt % d.toInt) * b.toInt := cross (q := a.toInt / b.toInt) ea.symm (by rw [hqp'] at ec; exact ec.symm)
    have fin : ∀ hz : (a.toInt % b.toInt = 0 ∨ c.toInt % d.toInt = 0), M_CS_isLess_96 N (c - p * d) = some (b01 (a.toInt * d.toInt < c.toInt * b.toInt)) := by
      intro hz
      rw [M_CS_isLess_96]
      simp only [cmp_eq, okZ_0, okZ_1]
      rw [b01_congr key]
      unfold b01
      by_cases hr : c.toInt % d.toInt = 0
      · rw [if_pos (by rw [← Int64.toInt_inj, l2, hr]; rfl), if_neg]
        rw [hr, Int.zero_mul]
        have := Int.mul_nonneg ra0 (show 0 ≤ d.toInt by omega)
        omega
      · have ha : a.toInt % b.toInt = 0 := by omega
        rw [if_neg (by rw [← Int64.toInt_inj, l2]; exact hr), if_pos]
        rw [ha, Int.zero_mul]
        exact Int.mul_pos (by omega) b1
    by_cases hra : a.toInt % b.toInt = 0
    · left
      rw [if_pos (by rw [← Int64.toInt_inj, l1, hra]; rfl)]
      exact fin (Or.inl hra)
    · rw [if_neg (by rw [← Int64.toInt_inj, l1]; exact hra)]
      by_cases hrc : c.toInt % d.toInt = 0
      · left
        rw [if_pos (by rw [← Int64.toInt_inj, l2, hrc]; rfl)]
        exact fin (Or.inr hrc)
      · right
        refine ⟨a - q * b, c - p * d, l1, l2, by omega, by omega, ?_, ?_⟩
        · rw [key, l1, l2, Int.mul_comm d.toInt, Int.mul_comm b.toInt]
        · rw [if_neg (by rw [← Int64.toInt_inj, l2]; exact hrc), nI_1]
  · left
    rw [if_neg hqp]
    have hne : a.toInt / b.toInt ≠ c.toInt / d.toInt := fun h => hqp (by rw [← Int64.toInt_inj, hq, hp, h])
    have key := cross_ne b1 d1 ea.symm ra0 ral ec.symm rc0 rcl hne
    rw [b01_congr key]
    unfold b01
    by_cases hl : a.toInt / b.toInt < c.toInt / d.toInt
    · rw [if_neg, if_pos hl]
      rw [Int64.le_iff_toInt_le, hq, hp]
      omega
    · rw [if_pos, if_neg hl]
      rw [Int64.le_iff_toInt_le, hq, hp]
      omega
theorem s_less_k {N : Nat} : ∀ (k n x8 : Nat) (a b c d : Int64), Frac a b → Frac c d → b.toInt < 2 ^ k → x8 + 2 * k + 2 ≤ 200 → M_CS_isLess_3 N (n + 2 * k + 2) a b c d (nI x8) = some (b01 (a.toInt * d.toInt < c.toInt * b.toInt)) := by
  intro k
  induction k with
  | zero =>
    intro n x8 a b c d h1 h2 hb hx
    have := h1.2.2.1
    simp at hb
    omega
  | succ k ih =>
    intro n x8 a b c d h1 h2 hb hx
    rcases less_step (N := N) (n := n + 2 * k + 3) h1 h2 (show x8 < 200 by omega) with h | ⟨ra, rc, e1, e2, p1, p2, ek, h⟩
    · exact h
    · have bl := Int.emod_lt_of_pos a.toInt h1.2.2.1
      have dl := Int.emod_lt_of_pos c.toInt h2.2.2.1
      have hb2 := h1.2.2.2
      have hd2 := h2.2.2.2
      have hb0 := h1.2.2.1
      have hd0 := h2.2.2.1
      have F1 : Frac d rc := ⟨by omega, by omega, p2, by omega⟩
      have F2 : Frac b ra := ⟨by omega, by omega, p1, by omega⟩
      show M_CS_isLess_3 N (n + 2 * k + 3 + 1) a b c d (nI x8) = _
      rw [h, b01_congr ek]
      rcases less_step (N := N) (n := n + 2 * k + 2) F1 F2 (show x8 + 1 < 200 by omega) with h' | ⟨ra', rc', e1', e2', p1', p2', ek', h'⟩
      · exact h'
      · have hh := half_mod p1 (show ra.toInt < b.toInt by omega)
        have bl' := Int.emod_lt_of_pos d.toInt p2
        have dl' := Int.emod_lt_of_pos b.toInt p1
        have F3 : Frac ra rc' := ⟨by omega, by omega, p2', by omega⟩
        have F4 : Frac rc ra' := ⟨by omega, by omega, p1', by omega⟩
        show M_CS_isLess_3 N (n + 2 * k + 2 + 1) d rc b ra (nI (x8 + 1)) = _
        rw [h', b01_congr ek']
        refine ih n (x8 + 2) ra rc' rc ra' F3 F4 ?_ (by omega)
        rw [e2']
        rw [Int.pow_succ] at hb
        omega
theorem s_isLess {N : Nat} (hN : 200 ≤ N) {a b c d : Int64} (h1 : Frac a b) (h2 : Frac c d) : M_CS_isLess N a b c d = some (b01 (a.toInt * d.toInt < c.toInt * b.toInt)) := by
  have h := s_less_k (N := N) 63 (N - 128) 0 a b c d h1 h2 (by have := h1.2.2.2; have e : (2 : Int) ^ 63 = 9223372036854775808 := (by decide); omega) (by decide)
  rw [show N - 128 + 2 * 63 + 2 = N by omega] at h
  exact h
