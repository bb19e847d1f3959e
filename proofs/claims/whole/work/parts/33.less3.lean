/-! The reference's isLess to its end; common divisors. -/
theorem rmJ_some {x y : Int64} (hy : 0 < y.toInt) : ∃ v : Int64, rmJ x y = some v ∧ v.toInt = x.toInt.tmod y.toInt := by
  have ny : ¬ y = 0 := fun h => by rw [h] at hy; exact absurd hy (by decide)
  exact ⟨_, by rw [rmJ, if_neg ny], rem64 hy⟩
theorem lessM_step {N n : Nat} {w x y z : Int64} {t : Int32} (ht : t = 0 ∨ t = 1) (h1 : Frac w x) (h2 : Frac y z) :
    M_Mo_isLess_17 N (n + 1) w x y z t = some (b01 (cmpP t w.toInt x.toInt y.toInt z.toInt)) ∨
    ∃ l r : Int64, l.toInt = w.toInt % x.toInt ∧ r.toInt = y.toInt % z.toInt ∧ 0 < l.toInt ∧ 0 < r.toInt ∧ (cmpP t w.toInt x.toInt y.toInt z.toInt ↔ cmpP (if t = 0 then 1 else 0) x.toInt l.toInt z.toInt r.toInt) ∧ M_Mo_isLess_17 N (n + 1) w x y z t = M_Mo_isLess_17 N n x l z r (if t = 0 then 1 else 0) := by
  have b1 := h1.2.2.1
  have d1 := h2.2.2.1
  have b2 := h1.2.2.2
  have d2 := h2.2.2.2
  have z0 : (0 : Int64).toInt = 0 := rfl
  obtain ⟨v, ev, hv⟩ := rmJ_some (x := w) b1
  obtain ⟨u, eu, hu⟩ := rmJ_some (x := y) d1
  have tw := tmod_emod (a := w.toInt) b1
  have ty := tmod_emod (a := y.toInt) d1
  have w1 : -x.toInt < w.toInt.tmod x.toInt := by
    have := Int.lt_tmod_of_pos w.toInt b1
    omega
  have w2 : w.toInt.tmod x.toInt < x.toInt := Int.tmod_lt_of_pos w.toInt b1
  have y1 : -z.toInt < y.toInt.tmod z.toInt := by
    have := Int.lt_tmod_of_pos y.toInt d1
    omega
  have y2 : y.toInt.tmod z.toInt < z.toInt := Int.tmod_lt_of_pos y.toInt d1
  -- the left remainder, then the right one
  have hL : ∃ l : Int64, l.toInt = w.toInt % x.toInt ∧ M_Mo_isLess_17 N (n + 1) w x y z t = M_Mo_isLess_41 N (M_Mo_isLess_17 N n) w x y z t l := by
    rw [M_Mo_isLess_17, ev, bs]
    simp only [cmp_ge]
    by_cases h : (0 : Int64) ≤ v
    · rw [if_pos h]
      rw [Int64.le_iff_toInt_le, z0, hv] at h
      exact ⟨v, by rw [hv]; exact tw.1 h, rfl⟩
    · rw [if_neg h]
      rw [Int64.le_iff_toInt_le, z0, hv] at h
      refine ⟨v + x, ?_, rfl⟩
      rw [add64] <;> rw [hv]
      · exact tw.2 h
      · omega
      · omega
  obtain ⟨l, hl, eL⟩ := hL
  have hR : ∃ r : Int64, r.toInt = y.toInt % z.toInt ∧ M_Mo_isLess_41 N (M_Mo_isLess_17 N n) w x y z t l = M_Mo_isLess_67 N (M_Mo_isLess_17 N n) w x y z t l r := by
    rw [M_Mo_isLess_41, eu, bs]
    simp only [cmp_ge]
    by_cases h : (0 : Int64) ≤ u
    · rw [if_pos h]
      rw [Int64.le_iff_toInt_le, z0, hu] at h
      exact ⟨u, by rw [hu]; exact ty.1 h, rfl⟩
    · rw [if_neg h]
      rw [Int64.le_iff_toInt_le, z0, hu] at h
      refine ⟨u + z, ?_, rfl⟩
      rw [add64] <;> rw [hu]
      · exact ty.2 h
      · omega
      · omega
  obtain ⟨r, hr, eR⟩ := hR
  rw [eL, eR]
  rcases lessM_67 (N := N) (n := n) ht h1 h2 hl hr with h | ⟨h3, h4, h5, h6⟩
  · exact Or.inl h
  · exact Or.inr ⟨l, r, hl, hr, h3, h4, h5, h6⟩
theorem s_lessM_k {N : Nat} : ∀ (k n : Nat) (w x y z : Int64) (t : Int32), (t = 0 ∨ t = 1) → Frac w x → Frac y z → x.toInt < 2 ^ k → M_Mo_isLess_17 N (n + 2 * k + 2) w x y z t = some (b01 (cmpP t w.toInt x.toInt y.toInt z.toInt)) := by
  intro k
  induction k with
  | zero =>
    intro n w x y z t ht h1 h2 hb
    have := h1.2.2.1
    simp at hb
    omega
  | succ k ih =>
    intro n w x y z t ht h1 h2 hb
    have t1 : ((if t = 0 then (1 : Int32) else 0) = 0 ∨ (if t = 0 then (1 : Int32) else 0) = 1) := by rcases ht with rfl | rfl <;> simp
    rcases lessM_step (N := N) (n := n + 2 * k + 3) ht h1 h2 with h | ⟨l, r, e1, e2, p1, p2, ek, h⟩
    · exact h
    · have bl := Int.emod_lt_of_pos w.toInt h1.2.2.1
      have dl := Int.emod_lt_of_pos y.toInt h2.2.2.1
      have hb2 := h1.2.2.2
      have hd2 := h2.2.2.2
      have hb0 := h1.2.2.1
      have hd0 := h2.2.2.1
      have F1 : Frac x l := ⟨by omega, by omega, p1, by omega⟩
      have F2 : Frac z r := ⟨by omega, by omega, p2, by omega⟩
      show M_Mo_isLess_17 N (n + 2 * k + 3 + 1) w x y z t = _
      rw [h, b01_congr ek]
      generalize (if t = 0 then (1 : Int32) else 0) = t' at t1 ⊢
      have t2 : ((if t' = 0 then (1 : Int32) else 0) = 0 ∨ (if t' = 0 then (1 : Int32) else 0) = 1) := by rcases t1 with rfl | rfl <;> simp
      rcases lessM_step (N := N) (n := n + 2 * k + 2) t1 F1 F2 with h' | ⟨l', r', e1', e2', p1', p2', ek', h'⟩
      · exact h'
      · have hh := half_mod p1 (show l.toInt < x.toInt by omega)
        have bl' := Int.emod_lt_of_pos x.toInt p1
        have dl' := Int.emod_lt_of_pos z.toInt p2
        have F3 : Frac l l' := ⟨by omega, by omega, p1', by omega⟩
        have F4 : Frac r r' := ⟨by omega, by omega, p2', by omega⟩
        show M_Mo_isLess_17 N (n + 2 * k + 2 + 1) x l z r t' = _
        rw [h', b01_congr ek']
        refine ih n l l' r r' _ t2 F3 F4 ?_
        rw [e1']
        rw [Int.pow_succ] at hb
        omega
theorem s_isLessM {N : Nat} (hN : 200 ≤ N) {a b c d : Int64} (h1 : Frac a b) (h2 : Frac c d) : M_Mo_isLess N a b c d = some (b01 (a.toInt * d.toInt < c.toInt * b.toInt)) := by
  have h := s_lessM_k (N := N) 63 (N - 128) a b c d 0 (Or.inl rfl) h1 h2 (by have := h1.2.2.2; have e : (2 : Int) ^ 63 = 9223372036854775808 := (by decide); omega)
  rw [show N - 128 + 2 * 63 + 2 = N by omega] at h
  rw [M_Mo_isLess, h]
  refine congrArg some (b01_congr ?_)
  unfold cmpP
  have h10 : ¬ (0 : Int32) = 1 := by decide
  simp [h10]
/-- Euclid, over whole numbers that are not below 0 -/
theorem mod_nat {a b : Int} (ha : 0 ≤ a) (hb : 0 < b) : a.tmod b = ((a.toNat % b.toNat : Nat) : Int) := by
  rw [(tmod_emod hb).1 (Int.tmod_nonneg _ ha)]
  rw [Int.natCast_emod]
  rw [Int.toNat_of_nonneg ha, Int.toNat_of_nonneg (by omega)]
theorem commonM_k {N : Nat} : ∀ (k n : Nat) (x y : Int64), 0 ≤ x.toInt → 0 ≤ y.toInt → x.toInt < 2 ^ k → ∃ g : Int64, M_Mo_common_28 N (n + 2 * k + 1) x y = some g ∧ g.toInt = (Nat.gcd x.toInt.toNat y.toInt.toNat : Nat) := by
  intro k
  have z0 : (0 : Int64).toInt = 0 := rfl
  have base : ∀ (n : Nat) (x y : Int64), 0 ≤ y.toInt → x.toInt = 0 → ∃ g : Int64, M_Mo_common_28 N (n + 1) x y = some g ∧ g.toInt = (Nat.gcd x.toInt.toNat y.toInt.toNat : Nat) := by
    intro n x y hy hx
    refine ⟨y, ?_, ?_⟩
    · rw [M_Mo_common_28]
      simp only [cmp_eq]
      rw [if_pos (by rw [← Int64.toInt_inj, hx]; rfl)]
    · rw [hx]
      show y.toInt = ((Nat.gcd 0 y.toInt.toNat : Nat) : Int)
      rw [Nat.gcd_zero_left]
      omega
  have step : ∀ (n : Nat) (x y : Int64), 0 < x.toInt → 0 ≤ y.toInt → ∃ v : Int64, v.toInt = ((y.toInt.toNat % x.toInt.toNat : Nat) : Int) ∧ M_Mo_common_28 N (n + 1) x y = M_Mo_common_28 N n v x := by
    intro n x y hx hy
    obtain ⟨v, ev, hv⟩ := rmJ_some (x := y) hx
    refine ⟨v, by rw [hv]; exact mod_nat hy hx, ?_⟩
    rw [M_Mo_common_28]
    simp only [cmp_eq]
    rw [if_neg (by rw [← Int64.toInt_inj, z0]; omega), ev, bs]
  induction k with
  | zero =>
    intro n x y hx hy hb
    simp at hb
    exact base n x y hy (by omega)
  | succ k ih =>
    intro n x y hx hy hb
    by_cases h0 : x.toInt = 0
    · exact base _ x y hy h0
    · obtain ⟨v, hv, e1⟩ := step (n + 2 * k + 2) x y (by omega) hy
      have hvl : y.toInt.toNat % x.toInt.toNat < x.toInt.toNat := Nat.mod_lt _ (by omega)
      have g1 : Nat.gcd x.toInt.toNat y.toInt.toNat = Nat.gcd v.toInt.toNat x.toInt.toNat := by
        rw [hv, Int.toNat_natCast, Nat.gcd_rec]
      show ∃ g, M_Mo_common_28 N (n + 2 * k + 2 + 1) x y = some g ∧ _
      rw [e1, g1]
      by_cases hv0 : v.toInt = 0
      · exact base (n + 2 * k + 1) v x (by omega) hv0
      · obtain ⟨u, hu, e2⟩ := step (n + 2 * k + 1) v x (by omega) (by omega)
        have g2 : Nat.gcd v.toInt.toNat x.toInt.toNat = Nat.gcd u.toInt.toNat v.toInt.toNat := by
          rw [hu, Int.toNat_natCast, Nat.gcd_rec]
        rw [show n + 2 * k + 2 = n + 2 * k + 1 + 1 by omega, e2, g2]
        have hul : x.toInt.toNat % v.toInt.toNat < v.toInt.toNat := Nat.mod_lt _ (by omega)
        have hh := half_mod (b := x.toInt) (r := v.toInt) (by omega) (by omega)
        have hm : u.toInt = x.toInt % v.toInt := by
          rw [hu, Int.natCast_emod, Int.toNat_of_nonneg hx, Int.toNat_of_nonneg (by omega)]
        refine ih n u v (by omega) (by omega) ?_
        rw [hm]
        rw [Int.pow_succ] at hb
        omega
theorem s_common {N : Nat} (hN : 200 ≤ N) {a b : Int64} (ha : -9223372036854775808 < a.toInt) (hb : -9223372036854775808 < b.toInt) : ∃ g : Int64, M_Mo_common N a b = some g ∧ g.toInt = (Nat.gcd a.toInt.natAbs b.toInt.natAbs : Nat) := by
  have z0 : (0 : Int64).toInt = 0 := rfl
  have e63 : (2 : Int) ^ 63 = 9223372036854775808 := by decide
  have ub := Int64.toInt_lt
  have main : ∀ x y : Int64, 0 ≤ x.toInt → 0 ≤ y.toInt → ∃ g : Int64, M_Mo_common_28 N N x y = some g ∧ g.toInt = (Nat.gcd x.toInt.toNat y.toInt.toNat : Nat) := by
    intro x y hx hy
    have h := commonM_k (N := N) 63 (N - 127) x y hx hy (by rw [e63]; have := ub x; omega)
    rw [show N - 127 + 2 * 63 + 1 = N by omega] at h
    exact h
  have snd : ∀ x : Int64, 0 ≤ x.toInt → ∃ g : Int64, M_Mo_common_12 N b x = some g ∧ g.toInt = (Nat.gcd x.toInt.toNat b.toInt.natAbs : Nat) := by
    intro x hx
    rw [M_Mo_common_12]
    simp only [cmp_ge, nm]
    by_cases h : (0 : Int64) ≤ b
    · rw [if_pos h]
      rw [Int64.le_iff_toInt_le, z0] at h
      obtain ⟨g, e, hg⟩ := main x b hx h
      exact ⟨g, e, by rw [hg, show b.toInt.natAbs = b.toInt.toNat by omega]⟩
    · rw [if_neg h]
      rw [Int64.le_iff_toInt_le, z0] at h
      have hn := neg64 hb
      obtain ⟨g, e, hg⟩ := main x (-b) hx (by omega)
      exact ⟨g, e, by rw [hg, hn, show b.toInt.natAbs = (-b.toInt).toNat by omega]⟩
  rw [M_Mo_common]
  simp only [cmp_ge]
  by_cases h : (0 : Int64) ≤ a
  · rw [if_pos h]
    rw [Int64.le_iff_toInt_le, z0] at h
    obtain ⟨g, e, hg⟩ := snd a h
    exact ⟨g, e, by rw [hg, show a.toInt.natAbs = a.toInt.toNat by omega]⟩
  · rw [if_neg h]
    rw [Int64.le_iff_toInt_le, z0] at h
    have hn := neg64 ha
    obtain ⟨g, e, hg⟩ := snd (-a) (by omega)
    exact ⟨g, e, by rw [hg, hn, show a.toInt.natAbs = (-a.toInt).toNat by omega]⟩
theorem commonC_k {N : Nat} {μ : Mem} : ∀ (k n c : Nat) (x y : Int64), 0 ≤ x.toInt → 0 < y.toInt → x.toInt < 2 ^ k → c + 2 * k + 1 ≤ 200 → ∃ g : Int64, M_CS_commonDivisor_16 N (n + 2 * k + 1) x y (nI c) μ = some (g, μ) ∧ g.toInt = (Nat.gcd x.toInt.toNat y.toInt.toNat : Nat) := by
  intro k
  have z0 : (0 : Int64).toInt = 0 := rfl
  have base : ∀ (n c : Nat) (x y : Int64), c < 200 → 0 < y.toInt → x.toInt = 0 → ∃ g : Int64, M_CS_commonDivisor_16 N (n + 1) x y (nI c) μ = some (g, μ) ∧ g.toInt = (Nat.gcd x.toInt.toNat y.toInt.toNat : Nat) := by
    intro n c x y hc hy hx
    have n200 : ¬ (200 : Int32) ≤ nI c := nI_ge (a := c) (b := 200) hc (by decide)
    refine ⟨y, ?_, ?_⟩
    · rw [M_CS_commonDivisor_16, if_neg n200]
      simp only [cmp_eq]
      rw [if_pos (by rw [← Int64.toInt_inj, hx]; rfl), M_CS_commonDivisor_46]
      simp only [cmp_le]
      rw [if_neg (by rw [Int64.le_iff_toInt_le, z0]; omega)]
    · rw [hx]
      show y.toInt = ((Nat.gcd 0 y.toInt.toNat : Nat) : Int)
      rw [Nat.gcd_zero_left]
      omega
  have step : ∀ (n c : Nat) (x y : Int64), c < 200 → 0 < x.toInt → 0 ≤ y.toInt → ∃ v : Int64, v.toInt = ((y.toInt.toNat % x.toInt.toNat : Nat) : Int) ∧ M_CS_commonDivisor_16 N (n + 1) x y (nI c) μ = M_CS_commonDivisor_16 N n v x (nI (c + 1)) μ := by
    intro n c x y hc hx hy
    have n200 : ¬ (200 : Int32) ≤ nI c := nI_ge (a := c) (b := 200) hc (by decide)
    obtain ⟨v, ev, hv⟩ := rmJ_some (x := y) hx
    refine ⟨v, by rw [hv]; exact mod_nat hy hx, ?_⟩
    rw [M_CS_commonDivisor_16, if_neg n200]
    simp only [cmp_eq]
    rw [if_neg (by rw [← Int64.toInt_inj, z0]; omega), ev, bs, nI_1]
  induction k with
  | zero =>
    intro n c x y hx hy hb hc
    simp at hb
    exact base n c x y (by omega) hy (by omega)
  | succ k ih =>
    intro n c x y hx hy hb hc
    by_cases h0 : x.toInt = 0
    · exact base _ c x y (by omega) hy h0
    · obtain ⟨v, hv, e1⟩ := step (n + 2 * k + 2) c x y (by omega) (by omega) (by omega)
      have hvl : y.toInt.toNat % x.toInt.toNat < x.toInt.toNat := Nat.mod_lt _ (by omega)
      have g1 : Nat.gcd x.toInt.toNat y.toInt.toNat = Nat.gcd v.toInt.toNat x.toInt.toNat := by
        rw [hv, Int.toNat_natCast, Nat.gcd_rec]
      show ∃ g, M_CS_commonDivisor_16 N (n + 2 * k + 2 + 1) x y (nI c) μ = some (g, μ) ∧ _
      rw [e1, g1]
      by_cases hv0 : v.toInt = 0
      · exact base (n + 2 * k + 1) (c + 1) v x (by omega) (by omega) hv0
      · obtain ⟨u, hu, e2⟩ := step (n + 2 * k + 1) (c + 1) v x (by omega) (by omega) (by omega)
        have g2 : Nat.gcd v.toInt.toNat x.toInt.toNat = Nat.gcd u.toInt.toNat v.toInt.toNat := by
          rw [hu, Int.toNat_natCast, Nat.gcd_rec]
        rw [show n + 2 * k + 2 = n + 2 * k + 1 + 1 by omega, e2, g2]
        have hul : x.toInt.toNat % v.toInt.toNat < v.toInt.toNat := Nat.mod_lt _ (by omega)
        have hh := half_mod (b := x.toInt) (r := v.toInt) (by omega) (by omega)
        have hm : u.toInt = x.toInt % v.toInt := by
          rw [hu, Int.natCast_emod, Int.toNat_of_nonneg hx, Int.toNat_of_nonneg (by omega)]
        refine ih n (c + 2) u v (by omega) (by omega) ?_ (by omega)
        rw [hm]
        rw [Int.pow_succ] at hb
        omega
theorem s_commonDivisor {N : Nat} (hN : 200 ≤ N) {μ : Mem} (ha : -9223372036854775808 < (μ.2 4 11).toInt) (hb : 0 < (μ.2 4 12).toInt) : ∃ g : Int64, M_CS_commonDivisor N μ = some (g, μ) ∧ g.toInt = (Nat.gcd (μ.2 4 11).toInt.natAbs (μ.2 4 12).toInt.natAbs : Nat) := by
  have z0 : (0 : Int64).toInt = 0 := rfl
  have e63 : (2 : Int) ^ 63 = 9223372036854775808 := by decide
  have ub := Int64.toInt_lt
  have habs : ∃ v : Int64, M_Ma_abs N (μ.2 4 11) = some v ∧ v.toInt = ((μ.2 4 11).toInt.natAbs : Int) := by
    rw [M_Ma_abs]
    simp only [cmp_ge]
    by_cases h : (0 : Int64) ≤ μ.2 4 11
    · rw [if_pos h]
      rw [Int64.le_iff_toInt_le, z0] at h
      exact ⟨_, rfl, by omega⟩
    · rw [if_neg h]
      rw [Int64.le_iff_toInt_le, z0] at h
      exact ⟨_, rfl, by rw [neg64 ha]; omega⟩
  obtain ⟨v, ev, hv⟩ := habs
  rw [M_CS_commonDivisor, ev, bs]
  simp only [nm]
  obtain ⟨g, eg, hg⟩ := commonC_k (N := N) (μ := μ) 63 (N - 127) 0 v (μ.2 4 12) (by omega) hb (by rw [e63]; have := ub v; omega) (by decide)
  rw [show N - 127 + 2 * 63 + 1 = N by omega] at eg
  refine ⟨g, eg, ?_⟩
  rw [hg, hv, Int.toNat_natCast, show (μ.2 4 12).toInt.natAbs = (μ.2 4 12).toInt.toNat by omega]
