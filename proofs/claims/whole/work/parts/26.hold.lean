/-! What a point holds: the class's hold and keeps. -/
def dot5 (f g : Nat → Int64) : Int64 := ((((0 + f 0 * g 0) + f 1 * g 1) + f 2 * g 2) + f 3 * g 3) + f 4 * g 4
theorem hold22_step {N n k1 k2 k4 j : Nat} {K : Nat → Nat → Int32 → Mem → Option Mem} {x3 : Int32} {acc : Int64} {μ : Mem} (h1 : 40 ≤ k1) (h1' : k1 < 85) (l1 : 5 ≤ lnJ k1) (s1 : lnJ k1 < 2 ^ 31) (h4 : 40 ≤ k4) (h4' : k4 < 85) (l4 : 5 ≤ lnJ k4) (s4 : lnJ k4 < 2 ^ 31) (hj : j < 5) :
    M_Lo_hold_22 N K (n + 1) k1 k2 x3 k4 acc (nI j) μ = M_Lo_hold_22 N K n k1 k2 x3 k4 (acc + μ.2 k4 j * μ.2 k1 j) (nI (j + 1)) μ := by
  have h5 : ¬ (5 : Int32) ≤ nI j := nI_ge (a := j) (b := 5) hj (by decide)
  rw [M_Lo_hold_22, if_neg h5, ldJ_n h4 h4' (by omega) s4, bs, ldJ_n h1 h1' (by omega) s1, bs]
  show M_Lo_hold_22 N K n k1 k2 x3 k4 (acc + μ.2 k4 j * μ.2 k1 j) (nI j + 1) μ = _
  rw [nI_1]
theorem hold22_all {N n k1 k2 k4 : Nat} {K : Nat → Nat → Int32 → Mem → Option Mem} {x3 : Int32} {μ : Mem} (h1 : 40 ≤ k1) (h1' : k1 < 85) (l1 : 5 ≤ lnJ k1) (s1 : lnJ k1 < 2 ^ 31) (h4 : 40 ≤ k4) (h4' : k4 < 85) (l4 : 5 ≤ lnJ k4) (s4 : lnJ k4 < 2 ^ 31) :
    M_Lo_hold_22 N K (n + 6) k1 k2 x3 k4 0 0 μ = (stJ μ k2 x3 (dot5 (μ.2 k4) (μ.2 k1))).bind fun μ53 => K k1 k2 (x3 + 1) μ53 := by
  show M_Lo_hold_22 N K (n + 5 + 1) k1 k2 x3 k4 0 (nI 0) μ = _
  rw [hold22_step h1 h1' l1 s1 h4 h4' l4 s4 (by decide)]
  show M_Lo_hold_22 N K (n + 4 + 1) k1 k2 x3 k4 _ (nI 1) μ = _
  rw [hold22_step h1 h1' l1 s1 h4 h4' l4 s4 (by decide)]
  show M_Lo_hold_22 N K (n + 3 + 1) k1 k2 x3 k4 _ (nI 2) μ = _
  rw [hold22_step h1 h1' l1 s1 h4 h4' l4 s4 (by decide)]
  show M_Lo_hold_22 N K (n + 2 + 1) k1 k2 x3 k4 _ (nI 3) μ = _
  rw [hold22_step h1 h1' l1 s1 h4 h4' l4 s4 (by decide)]
  show M_Lo_hold_22 N K (n + 1 + 1) k1 k2 x3 k4 _ (nI 4) μ = _
  rw [hold22_step h1 h1' l1 s1 h4 h4' l4 s4 (by decide)]
  rw [M_Lo_hold_22, if_pos (by decide)]
  rfl
def holdJ (m2 : Nat → Nat → Int64) (k1 k2 m : Nat) : Nat → Nat → Int64 := fun a b => if a = k2 ∧ b < m then dot5 (m2 (47 + b)) (m2 k1) else m2 a b
theorem lnJ_form {m : Nat} (h : m < 7) : lnJ (47 + m) = 5 := by
  unfold lnJ
  rw [if_neg (by omega), if_neg (by omega), if_neg (by omega), if_neg (by omega), if_neg (by omega), if_neg (by omega), if_neg (by omega), if_pos (by omega)]
theorem holdJ_row {m2 : Nat → Nat → Int64} {k1 k2 m k : Nat} (h : k ≠ k2) : holdJ m2 k1 k2 m k = m2 k := by
  funext b
  simp [holdJ, h]
theorem hold2_step {N n k1 k2 m : Nat} {a1 : Nat → Nat → Int32} {m2 : Nat → Nat → Int64} (hN : 6 ≤ N) (hk1 : k1 = 40 ∨ k1 = 43) (hk2 : k2 = 41 ∨ k2 = 44) (hm : m < 7) :
    M_Lo_hold_2 N (n + 1) k1 k2 (nI m) (a1, holdJ m2 k1 k2 m) = M_Lo_hold_2 N n k1 k2 (nI (m + 1)) (a1, holdJ m2 k1 k2 (m + 1)) := by
  have h7 : ¬ (7 : Int32) ≤ nI m := nI_ge (a := m) (b := 7) hm (by decide)
  obtain ⟨N', rfl⟩ : ∃ N', N = N' + 6 := ⟨N - 6, by omega⟩
  have l1 : lnJ k1 = 5 := by rcases hk1 with rfl | rfl <;> rfl
  have l2 : lnJ k2 = 7 := by rcases hk2 with rfl | rfl <;> rfl
  have e4 := lnJ_form hm
  rw [M_Lo_hold_2, if_neg h7, ldA_n (by decide) (by decide) (by show m < 7; omega) (by decide), bs]
  show M_Lo_hold_22 (N' + 6) _ (N' + 6) k1 k2 (nI m) (47 + m) 0 0 _ = _
  rw [hold22_all (by omega) (by omega) (by omega) (by rw [l1]; decide) (by omega) (by omega) (by omega) (by rw [e4]; decide)]
  dsimp only
  rw [holdJ_row (show 47 + m ≠ k2 by omega), holdJ_row (show k1 ≠ k2 by omega), stJ_n (by omega) (by omega) (by omega) (by rw [l2]; decide), bs, nI_1]
  congr 2
  funext a b
  simp only [upJ, holdJ]
  by_cases ha : a = k2
  · subst ha
    by_cases hb : b = m
    · subst hb
      simp
    · have : (b < m + 1) ↔ b < m := by omega
      simp [hb, this]
  · simp [ha]
theorem s_hold {N k1 k2 : Nat} {μ : Mem} (hN : 8 ≤ N) (hk1 : k1 = 40 ∨ k1 = 43) (hk2 : k2 = 41 ∨ k2 = 44) : M_Lo_hold N k1 k2 μ = some (μ.1, holdJ μ.2 k1 k2 7) := by
  have key : ∀ d n, M_Lo_hold_2 N (n + d + 1) k1 k2 (nI (7 - d)) (μ.1, holdJ μ.2 k1 k2 (7 - d)) = some (μ.1, holdJ μ.2 k1 k2 7) ∨ 7 < d := by
    intro d
    induction d with
    | zero =>
      intro n
      left
      show M_Lo_hold_2 N (n + 1) k1 k2 (nI 7) _ = _
      rw [M_Lo_hold_2, if_pos (by decide)]
    | succ d ih =>
      intro n
      by_cases hd : 7 < d + 1
      · exact Or.inr hd
      · left
        have e : 7 - d = (7 - (d + 1)) + 1 := by omega
        rcases ih n with h | h
        · rw [e] at h
          rw [show n + (d + 1) + 1 = (n + d + 1) + 1 by omega, hold2_step (by omega) hk1 hk2 (by omega)]
          exact h
        · omega
  rw [M_Lo_hold]
  have e0 : (μ.1, holdJ μ.2 k1 k2 0) = μ := by
    have : holdJ μ.2 k1 k2 0 = μ.2 := by
      funext a b
      simp [holdJ]
    rw [this]
  rcases key 7 (N - 8) with h | h
  · rw [show N - 8 + 7 + 1 = N by omega, show 7 - 7 = 0 by rfl, e0] at h
    exact h
  · omega
theorem s_keeps {N r k2 f g : Nat} {μ : Mem} (hr : r < 8) (hk2 : k2 = 41 ∨ k2 = 44) (hf : μ.1 18 r = nI f) (hg : μ.1 19 r = nI g) (hf7 : f < 7) (hg7 : g < 7)
    (a1 : -100000 ≤ (μ.1 20 r).toInt) (a2 : (μ.1 20 r).toInt ≤ 100000) (a3 : -100000 ≤ (μ.1 21 r).toInt) (a4 : (μ.1 21 r).toInt ≤ 100000) (a5 : -100000 ≤ (μ.1 22 r).toInt) (a6 : (μ.1 22 r).toInt ≤ 100000)
    (b1 : -1000000000000000000 ≤ (μ.2 k2 f).toInt) (b2 : (μ.2 k2 f).toInt ≤ 1000000000000000000) (b3 : -1000000000000000000 ≤ (μ.2 k2 g).toInt) (b4 : (μ.2 k2 g).toInt ≤ 1000000000000000000) :
    M_Ru_keeps N (nI r) k2 μ = some (b01 ((μ.1 20 r).toInt * (μ.2 k2 g).toInt ≤ (μ.1 22 r).toInt * (μ.2 k2 f).toInt ∧ (μ.1 22 r).toInt * (μ.2 k2 f).toInt ≤ (μ.1 21 r).toInt * (μ.2 k2 g).toInt), μ) := by
  have l2 : lnJ k2 = 7 := by rcases hk2 with rfl | rfl <;> rfl
  have i18 : ldI μ 18 (nI r) = some (nI f) := by rw [ldI_n (by decide) (by decide) (by show r < 8; omega) (by decide), hf]
  have i19 : ldI μ 19 (nI r) = some (nI g) := by rw [ldI_n (by decide) (by decide) (by show r < 8; omega) (by decide), hg]
  have i20 : ldI μ 20 (nI r) = some (μ.1 20 r) := ldI_n (by decide) (by decide) (by show r < 8; omega) (by decide)
  have i21 : ldI μ 21 (nI r) = some (μ.1 21 r) := ldI_n (by decide) (by decide) (by show r < 8; omega) (by decide)
  have i22 : ldI μ 22 (nI r) = some (μ.1 22 r) := ldI_n (by decide) (by decide) (by show r < 8; omega) (by decide)
  have jf : ldJ μ k2 (nI f) = some (μ.2 k2 f) := ldJ_n (by omega) (by omega) (by omega) (by rw [l2]; decide)
  have jg : ldJ μ k2 (nI g) = some (μ.2 k2 g) := ldJ_n (by omega) (by omega) (by omega) (by rw [l2]; decide)
  have c1 := s_atLeast N (t := (μ.1 22 r).toInt64) (v := μ.2 k2 f) (t' := (μ.1 20 r).toInt64) (v' := μ.2 k2 g) (by rw [i2l_toInt]; exact a5) (by rw [i2l_toInt]; exact a6) (by rw [i2l_toInt]; exact a1) (by rw [i2l_toInt]; exact a2) b1 b2 b3 b4
  have c2 := s_atLeast N (t := (μ.1 21 r).toInt64) (v := μ.2 k2 g) (t' := (μ.1 22 r).toInt64) (v' := μ.2 k2 f) (by rw [i2l_toInt]; exact a3) (by rw [i2l_toInt]; exact a4) (by rw [i2l_toInt]; exact a5) (by rw [i2l_toInt]; exact a6) b3 b4 b1 b2
  simp only [i2l_toInt] at c1 c2
  rw [M_Ru_keeps, i18, bs, jf, bs, i19, bs, jg, bs, i22, bs, i20, bs, c1, bs]
  by_cases h1 : (μ.1 20 r).toInt * (μ.2 k2 g).toInt ≤ (μ.1 22 r).toInt * (μ.2 k2 f).toInt
  · rw [if_neg (by rw [b01_0]; exact fun h => h h1), i21, bs, bs, c2, bs]
    by_cases h2 : (μ.1 22 r).toInt * (μ.2 k2 f).toInt ≤ (μ.1 21 r).toInt * (μ.2 k2 g).toInt
    · rw [if_neg (by rw [b01_0]; exact fun h => h h2), reZ_1]
      simp [b01, h1, h2]
    · rw [if_pos (by rw [b01_0]; exact h2), reZ_0]
      simp [b01, h2]
  · rw [if_pos (by rw [b01_0]; exact h1), reZ_0]
    simp [b01, h1]
