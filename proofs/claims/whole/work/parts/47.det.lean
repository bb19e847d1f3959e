/-! PURE: the reference's determinants. -/
/-- the limits' rows, rr k, stand in the memory (the last column with its sign turned) -/
def LimsIn (μ : Mem) (rr : Nat → Nat → Int) : Prop := ∀ k, k < 24 → ∀ c, c < 5 → (μ.1 38 (5 * k + c)).toInt = if c < 4 then rr k c else -rr k 4
def en (rr : Nat → Nat → Int) (ky : Nat → Nat) (j i c : Nat) : Int := if c = j then -rr (ky i) 4 else rr (ky i) c
theorem s_at {N i c j : Nat} {μ : Mem} {rr : Nat → Nat → Int} {ky : Nat → Nat} (hL : LimsIn μ rr) (hk : ∀ i, i < 4 → μ.1 39 i = nI (ky i) ∧ ky i < 24) (hi : i < 4) (hc : c < 4) (hj : j < 5) :
    M_Mo_at N (nI i) (nI c) (nI j) μ = some (JJ (en rr ky j i c), μ) := by
  obtain ⟨k1, k2⟩ := hk i hi
  unfold M_Mo_at M_Mo_at_22
  rw [ldI_n (by decide) (by decide) (by show i < 4; omega) (by decide), bs, k1]
  unfold en
  by_cases h : c = j
  · have f4 : (5 : Int32) * nI (ky i) + 4 = nI (5 * ky i + 4) := five_nI _ 4
    subst h
    rw [if_pos rfl, if_pos rfl, f4, ldI_n (by decide) (by decide) (by show 5 * ky i + 4 < 120; omega) (by decide), bs, i2l_J, hL (ky i) k2 4 (by omega), if_neg (by omega)]
  · rw [if_neg (fun q => h ((nI_eq (by omega) (by omega)).1 q)), if_neg h, five_nI, ldI_n (by decide) (by decide) (by show 5 * ky i + c < 120; omega) (by decide), bs, i2l_J, hL (ky i) k2 c (by omega), if_pos hc]
def m2 (e : Nat → Nat → Int) (i i' c c' : Nat) : Int := e i c * e i' c' - e i c' * e i' c
theorem s_minor {N i i' c c' j : Nat} {μ : Mem} {rr : Nat → Nat → Int} {ky : Nat → Nat} (hL : LimsIn μ rr) (hk : ∀ i, i < 4 → μ.1 39 i = nI (ky i) ∧ ky i < 24) (hi : i < 4) (hi' : i' < 4) (hc : c < 4) (hc' : c' < 4) (hj : j < 5) :
    M_Mo_minor N (nI i) (nI i') (nI c) (nI c') (nI j) μ = some (JJ (m2 (en rr ky j) i i' c c'), μ) := by
  unfold M_Mo_minor
  rw [s_at hL hk hi hc hj, bs2, s_at hL hk hi' hc' hj, bs2, s_at hL hk hi hc' hj, bs2, s_at hL hk hi' hc hj, bs2, JJ_mul, JJ_mul, JJ_sub]
  rfl
def dt (e : Nat → Nat → Int) : Int := m2 e 0 1 0 1 * m2 e 2 3 2 3 - m2 e 0 1 0 2 * m2 e 2 3 1 3 + m2 e 0 1 0 3 * m2 e 2 3 1 2 + m2 e 0 1 1 2 * m2 e 2 3 0 3 - m2 e 0 1 1 3 * m2 e 2 3 0 2 + m2 e 0 1 2 3 * m2 e 2 3 0 1
theorem s_det {N j : Nat} {μ : Mem} {rr : Nat → Nat → Int} {ky : Nat → Nat} (hL : LimsIn μ rr) (hk : ∀ i, i < 4 → μ.1 39 i = nI (ky i) ∧ ky i < 24) (hj : j < 5) : M_Mo_determinant N (nI j) μ = some (JJ (dt (en rr ky j)), μ) := by
  have s : ∀ i i' c c', i < 4 → i' < 4 → c < 4 → c' < 4 → M_Mo_minor N (nI i) (nI i') (nI c) (nI c') (nI j) μ = some (JJ (m2 (en rr ky j) i i' c c'), μ) := fun i i' c c' h1 h2 h3 h4 => s_minor hL hk h1 h2 h3 h4 hj
  unfold M_Mo_determinant
  have a := s 0 1 0 1 (by omega) (by omega) (by omega) (by omega)
  have b := s 2 3 2 3 (by omega) (by omega) (by omega) (by omega)
  have c := s 0 1 0 2 (by omega) (by omega) (by omega) (by omega)
  have d := s 2 3 1 3 (by omega) (by omega) (by omega) (by omega)
  have e := s 0 1 0 3 (by omega) (by omega) (by omega) (by omega)
  have f := s 2 3 1 2 (by omega) (by omega) (by omega) (by omega)
  have g := s 0 1 1 2 (by omega) (by omega) (by omega) (by omega)
  have h := s 2 3 0 3 (by omega) (by omega) (by omega) (by omega)
  have i := s 0 1 1 3 (by omega) (by omega) (by omega) (by omega)
  have k := s 2 3 0 2 (by omega) (by omega) (by omega) (by omega)
  have l := s 0 1 2 3 (by omega) (by omega) (by omega) (by omega)
  have m := s 2 3 0 1 (by omega) (by omega) (by omega) (by omega)
  have n0 : nI 0 = 0 := rfl
  have n1 : nI 1 = 1 := rfl
  have n2 : nI 2 = 2 := rfl
  have n3 : nI 3 = 3 := rfl
  rw [n0, n1] at a
  rw [n2, n3] at b
  rw [n0, n1, n2] at c
  rw [n1, n2, n3] at d
  rw [n0, n1, n3] at e
  rw [n1, n2, n3] at f
  rw [n0, n1, n2] at g
  rw [n0, n2, n3] at h
  rw [n0, n1, n3] at i
  rw [n0, n2, n3] at k
  rw [n0, n1, n2, n3] at l
  rw [n0, n1, n2, n3] at m
  rw [a, bs2, b, bs2, c, bs2, d, bs2, e, bs2, f, bs2, g, bs2, h, bs2, i, bs2, k, bs2, l, bs2, m, bs2]
  rw [JJ_mul, JJ_mul, JJ_mul, JJ_mul, JJ_mul, JJ_mul, JJ_sub, JJ_add, JJ_add, JJ_sub, JJ_add]
  rfl
def r4 (rr : Nat → Nat → Int) (ky : Nat → Nat) : List (Nat → Int) := [rr (ky 3), rr (ky 2), rr (ky 1), rr (ky 0)]
theorem mn_c (r : Nat → Int) (rs : List (Nat → Int)) (G : Nat) : mn (r :: rs) G = ex r (mn rs) G := rfl
theorem mn_e : mn [] 0 = 1 := rfl
theorem det_4 (a b c d : Nat → Int) : mn [d, c, b, a] 15 = (a 0 * b 1 - a 1 * b 0) * (c 2 * d 3 - c 3 * d 2) - (a 0 * b 2 - a 2 * b 0) * (c 1 * d 3 - c 3 * d 1) + (a 0 * b 3 - a 3 * b 0) * (c 1 * d 2 - c 2 * d 1) + (a 1 * b 2 - a 2 * b 1) * (c 0 * d 3 - c 3 * d 0) - (a 1 * b 3 - a 3 * b 1) * (c 0 * d 2 - c 2 * d 0) + (a 2 * b 3 - a 3 * b 2) * (c 0 * d 1 - c 1 * d 0) := by
  simp only [mn_c, ex_1, ex_2, ex_3, ex_4, ex_5, ex_6, ex_7, ex_8, ex_9, ex_10, ex_11, ex_12, ex_13, ex_14, ex_15, ex_16, ex_17, ex_18, ex_19, ex_20, ex_21, ex_22, ex_23, ex_24, ex_25, ex_26, ex_27, ex_28, ex_29, ex_30, ex_31, mn_e]
  grind
theorem det_0 (a b c d : Nat → Int) : mn [d, c, b, a] 30 = ((-a 4) * b 1 - a 1 * (-b 4)) * (c 2 * d 3 - c 3 * d 2) - ((-a 4) * b 2 - a 2 * (-b 4)) * (c 1 * d 3 - c 3 * d 1) + ((-a 4) * b 3 - a 3 * (-b 4)) * (c 1 * d 2 - c 2 * d 1) + (a 1 * b 2 - a 2 * b 1) * ((-c 4) * d 3 - c 3 * (-d 4)) - (a 1 * b 3 - a 3 * b 1) * ((-c 4) * d 2 - c 2 * (-d 4)) + (a 2 * b 3 - a 3 * b 2) * ((-c 4) * d 1 - c 1 * (-d 4)) := by
  simp only [mn_c, ex_1, ex_2, ex_3, ex_4, ex_5, ex_6, ex_7, ex_8, ex_9, ex_10, ex_11, ex_12, ex_13, ex_14, ex_15, ex_16, ex_17, ex_18, ex_19, ex_20, ex_21, ex_22, ex_23, ex_24, ex_25, ex_26, ex_27, ex_28, ex_29, ex_30, ex_31, mn_e]
  grind
theorem det_1 (a b c d : Nat → Int) : -mn [d, c, b, a] 29 = (a 0 * (-b 4) - (-a 4) * b 0) * (c 2 * d 3 - c 3 * d 2) - (a 0 * b 2 - a 2 * b 0) * ((-c 4) * d 3 - c 3 * (-d 4)) + (a 0 * b 3 - a 3 * b 0) * ((-c 4) * d 2 - c 2 * (-d 4)) + ((-a 4) * b 2 - a 2 * (-b 4)) * (c 0 * d 3 - c 3 * d 0) - ((-a 4) * b 3 - a 3 * (-b 4)) * (c 0 * d 2 - c 2 * d 0) + (a 2 * b 3 - a 3 * b 2) * (c 0 * (-d 4) - (-c 4) * d 0) := by
  simp only [mn_c, ex_1, ex_2, ex_3, ex_4, ex_5, ex_6, ex_7, ex_8, ex_9, ex_10, ex_11, ex_12, ex_13, ex_14, ex_15, ex_16, ex_17, ex_18, ex_19, ex_20, ex_21, ex_22, ex_23, ex_24, ex_25, ex_26, ex_27, ex_28, ex_29, ex_30, ex_31, mn_e]
  grind
theorem det_2 (a b c d : Nat → Int) : mn [d, c, b, a] 27 = (a 0 * b 1 - a 1 * b 0) * ((-c 4) * d 3 - c 3 * (-d 4)) - (a 0 * (-b 4) - (-a 4) * b 0) * (c 1 * d 3 - c 3 * d 1) + (a 0 * b 3 - a 3 * b 0) * (c 1 * (-d 4) - (-c 4) * d 1) + (a 1 * (-b 4) - (-a 4) * b 1) * (c 0 * d 3 - c 3 * d 0) - (a 1 * b 3 - a 3 * b 1) * (c 0 * (-d 4) - (-c 4) * d 0) + ((-a 4) * b 3 - a 3 * (-b 4)) * (c 0 * d 1 - c 1 * d 0) := by
  simp only [mn_c, ex_1, ex_2, ex_3, ex_4, ex_5, ex_6, ex_7, ex_8, ex_9, ex_10, ex_11, ex_12, ex_13, ex_14, ex_15, ex_16, ex_17, ex_18, ex_19, ex_20, ex_21, ex_22, ex_23, ex_24, ex_25, ex_26, ex_27, ex_28, ex_29, ex_30, ex_31, mn_e]
  grind
theorem det_3 (a b c d : Nat → Int) : -mn [d, c, b, a] 23 = (a 0 * b 1 - a 1 * b 0) * (c 2 * (-d 4) - (-c 4) * d 2) - (a 0 * b 2 - a 2 * b 0) * (c 1 * (-d 4) - (-c 4) * d 1) + (a 0 * (-b 4) - (-a 4) * b 0) * (c 1 * d 2 - c 2 * d 1) + (a 1 * b 2 - a 2 * b 1) * (c 0 * (-d 4) - (-c 4) * d 0) - (a 1 * (-b 4) - (-a 4) * b 1) * (c 0 * d 2 - c 2 * d 0) + (a 2 * (-b 4) - (-a 4) * b 2) * (c 0 * d 1 - c 1 * d 0) := by
  simp only [mn_c, ex_1, ex_2, ex_3, ex_4, ex_5, ex_6, ex_7, ex_8, ex_9, ex_10, ex_11, ex_12, ex_13, ex_14, ex_15, ex_16, ex_17, ex_18, ex_19, ex_20, ex_21, ex_22, ex_23, ex_24, ex_25, ex_26, ex_27, ex_28, ex_29, ex_30, ex_31, mn_e]
  grind
def z0 (_ : Nat) : Int := 0
theorem det_mn (rr : Nat → Nat → Int) (ky : Nat → Nat) : ∀ j, j < 5 → dt (en rr ky j) = qv (mn (r4 rr ky)) z0 15 j := by
  intro j hj
  have q := qv_15 (mn (r4 rr ky)) z0
  rcases (by omega : j = 0 ∨ j = 1 ∨ j = 2 ∨ j = 3 ∨ j = 4) with rfl | rfl | rfl | rfl | rfl
  · rw [q.1]
    have := det_0 (rr (ky 0)) (rr (ky 1)) (rr (ky 2)) (rr (ky 3))
    show (_ : Int) = -(0 + 1 * (0 * mn (r4 rr ky) 15) + 1 * (0 * mn (r4 rr ky) 14) + -1 * (0 * mn (r4 rr ky) 14) + 1 * (0 * mn (r4 rr ky) 14) + -1 * (1 * mn (r4 rr ky) 30))
    have e : dt (en rr ky 0) = mn (r4 rr ky) 30 := this.symm
    rw [e]; grind
  · rw [q.2.1]
    have := det_1 (rr (ky 0)) (rr (ky 1)) (rr (ky 2)) (rr (ky 3))
    have e : dt (en rr ky 1) = -mn (r4 rr ky) 29 := this.symm
    rw [e]; unfold z0; grind
  · rw [q.2.2.1]
    have := det_2 (rr (ky 0)) (rr (ky 1)) (rr (ky 2)) (rr (ky 3))
    have e : dt (en rr ky 2) = mn (r4 rr ky) 27 := this.symm
    rw [e]; unfold z0; grind
  · rw [q.2.2.2.1]
    have := det_3 (rr (ky 0)) (rr (ky 1)) (rr (ky 2)) (rr (ky 3))
    have e : dt (en rr ky 3) = -mn (r4 rr ky) 23 := this.symm
    rw [e]; unfold z0; grind
  · rw [q.2.2.2.2]
    have := det_4 (rr (ky 0)) (rr (ky 1)) (rr (ky 2)) (rr (ky 3))
    exact this.symm
