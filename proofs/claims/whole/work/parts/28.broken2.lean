/-! The reference's keeps. -/
theorem holds_step {N k j w n : Nat} {acc : Int32} {μ : Mem} (h7 : μ.1 7 0 = nI n) (hj : j < n) (hn : n ≤ 4) (hw : w < 5) :
    M_Mo_holds_4 N (k + 1) (nI w) acc (nI j) μ = M_Mo_holds_4 N k (nI w) (acc + μ.1 37 j * μ.1 30 (5 * j + w)) (nI (j + 1)) μ := by
  have e5 : ((5 : Int32) * nI j) + nI w = nI (5 * j + w) := by
    have : (5 : Int32) * nI j = nI (5 * j) := pk_mul 5 j
    rw [this, nI_add]
  rw [M_Mo_holds_4, h7, if_neg (nI_ge hj (by omega)), ldI_n (by decide) (by decide) (by show j < 4; omega) (by decide), bs, e5, ldI_n (by decide) (by decide) (by show 5 * j + w < 20; omega) (by decide), bs]
  show M_Mo_holds_4 N k (nI w) (acc + μ.1 37 j * μ.1 30 (5 * j + w)) (nI j + 1) μ = _
  rw [nI_1]
def sm32 (μ : Mem) (w : Nat) : Nat → Int32
  | 0 => 0
  | j + 1 => sm32 μ w j + μ.1 37 j * μ.1 30 (5 * j + w)
def hvn (μ : Mem) (x : Nat → Int) (w : Nat) : Nat → Int
  | 0 => 0
  | j + 1 => hvn μ x w j + x j * amt μ w j
theorem s_holds {N w n : Nat} {μ : Mem} (hN : 5 ≤ N) (h7 : μ.1 7 0 = nI n) (hn : n ≤ 4) (hw : w < 5) : M_Mo_holds N (nI w) μ = some (sm32 μ w n, μ) := by
  have key : ∀ d k, d ≤ n → M_Mo_holds_4 N (k + d + 1) (nI w) (sm32 μ w (n - d)) (nI (n - d)) μ = some (sm32 μ w n, μ) := by
    intro d
    induction d with
    | zero =>
      intro k _
      show M_Mo_holds_4 N (k + 1) (nI w) (sm32 μ w n) (nI n) μ = _
      rw [M_Mo_holds_4, h7, if_pos (nI_le (Nat.le_refl n) (by omega))]
    | succ d ih =>
      intro k hd
      have h := ih k (by omega)
      have e : n - d = (n - (d + 1)) + 1 := by omega
      rw [e] at h
      rw [show k + (d + 1) + 1 = (k + d + 1) + 1 by omega, holds_step h7 (by omega) hn hw]
      exact h
  have h := key n (N - n - 1) (Nat.le_refl n)
  rw [show N - n - 1 + n + 1 = N by omega, Nat.sub_self] at h
  exact h
theorem sm32_int {μ : Mem} {w n : Nat} (hA : InvA μ) (hx : ∀ j, j < 4 → 0 ≤ (μ.1 37 j).toInt ∧ (μ.1 37 j).toInt ≤ 9) (hw : w < 5) (hn : n ≤ 4) : (sm32 μ w n).toInt = hvn μ (fun i => (μ.1 37 i).toInt) w n ∧ -(900 * (n : Int)) ≤ (sm32 μ w n).toInt ∧ (sm32 μ w n).toInt ≤ 900 * (n : Int) := by
  induction n with
  | zero => exact ⟨rfl, by show -(900 * (0 : Int)) ≤ (0 : Int32).toInt; decide, by show (0 : Int32).toInt ≤ 900 * (0 : Int); decide⟩
  | succ n ih =>
    obtain ⟨i1, i2, i3⟩ := ih (by omega)
    obtain ⟨_, -, -, -, -, -, ha, -⟩ := hA
    have hb := ha n (by omega) w hw
    have hm := mul_bd (a := (μ.1 37 n).toInt) (b := (μ.1 30 (5 * n + w)).toInt) (A := 9) (B := 100) (by have := hx n (by omega); omega) (by have := hx n (by omega); omega) hb.2.1 hb.2.2.1
    have e1 : (μ.1 37 n * μ.1 30 (5 * n + w)).toInt = (μ.1 37 n).toInt * (μ.1 30 (5 * n + w)).toInt := mul32 (by omega) (by omega)
    have e2 : (sm32 μ w (n + 1)).toInt = (sm32 μ w n).toInt + (μ.1 37 n).toInt * (μ.1 30 (5 * n + w)).toInt := by
      show (sm32 μ w n + μ.1 37 n * μ.1 30 (5 * n + w)).toInt = _
      rw [add32] <;> rw [e1] <;> omega
    refine ⟨?_, by rw [e2]; omega, by rw [e2]; omega⟩
    rw [e2, i1]
    rfl
theorem hvn_hv {μ : Mem} {n w : Nat} (hA : InvA μ) (h7 : μ.1 7 0 = nI n) (hn : n ≤ 4) (hw : w < 5) (x : Nat → Int) : hvn μ x w n = hv μ x w := by
  obtain ⟨n', h0, -, h2, -, -, ha, -⟩ := hA
  have e : n' = n := (nI_eq (by omega) (by omega)).mp (h2.symm.trans h7)
  subst e
  have z : ∀ i, i < 4 → n' ≤ i → amt μ w i = 0 := fun i hi hni => by
    unfold amt
    rw [(ha i hi w hw).2.2.2 hni]
    rfl
  unfold hv
  rcases (show n' = 0 ∨ n' = 1 ∨ n' = 2 ∨ n' = 3 ∨ n' = 4 by omega) with rfl | rfl | rfl | rfl | rfl
  · rw [z 0 (by decide) (by decide), z 1 (by decide) (by decide), z 2 (by decide) (by decide), z 3 (by decide) (by decide)]
    simp [hvn]
  · rw [z 1 (by decide) (by decide), z 2 (by decide) (by decide), z 3 (by decide) (by decide)]
    simp [hvn, Int.mul_comm]
  · rw [z 2 (by decide) (by decide), z 3 (by decide) (by decide)]
    simp [hvn, Int.mul_comm]
  · rw [z 3 (by decide) (by decide)]
    simp [hvn, Int.mul_comm]
  · simp [hvn, Int.mul_comm]
theorem s_holdsI {N w : Nat} {μ : Mem} (hN : 5 ≤ N) (hA : InvA μ) (hx : ∀ j, j < 4 → 0 ≤ (μ.1 37 j).toInt ∧ (μ.1 37 j).toInt ≤ 9) (hw : w < 5) : ∃ v : Int32, M_Mo_holds N (nI w) μ = some (v, μ) ∧ v.toInt = hv μ (fun i => (μ.1 37 i).toInt) w ∧ -3600 ≤ v.toInt ∧ v.toInt ≤ 3600 := by
  obtain ⟨n, hn, -, h7, -⟩ := id hA
  obtain ⟨e1, e2, e3⟩ := sm32_int hA hx hw hn
  exact ⟨sm32 μ w n, s_holds hN h7 hn hw, by rw [e1, hvn_hv hA h7 hn hw], by omega, by omega⟩
theorem s_keepsM {N r : Nat} {μ : Mem} (hN : 5 ≤ N) (hA : InvA μ) (hr : r < 8) (hR : RuleOK μ r) (hx : ∀ j, j < 4 → 0 ≤ (μ.1 37 j).toInt ∧ (μ.1 37 j).toInt ≤ 9) :
    M_Mo_keeps N (nI r) μ = some (b01 (kp μ r (fun i => (μ.1 37 i).toInt) 1), μ) := by
  obtain ⟨f, g, hf, hg, -, -, e3, e4, a1, a2, a3, a4, a5, a6⟩ := rule_facts hr hR
  obtain ⟨r1, r2, r3, h1, h2, h3⟩ := hR
  have i31 : ldI μ 31 (nI r) = some (μ.1 20 r) := by rw [ldI_n (by decide) (by decide) (by show r < 8; omega) (by decide), r1]
  have i32 : ldI μ 32 (nI r) = some (μ.1 21 r) := by rw [ldI_n (by decide) (by decide) (by show r < 8; omega) (by decide), r2]
  have o1 : (1 : Int32).toInt = 1 := rfl
  by_cases h5 : r < 5
  · obtain ⟨c1, c2, c3, c4, c5⟩ := h1 h5
    obtain ⟨v, v1, v2, v3, v4⟩ := s_holdsI hN hA hx h5
    have n5 : ¬ (5 : Int32) ≤ nI r := nI_ge (a := r) (b := 5) h5 (by decide)
    rw [M_Mo_keeps, if_neg n5, v1, bs2, i31, bs, i32, bs, s_isIn, bs, reZ_b01]
    refine congrArg (fun z => some (z, μ)) (b01_congr ?_)
    have ef : fI μ r = r := by unfold fI; rw [c1, nI_clamp (by omega)]
    have eg : gI μ r = 6 := by unfold gI; rw [c2]; rfl
    unfold kp
    rw [ef, eg, c3, o1, Int64.le_iff_toInt_le, Int64.le_iff_toInt_le, i2l_toInt, i2l_toInt, i2l_toInt, v2]
    unfold frm
    rw [if_pos h5, if_neg (by decide), if_neg (by decide)]
    omega
  · have p5 : (5 : Int32) ≤ nI r := nI_le (a := 5) (b := r) (by omega) (by omega)
    by_cases h7 : r = 7
    · subst h7
      obtain ⟨c1, c2, c3, c4, c5⟩ := h3 rfl
      have p7 : (7 : Int32) ≤ nI 7 := by decide
      have d0 : ldI μ 37 (0 : Int32) = some (μ.1 37 0) := ldI_n (j := 0) (by decide) (by decide) (by decide) (by decide)
      have d1 : ldI μ 37 (1 : Int32) = some (μ.1 37 1) := ldI_n (j := 1) (by decide) (by decide) (by decide) (by decide)
      have d2 : ldI μ 37 (2 : Int32) = some (μ.1 37 2) := ldI_n (j := 2) (by decide) (by decide) (by decide) (by decide)
      have d3 : ldI μ 37 (3 : Int32) = some (μ.1 37 3) := ldI_n (j := 3) (by decide) (by decide) (by decide) (by decide)
      have x0 := hx 0 (by decide)
      have x1 := hx 1 (by decide)
      have x2 := hx 2 (by decide)
      have x3 := hx 3 (by decide)
      have s1 : (μ.1 37 0 + μ.1 37 1).toInt = (μ.1 37 0).toInt + (μ.1 37 1).toInt := add32 (by omega) (by omega)
      have s2 : (μ.1 37 0 + μ.1 37 1 + μ.1 37 2).toInt = (μ.1 37 0).toInt + (μ.1 37 1).toInt + (μ.1 37 2).toInt := by rw [add32] <;> rw [s1] <;> omega
      have s3 : (μ.1 37 0 + μ.1 37 1 + μ.1 37 2 + μ.1 37 3).toInt = (μ.1 37 0).toInt + (μ.1 37 1).toInt + (μ.1 37 2).toInt + (μ.1 37 3).toInt := by rw [add32] <;> rw [s2] <;> omega
      rw [M_Mo_keeps, if_pos p5, if_pos p7, d0, bs, d1, bs, d2, bs, d3, bs, i31, bs, i32, bs, s_isIn, bs, reZ_b01]
      refine congrArg (fun z => some (z, μ)) (b01_congr ?_)
      have ef : fI μ 7 = 5 := by unfold fI; rw [c1]; rfl
      have eg : gI μ 7 = 6 := by unfold gI; rw [c2]; rfl
      unfold kp
      rw [ef, eg, c3, o1, Int64.le_iff_toInt_le, Int64.le_iff_toInt_le, i2l_toInt, i2l_toInt, i2l_toInt, s3]
      unfold frm
      rw [if_neg (by decide), if_pos rfl, if_neg (by decide), if_neg (by decide)]
      dsimp only
      omega
    · obtain ⟨⟨f', g', hf', hg', c1, c2, c3, c4⟩, c5, c6, c7, c8, c9⟩ := h2 (by omega)
      have n7 : ¬ (7 : Int32) ≤ nI r := nI_ge (a := r) (b := 7) (by omega) (by decide)
      obtain ⟨v, v1, v2, v3, v4⟩ := s_holdsI hN hA hx hf'
      obtain ⟨u, u1, u2, u3, u4⟩ := s_holdsI hN hA hx hg'
      have i33 : ldI μ 33 (nI r) = some (μ.1 22 r) := by rw [ldI_n (by decide) (by decide) (by show r < 8; omega) (by decide), c5]
      have i34 : ldI μ 34 (nI r) = some (nI f') := by rw [ldI_n (by decide) (by decide) (by show r < 8; omega) (by decide), c2]
      have i35 : ldI μ 35 (nI r) = some (nI g') := by rw [ldI_n (by decide) (by decide) (by show r < 8; omega) (by decide), c4]
      rw [M_Mo_keeps, if_pos p5, if_neg n7, i33, bs, i34, bs, v1, bs2]
      simp only [nm]
      rw [i35, bs, u1, bs2, i31, bs, i32, bs]
      simp only [cmp_lt, cmp_gt, reZ_0, reZ_1]
      have m1 := mul_bd (a := (μ.1 22 r).toInt) (b := v.toInt) (A := 100) (B := 3600) (by omega) (by omega) v3 v4
      have m2 := mul_bd (a := (μ.1 20 r).toInt) (b := u.toInt) (A := 100000) (B := 3600) (by omega) (by omega) u3 u4
      have m3 := mul_bd (a := (μ.1 21 r).toInt) (b := u.toInt) (A := 100000) (B := 3600) (by omega) (by omega) u3 u4
      have t1 : ((μ.1 22 r).toInt64 * v.toInt64).toInt = (μ.1 22 r).toInt * v.toInt := by rw [mul64] <;> rw [i2l_toInt, i2l_toInt] <;> omega
      have t2 : ((μ.1 20 r).toInt64 * u.toInt64).toInt = (μ.1 20 r).toInt * u.toInt := by rw [mul64] <;> rw [i2l_toInt, i2l_toInt] <;> omega
      have t3 : ((μ.1 21 r).toInt64 * u.toInt64).toInt = (μ.1 21 r).toInt * u.toInt := by rw [mul64] <;> rw [i2l_toInt, i2l_toInt] <;> omega
      have ef : fI μ r = f' := by unfold fI; rw [c1, nI_clamp (by omega)]
      have eg : gI μ r = g' := by unfold gI; rw [c3, nI_clamp (by omega)]
      have k1 : frm μ (fun i => (μ.1 37 i).toInt) 1 (fI μ r) = v.toInt := by rw [ef, v2]; unfold frm; rw [if_pos hf']
      have k2 : frm μ (fun i => (μ.1 37 i).toInt) 1 (gI μ r) = u.toInt := by rw [eg, u2]; unfold frm; rw [if_pos hg']
      have kk : kp μ r (fun i => (μ.1 37 i).toInt) 1 ↔ (μ.1 20 r).toInt * u.toInt ≤ (μ.1 22 r).toInt * v.toInt ∧ (μ.1 22 r).toInt * v.toInt ≤ (μ.1 21 r).toInt * u.toInt := by
        unfold kp
        rw [k1, k2]
      rw [b01_congr kk]
      unfold b01
      by_cases q1 : (μ.1 22 r).toInt64 * v.toInt64 < (μ.1 20 r).toInt64 * u.toInt64
      · rw [if_pos q1, if_neg]
        rw [Int64.lt_iff_toInt_lt, t1, t2] at q1
        omega
      · rw [if_neg q1]
        by_cases q2 : (μ.1 21 r).toInt64 * u.toInt64 < (μ.1 22 r).toInt64 * v.toInt64
        · rw [if_pos q2, if_neg]
          rw [Int64.lt_iff_toInt_lt, t1, t3] at q2
          omega
        · rw [if_neg q2, if_pos]
          rw [Int64.lt_iff_toInt_lt, t1, t2] at q1
          rw [Int64.lt_iff_toInt_lt, t1, t3] at q2
          omega
