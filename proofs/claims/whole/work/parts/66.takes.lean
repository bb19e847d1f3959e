/-! PURE: takeCut, takeWhole. -/
theorem s_takeCut {N : Nat} (hN : 300 ≤ N) {μ : Mem} (h01 : μ.1 4 10 = 0 ∨ μ.1 4 10 = 1) (hb : 0 < (μ.2 4 12).toInt) (ha : bnd 3600000000000000000 (μ.2 4 11).toInt) {bc T : Nat} (h8 : μ.1 4 10 = 0 → μ.1 4 8 = nI bc) (hbc : bc ≤ 256) (h2 : μ.1 2 0 = nI T) :
    ∃ μ', M_Fo_takeCut N μ = some μ' ∧ (∀ k j, k ≠ 6 → μ'.1 k j = μ.1 k j) ∧ (∀ k j, k ≠ 6 → μ'.2 k j = μ.2 k j) ∧ μ'.1 6 4 = μ.1 4 10 ∧ μ'.1 6 7 = (if μ.1 4 10 = 0 then nI (cl (allB μ bc) T 256).1 else 0) ∧
      ∃ g : Int, 0 < g ∧ (μ.2 4 11).toInt = g * (μ'.2 6 5).toInt ∧ (μ.2 4 12).toInt = g * (μ'.2 6 6).toInt ∧ Nat.gcd (μ'.2 6 5).toInt.natAbs (μ'.2 6 6).toInt.natAbs = 1 ∧ 0 < (μ'.2 6 6).toInt := by
  unfold bnd at ha
  obtain ⟨g, g1, g2⟩ := s_commonDivisor (N := N) (by omega) (μ := μ) (by omega) hb
  obtain ⟨A, hA⟩ : ∃ A, A = (μ.2 4 11).toInt := ⟨_, rfl⟩
  obtain ⟨B, hB⟩ : ∃ B, B = (μ.2 4 12).toInt := ⟨_, rfl⟩
  rw [← hA, ← hB] at g2
  have gp : 0 < Nat.gcd A.natAbs B.natAbs := Nat.gcd_pos_of_pos_right _ (by omega)
  have g0 : 0 < g.toInt := by rw [g2]; omega
  have d1 : g.toInt ∣ A := by rw [g2, ← Int.natAbs_dvd_natAbs, Int.natAbs_natCast]; exact Nat.gcd_dvd_left _ _
  have d2 : g.toInt ∣ B := by rw [g2, ← Int.natAbs_dvd_natAbs, Int.natAbs_natCast]; exact Nat.gcd_dvd_right _ _
  obtain ⟨o, ho⟩ := d1
  obtain ⟨u, hu⟩ := d2
  have q1 : (μ.2 4 11 / g).toInt = o := exact_div g0 (by rw [← hA]; exact ho)
  have q2 : (μ.2 4 12 / g).toInt = u := exact_div g0 (by rw [← hB]; exact hu)
  have u0 : 0 < u := by
    refine Int.lt_of_not_ge (fun h => ?_)
    have := Int.mul_nonneg (a := g.toInt) (b := -u) (by omega) (by omega)
    rw [Int.mul_neg, ← hu] at this
    omega
  have cop : Nat.gcd o.natAbs u.natAbs = 1 := by
    have e : A.natAbs = g.toInt.natAbs * o.natAbs := by rw [← Int.natAbs_mul, ← ho]
    have e' : B.natAbs = g.toInt.natAbs * u.natAbs := by rw [← Int.natAbs_mul, ← hu]
    have gg : g.toInt.natAbs = Nat.gcd A.natAbs B.natAbs := by rw [g2, Int.natAbs_natCast]
    have h := Nat.gcd_mul_left g.toInt.natAbs o.natAbs u.natAbs
    rw [← e, ← e', ← gg] at h
    have hpos : 0 < g.toInt.natAbs := by omega
    have : g.toInt.natAbs * 1 = g.toInt.natAbs * Nat.gcd o.natAbs u.natAbs := by omega
    exact (Nat.eq_of_mul_eq_mul_left hpos this).symm
  have e3 : (upI μ.1 6 4 (μ.1 4 10)) 4 10 = μ.1 4 10 := upI_ne (by omega) 10
  have gz : ¬ lg_cmp g 0 ≤ (0 : Int32) := by
    rw [cmp_le, Int64.le_iff_toInt_le]
    show ¬ g.toInt ≤ 0
    omega
  have unf : M_Fo_takeCut N μ = M_Fo_takeCut_39 N (upI μ.1 6 4 (μ.1 4 10), upJ (upJ μ.2 6 5 (μ.2 4 11 / g)) 6 6 (μ.2 4 12 / g)) := by
    unfold M_Fo_takeCut pZ
    rw [g1, bs2, if_pos h01, bs, if_neg gz]
    dsimp only
    rw [dvJ_some (by omega), bs, pJ, bs]
    dsimp only
    rw [upJ_ne (by omega), dvJ_some (by omega), bs, pJ, bs]
  have fin : ∀ r : Int32, r = (if μ.1 4 10 = 0 then nI (cl (allB μ bc) T 256).1 else 0) → M_Fo_takeCut_39 N (upI μ.1 6 4 (μ.1 4 10), upJ (upJ μ.2 6 5 (μ.2 4 11 / g)) 6 6 (μ.2 4 12 / g)) = some (upI (upI μ.1 6 4 (μ.1 4 10)) 6 7 r, upJ (upJ μ.2 6 5 (μ.2 4 11 / g)) 6 6 (μ.2 4 12 / g)) → _ := fun r hr hm => by
    refine (⟨(upI (upI μ.1 6 4 (μ.1 4 10)) 6 7 r, upJ (upJ μ.2 6 5 (μ.2 4 11 / g)) 6 6 (μ.2 4 12 / g)), unf.trans hm, fun k j h => ?_, fun k j h => ?_, ?_, ?_, g.toInt, g0, ?_, ?_, ?_, ?_⟩ : ∃ μ', M_Fo_takeCut N μ = some μ' ∧ (∀ k j, k ≠ 6 → μ'.1 k j = μ.1 k j) ∧ (∀ k j, k ≠ 6 → μ'.2 k j = μ.2 k j) ∧ μ'.1 6 4 = μ.1 4 10 ∧ μ'.1 6 7 = (if μ.1 4 10 = 0 then nI (cl (allB μ bc) T 256).1 else 0) ∧
      ∃ g : Int, 0 < g ∧ (μ.2 4 11).toInt = g * (μ'.2 6 5).toInt ∧ (μ.2 4 12).toInt = g * (μ'.2 6 6).toInt ∧ Nat.gcd (μ'.2 6 5).toInt.natAbs (μ'.2 6 6).toInt.natAbs = 1 ∧ 0 < (μ'.2 6 6).toInt)
    · dsimp only; rw [upI_ne h, upI_ne h]
    · dsimp only; rw [upJ_ne h, upJ_ne h]
    · dsimp only; rw [upI_pl (by omega), upI_at]
    · dsimp only; rw [upI_at]; exact hr
    · dsimp only; rw [upJ_pl (by omega), upJ_at, q1, ← hA]; exact ho
    · dsimp only; rw [upJ_at, q2, ← hB]; exact hu
    · dsimp only; rw [upJ_at, upJ_pl (by omega), upJ_at, q1, q2]; exact cop
    · dsimp only; rw [upJ_at, q2]; exact u0
  rcases h01 with z | z
  · refine fin _ rfl ?_
    unfold M_Fo_takeCut_39
    have eA : allB (upI μ.1 6 4 (μ.1 4 10), upJ (upJ μ.2 6 5 (μ.2 4 11 / g)) 6 6 (μ.2 4 12 / g)) bc = allB μ bc := by
      funext S
      unfold allB
      have : ∀ i, (upI μ.1 6 4 (μ.1 4 10)) 24 i = μ.1 24 i := fun i => upI_ne (by omega) i
      simp only [this]
    rw [if_pos (by dsimp only; rw [e3]; exact z), s_fewest (T := T) hN (by dsimp only; rw [upI_ne (by omega)]; exact h8 z) hbc (by dsimp only; rw [upI_ne (by omega)]; exact h2), bs2, pI, bs, eA, if_pos z]
  · refine fin _ rfl ?_
    unfold M_Fo_takeCut_39
    rw [if_neg (by dsimp only; rw [e3, z]; decide), pI, bs, if_neg (by rw [z]; decide)]
theorem s_takeWhole {N : Nat} (hN : 5 ≤ N) {μ : Mem} {x2 : Int32} (h01 : μ.1 5 6 = 0 ∨ μ.1 5 6 = 1) :
    ∃ μ', M_Fo_takeWhole N x2 μ = some μ' ∧ (∀ k j, k ≠ 6 → k ≠ 27 → μ'.1 k j = μ.1 k j) ∧ (∀ j, j ≠ 0 → j ≠ 1 → μ'.1 6 j = μ.1 6 j) ∧ μ'.1 6 0 = μ.1 5 6 ∧ μ'.1 6 1 = x2 ∧ (∀ i, i < 4 → μ'.1 27 i = μ.1 26 i) ∧ (∀ k j, ¬ (k = 6 ∧ j = 3) → μ'.2 k j = μ.2 k j) ∧ μ'.2 6 3 = μ.2 5 7 := by
  have copy : ∀ (j f : Nat) (μ : Mem), j ≤ 4 → ∃ μ', M_Fo_takeWhole_23 N (f + j + 1) (nI (4 - j)) μ = some μ' ∧ μ'.2 = μ.2 ∧ (∀ a b, a ≠ 27 → μ'.1 a b = μ.1 a b) ∧ (∀ i, i < 4 - j → μ'.1 27 i = μ.1 27 i) ∧ ∀ i, 4 - j ≤ i → i < 4 → μ'.1 27 i = μ.1 26 i := by
    intro j
    induction j with
    | zero =>
      intro f μ _
      refine ⟨μ, ?_, rfl, fun _ _ _ => rfl, fun _ _ => rfl, fun i h1 h2 => absurd h1 (by omega)⟩
      rw [M_Fo_takeWhole_23, if_pos (by decide)]
    | succ j ih =>
      intro f μ hj
      have n4 : ¬ (4 : Int32) ≤ nI (4 - (j + 1)) := nI_ge (a := 4 - (j + 1)) (b := 4) (by omega) (by omega)
      obtain ⟨μ', a1, a2, a3, a4, a5⟩ := ih f (upI μ.1 27 (4 - (j + 1)) (μ.1 26 (4 - (j + 1))), μ.2) (by omega)
      refine ⟨μ', ?_, a2, fun a b h => (a3 a b h).trans (upI_ne h b), fun i hi => (a4 i (by omega)).trans (upI_pl (by omega)), fun i h1 h2 => ?_⟩
      · rw [show f + (j + 1) + 1 = (f + j + 1) + 1 by omega, M_Fo_takeWhole_23, if_neg n4, ldI_n (by decide) (by decide) (by show 4 - (j + 1) < 4; omega) (by decide), bs, stI_n (by decide) (by decide) (by show 4 - (j + 1) < 4; omega) (by decide), bs, nI_1, show 4 - (j + 1) + 1 = 4 - j by omega]
        exact a1
      · by_cases e : i = 4 - (j + 1)
        · rw [a4 i (by omega), e]; exact upI_at μ.1 27 _ _
        · rw [a5 i (by omega) h2]
          dsimp only
          rw [upI_ne (by omega)]
  obtain ⟨μ', a1, a2, a3, a4, a5⟩ := copy 4 (N - 5) (upI (upI μ.1 6 0 (μ.1 5 6)) 6 1 x2, upJ μ.2 6 3 (μ.2 5 7)) (Nat.le_refl 4)
  rw [show N - 5 + 4 + 1 = N by omega] at a1
  refine ⟨μ', ?_, fun k j h1 h2 => ?_, fun j h1 h2 => ?_, ?_, ?_, fun i hi => ?_, fun k j h => ?_, ?_⟩
  · unfold M_Fo_takeWhole pZ
    rw [if_pos h01, bs, pI, bs, pJ, bs]
    exact a1
  · rw [a3 k j h2]; dsimp only; rw [upI_ne h1, upI_ne h1]
  · rw [a3 6 j (by omega)]; dsimp only; rw [upI_pl h2, upI_pl h1]
  · rw [a3 6 0 (by omega)]; dsimp only; rw [upI_pl (by omega), upI_at]
  · rw [a3 6 1 (by omega)]; dsimp only; rw [upI_at]
  · rw [a5 i (by omega) hi]; dsimp only; rw [upI_ne (by omega), upI_ne (by omega)]
  · rw [a2]; dsimp only
    by_cases e : k = 6
    · rw [upJ_pl (by omega)]
    · rw [upJ_ne e]
  · rw [a2]; dsimp only; rw [upJ_at]
