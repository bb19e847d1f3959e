/-! broken, both. -/
def fstB (P : Nat → Bool) : Nat → Nat → Nat
  | 0, r => r
  | k + 1, r => if P r then r else fstB P k (r + 1)
theorem br100 {N T : Nat} {μ : Mem} (hN : 9 ≤ N) (hA : InvA μ) (hT : T < 256) (h2 : μ.1 2 0 = nI T) (hro : ∀ r, r < 8 → T.testBit r = true → RuleOK μ r) (hp : ∀ j, j < 5 → -1000000000000000 ≤ (μ.2 40 j).toInt ∧ (μ.2 40 j).toInt ≤ 1000000000000000) :
    M_RP_broken_100 N N 0 (μ.1, holdJ μ.2 40 41 7) = some (nI (fstB (fun r => decide (T.testBit r = true ∧ ¬ kp μ r (fun i => (μ.2 40 i).toInt) (μ.2 40 4).toInt)) 8 0), (μ.1, holdJ μ.2 40 41 7)) := by
  have key : ∀ k n, k ≤ 8 → M_RP_broken_100 N (n + k + 1) (nI (8 - k)) (μ.1, holdJ μ.2 40 41 7) = some (nI (fstB (fun r => decide (T.testBit r = true ∧ ¬ kp μ r (fun i => (μ.2 40 i).toInt) (μ.2 40 4).toInt)) k (8 - k)), (μ.1, holdJ μ.2 40 41 7)) := by
    intro k
    induction k with
    | zero =>
      intro n _
      show M_RP_broken_100 N (n + 1) (nI 8) _ = _
      rw [M_RP_broken_100, if_pos (by decide)]
      rfl
    | succ k ih =>
      intro n hk
      have h := ih n (by omega)
      have e : 8 - k = (8 - (k + 1)) + 1 := by omega
      rw [e] at h
      generalize hr : 8 - (k + 1) = r at h ⊢
      have hr8 : r < 8 := by omega
      have n8 : ¬ (8 : Int32) ≤ nI r := nI_ge (a := r) (b := 8) hr8 (by decide)
      rw [show n + (k + 1) + 1 = (n + k + 1) + 1 by omega, M_RP_broken_100, if_neg n8, s_isTold (μ := (μ.1, holdJ μ.2 40 41 7)) hr8 hT h2, bs2]
      unfold fstB
      by_cases ht : T.testBit r = true
      · rw [if_pos ht, if_neg (by decide), keeps_point hA hr8 (hro r hr8 ht) (Or.inl rfl) (Or.inl rfl) hp, bs2]
        by_cases hc : kp μ r (fun i => (μ.2 40 i).toInt) (μ.2 40 4).toInt
        · rw [if_neg (by rw [b01_0]; exact fun h => h hc), nI_1, h, if_neg]
          simp only [decide_eq_true_eq]
          exact fun q => q.2 hc
        · rw [if_pos (by rw [b01_0]; exact hc), if_pos]
          simp only [decide_eq_true_eq]
          exact ⟨ht, hc⟩
      · rw [if_neg ht, if_pos rfl, nI_1, h, if_neg]
        simp only [decide_eq_true_eq]
        exact fun q => ht q.1
  have h := key 8 (N - 9) (by omega)
  rw [show N - 9 + 8 + 1 = N by omega] at h
  exact h
theorem fb_M {N T : Nat} {μ : Mem} (hN : 9 ≤ N) (hA : InvA μ) (hT : T < 256) (h14 : ∀ r, r < 8 → μ.1 14 r = if T.testBit r then 1 else 0) (hro : ∀ r, r < 8 → T.testBit r = true → RuleOK μ r) (hx : ∀ j, j < 4 → 0 ≤ (μ.1 37 j).toInt ∧ (μ.1 37 j).toInt ≤ 9) :
    M_Mo_firstBroken N μ = some (nI (fstB (fun r => decide (T.testBit r = true ∧ ¬ kp μ r (fun i => (μ.1 37 i).toInt) 1)) 8 0), μ) := by
  have key : ∀ k n, k ≤ 8 → M_Mo_firstBroken_2 N (n + k + 1) (nI (8 - k)) μ = some (nI (fstB (fun r => decide (T.testBit r = true ∧ ¬ kp μ r (fun i => (μ.1 37 i).toInt) 1)) k (8 - k)), μ) := by
    intro k
    induction k with
    | zero =>
      intro n _
      show M_Mo_firstBroken_2 N (n + 1) (nI 8) _ = _
      rw [M_Mo_firstBroken_2, if_pos (by decide)]
      rfl
    | succ k ih =>
      intro n hk
      have h := ih n (by omega)
      have e : 8 - k = (8 - (k + 1)) + 1 := by omega
      rw [e] at h
      generalize hr : 8 - (k + 1) = r at h ⊢
      have hr8 : r < 8 := by omega
      have n8 : ¬ (8 : Int32) ≤ nI r := nI_ge (a := r) (b := 8) hr8 (by decide)
      rw [show n + (k + 1) + 1 = (n + k + 1) + 1 by omega, M_Mo_firstBroken_2, if_neg n8, ldZ_n (by decide) (by decide) (by show r < 8; omega) (by decide), bs, h14 r hr8]
      unfold fstB
      by_cases ht : T.testBit r = true
      · rw [if_pos ht, if_neg (by decide), s_keepsM (by omega) hA hr8 (hro r hr8 ht) hx, bs2]
        by_cases hc : kp μ r (fun i => (μ.1 37 i).toInt) 1
        · rw [if_neg (by rw [b01_0]; exact fun h => h hc), nI_1, h, if_neg]
          simp only [decide_eq_true_eq]
          exact fun q => q.2 hc
        · rw [if_pos (by rw [b01_0]; exact hc), if_pos]
          simp only [decide_eq_true_eq]
          exact ⟨ht, hc⟩
      · rw [if_neg ht, if_pos rfl, nI_1, h, if_neg]
        simp only [decide_eq_true_eq]
        exact fun q => ht q.1
  have h := key 8 (N - 9) (by omega)
  rw [show N - 9 + 8 + 1 = N by omega] at h
  exact h
theorem br43_in {N n j : Nat} {μ : Mem} (hj : j < 4) (h : 0 ≤ (μ.2 40 j).toInt ∧ (μ.2 40 j).toInt ≤ (μ.1 17 j).toInt) : M_RP_broken_43 N (n + 1) (nI j) μ = M_RP_broken_43 N n (nI (j + 1)) μ := by
  have n4 : ¬ (4 : Int32) ≤ nI j := nI_ge (a := j) (b := 4) hj (by decide)
  rw [M_RP_broken_43, if_neg n4, ldJ_n (by decide) (by decide) (by show j < 5; omega) (by decide), bs, ldI_n (by decide) (by decide) (by show j < 4; omega) (by decide), bs, s_within, bs, if_neg, nI_1]
  rw [b01_0, Int64.le_iff_toInt_le, Int64.le_iff_toInt_le, i2l_toInt]
  exact fun q => q h
theorem br43_out {N n j : Nat} {μ : Mem} (hj : j < 4) (h : ¬ (0 ≤ (μ.2 40 j).toInt ∧ (μ.2 40 j).toInt ≤ (μ.1 17 j).toInt)) : M_RP_broken_43 N (n + 1) (nI j) μ = some (-1, μ) := by
  have n4 : ¬ (4 : Int32) ≤ nI j := nI_ge (a := j) (b := 4) hj (by decide)
  rw [M_RP_broken_43, if_neg n4, ldJ_n (by decide) (by decide) (by show j < 5; omega) (by decide), bs, ldI_n (by decide) (by decide) (by show j < 4; omega) (by decide), bs, s_within, bs, if_pos]
  rw [b01_0, Int64.le_iff_toInt_le, Int64.le_iff_toInt_le, i2l_toInt]
  exact h
theorem br32 {N n j c : Nat} {μ : Mem} (hj : j < 4) (hA : InvA μ) (h7 : μ.1 7 0 = nI c) (hc : c ≤ 4) : M_Mo_broken_32 N (n + 1) (nI j) μ = if 0 ≤ (μ.1 37 j).toInt ∧ (μ.1 37 j).toInt ≤ (μ.1 17 j).toInt then M_Mo_broken_32 N n (nI (j + 1)) μ else some (-1, μ) := by
  obtain ⟨c', h0, -, h2, hs, -⟩ := hA
  have e : c' = c := (nI_eq (by omega) (by omega)).mp (h2.symm.trans h7)
  subst e
  have n4 : ¬ (4 : Int32) ≤ nI j := nI_ge (a := j) (b := 4) hj (by decide)
  have hz : (0 : Int64).toInt = 0 := rfl
  have key : ∀ v : Int64, v.toInt = (μ.1 17 j).toInt → M_Mo_broken_68 N (M_Mo_broken_32 N n) (nI j) (μ.1 37 j).toInt64 0 v μ = if 0 ≤ (μ.1 37 j).toInt ∧ (μ.1 37 j).toInt ≤ (μ.1 17 j).toInt then M_Mo_broken_32 N n (nI (j + 1)) μ else some (-1, μ) := by
    intro v hv
    rw [M_Mo_broken_68, s_isIn, bs]
    by_cases h : 0 ≤ (μ.1 37 j).toInt ∧ (μ.1 37 j).toInt ≤ (μ.1 17 j).toInt
    · rw [if_pos h, if_neg, nI_1]
      rw [b01_0, Int64.le_iff_toInt_le, Int64.le_iff_toInt_le, i2l_toInt, hv, hz]
      exact fun q => q h
    · rw [if_neg h, if_pos]
      rw [b01_0, Int64.le_iff_toInt_le, Int64.le_iff_toInt_le, i2l_toInt, hv, hz]
      exact h
  rw [M_Mo_broken_32, if_neg n4, ldI_n (by decide) (by decide) (by show j < 4; omega) (by decide), bs, h7]
  by_cases hcj : c' ≤ j
  · rw [if_pos (nI_le hcj (by omega))]
    exact key 0 (by rw [(hs j hj).2.2.2 hcj]; rfl)
  · rw [if_neg (nI_ge (by omega) (by omega)), ldI_n (by decide) (by decide) (by show j < 4; omega) (by decide), bs]
    exact key _ (by rw [i2l_toInt, (hs j hj).1])
theorem Inv.ofPM {μ μ' : Mem} (h : Inv μ) (i1 : ∀ k i, k ≠ 37 → μ'.1 k i = μ.1 k i) (i2 : ∀ k i, k ≠ 40 → k ≠ 41 → μ'.2 k i = μ.2 k i) : Inv μ' :=
  ⟨h.1.of (i1 _ _ (by omega)) (i1 _ _ (by omega)) (fun i => i1 _ _ (by omega)) (fun i => i1 _ _ (by omega)) (fun i => i1 _ _ (by omega)) (fun i => i1 _ _ (by omega)) (fun i => i2 _ _ (by omega) (by omega)) (fun k h1 h2 i => i2 _ _ (by omega) (by omega)), h.2.1.of (i1 _ _ (by omega)) (fun i => i1 _ _ (by omega)) (fun k hk i => i1 _ _ (by omega)), h.2.2.1.of (i1 _ _ (by omega)) (fun i => i1 _ _ (by omega)) (fun i => i1 _ _ (by omega)) (fun i => i2 _ _ (by omega) (by omega)) (i2 _ _ (by omega) (by omega)) (fun i => i1 _ _ (by omega)) (fun i => i1 _ _ (by omega)), h.2.2.2.of (fun i => i1 _ _ (by omega)) (i1 _ _ (by omega)) (i1 _ _ (by omega)) (i1 _ _ (by omega)) (fun i => i1 _ _ (by omega)) (fun i => i1 _ _ (by omega)) (fun i => i2 _ _ (by omega) (by omega)) (fun i => i2 _ _ (by omega) (by omega))⟩
theorem frm_congr {μ μ' : Mem} (h : ∀ i, μ'.1 30 i = μ.1 30 i) (x : Nat → Int) (D : Int) (f : Nat) : frm μ' x D f = frm μ x D f := by
  unfold frm hv amt
  simp only [h]
theorem frm_pt {μ : Mem} {x y : Nat → Int} (h : ∀ i, i < 4 → x i = y i) (D : Int) (f : Nat) : frm μ x D f = frm μ y D f := by
  unfold frm hv
  rw [h 0 (by decide), h 1 (by decide), h 2 (by decide), h 3 (by decide)]
theorem fstB_congr {P Q : Nat → Bool} : ∀ k r, (∀ i, r ≤ i → i < r + k → P i = Q i) → fstB P k r = fstB Q k r
  | 0, _, _ => rfl
  | k + 1, r, h => by
    unfold fstB
    rw [h r (by omega) (by omega), fstB_congr k (r + 1) (fun i h1 h2 => h i (by omega) (by omega))]
def ptJ (m2 : Nat → Nat → Int64) (a b c d : Int32) : Nat → Nat → Int64 := upJ (upJ (upJ (upJ (upJ m2 40 0 a.toInt64) 40 1 b.toInt64) 40 2 c.toInt64) 40 3 d.toInt64) 40 4 1
def mxI (m1 : Nat → Nat → Int32) (a b c d : Int32) : Nat → Nat → Int32 := upI (upI (upI (upI m1 37 0 a) 37 1 b) 37 2 c) 37 3 d
theorem h_broken {N : Nat} (hN : 9 ≤ N) : H_broken N Inv := by
  intro a b c d μ hI
  obtain ⟨M, rfl⟩ : ∃ M, N = M + 9 := ⟨N - 9, by omega⟩
  have hI5 : Inv (μ.1, ptJ μ.2 a b c d) := hI.ofPM (fun k i _ => rfl) (fun k i h1 h2 => by simp [ptJ, upJ, h1])
  obtain ⟨hA5, ⟨T, hT, h2, h14, hro⟩, -, -⟩ := id hI5
  have p0 : ((ptJ μ.2 a b c d) 40 0).toInt = a.toInt := by simp [ptJ, upJ, i2l_toInt]
  have p1 : ((ptJ μ.2 a b c d) 40 1).toInt = b.toInt := by simp [ptJ, upJ, i2l_toInt]
  have p2 : ((ptJ μ.2 a b c d) 40 2).toInt = c.toInt := by simp [ptJ, upJ, i2l_toInt]
  have p3 : ((ptJ μ.2 a b c d) 40 3).toInt = d.toInt := by simp [ptJ, upJ, i2l_toInt]
  have p4 : ((ptJ μ.2 a b c d) 40 4).toInt = 1 := by simp [ptJ, upJ]
  have hC : M_RP_broken (M + 9) a b c d μ = M_RP_broken_43 (M + 9) (M + 9) (nI 0) (μ.1, ptJ μ.2 a b c d) := by
    rw [M_RP_broken]
    have s0 : ∀ (m : Mem) (v : Int64), stJ m 40 (0 : Int32) v = some (m.1, upJ m.2 40 0 v) := fun m v => stJ_n (j := 0) (by decide) (by decide) (by decide) (by decide)
    have s1 : ∀ (m : Mem) (v : Int64), stJ m 40 (1 : Int32) v = some (m.1, upJ m.2 40 1 v) := fun m v => stJ_n (j := 1) (by decide) (by decide) (by decide) (by decide)
    have s2 : ∀ (m : Mem) (v : Int64), stJ m 40 (2 : Int32) v = some (m.1, upJ m.2 40 2 v) := fun m v => stJ_n (j := 2) (by decide) (by decide) (by decide) (by decide)
    have s3 : ∀ (m : Mem) (v : Int64), stJ m 40 (3 : Int32) v = some (m.1, upJ m.2 40 3 v) := fun m v => stJ_n (j := 3) (by decide) (by decide) (by decide) (by decide)
    have s4 : ∀ (m : Mem) (v : Int64), stJ m 40 (4 : Int32) v = some (m.1, upJ m.2 40 4 v) := fun m v => stJ_n (j := 4) (by decide) (by decide) (by decide) (by decide)
    rw [s0, bs, s1, bs, s2, bs, s3, bs, s4, bs]
    rfl
  have hMo : ∀ ν : Mem, M_Mo_broken (M + 9) a b c d ν = M_Mo_broken_32 (M + 9) (M + 9) (nI 0) (mxI ν.1 a b c d, ν.2) := by
    intro ν
    rw [M_Mo_broken]
    have s0 : ∀ (m : Mem) (v : Int32), stI m 37 (0 : Int32) v = some (upI m.1 37 0 v, m.2) := fun m v => stI_n (j := 0) (by decide) (by decide) (by decide) (by decide)
    have s1 : ∀ (m : Mem) (v : Int32), stI m 37 (1 : Int32) v = some (upI m.1 37 1 v, m.2) := fun m v => stI_n (j := 1) (by decide) (by decide) (by decide) (by decide)
    have s2 : ∀ (m : Mem) (v : Int32), stI m 37 (2 : Int32) v = some (upI m.1 37 2 v, m.2) := fun m v => stI_n (j := 2) (by decide) (by decide) (by decide) (by decide)
    have s3 : ∀ (m : Mem) (v : Int32), stI m 37 (3 : Int32) v = some (upI m.1 37 3 v, m.2) := fun m v => stI_n (j := 3) (by decide) (by decide) (by decide) (by decide)
    rw [s0, bs, s1, bs, s2, bs, s3, bs]
    rfl
  -- what the reference sees, over any memory that is the class's but for the longs
  have hIM : ∀ m2 : Nat → Nat → Int64, (∀ k i, k ≠ 40 → k ≠ 41 → m2 k i = μ.2 k i) → Inv (mxI μ.1 a b c d, m2) := fun m2 h => hI.ofPM (fun k i h1 => by simp [mxI, upI, h1]) h
  have q0 : ((mxI μ.1 a b c d) 37 0) = a := by simp [mxI, upI]
  have q1 : ((mxI μ.1 a b c d) 37 1) = b := by simp [mxI, upI]
  have q2 : ((mxI μ.1 a b c d) 37 2) = c := by simp [mxI, upI]
  have q3 : ((mxI μ.1 a b c d) 37 3) = d := by simp [mxI, upI]
  have q17 : ∀ i, (mxI μ.1 a b c d) 17 i = μ.1 17 i := fun i => by simp [mxI, upI]
  have stepI : ∀ (n j : Nat) (m2 : Nat → Nat → Int64) (v : Int32), j < 4 → (∀ k i, k ≠ 40 → k ≠ 41 → m2 k i = μ.2 k i) → (mxI μ.1 a b c d) 37 j = v → (0 ≤ v.toInt ∧ v.toInt ≤ (μ.1 17 j).toInt) → M_Mo_broken_32 (M + 9) (n + 1) (nI j) (mxI μ.1 a b c d, m2) = M_Mo_broken_32 (M + 9) n (nI (j + 1)) (mxI μ.1 a b c d, m2) := by
    intro n j m2 v hj h hv hb
    obtain ⟨hAm, -⟩ := hIM m2 h
    obtain ⟨cc, h0, -, h7, -⟩ := id hAm
    rw [br32 (N := M + 9) (n := n) (j := j) hj hAm h7 h0, if_pos]
    dsimp only
    rw [q17, hv]
    exact hb
  have stepO : ∀ (n j : Nat) (m2 : Nat → Nat → Int64) (v : Int32), j < 4 → (∀ k i, k ≠ 40 → k ≠ 41 → m2 k i = μ.2 k i) → (mxI μ.1 a b c d) 37 j = v → ¬ (0 ≤ v.toInt ∧ v.toInt ≤ (μ.1 17 j).toInt) → M_Mo_broken_32 (M + 9) (n + 1) (nI j) (mxI μ.1 a b c d, m2) = some (-1, (mxI μ.1 a b c d, m2)) := by
    intro n j m2 v hj h hv hb
    obtain ⟨hAm, -⟩ := hIM m2 h
    obtain ⟨cc, h0, -, h7, -⟩ := id hAm
    rw [br32 (N := M + 9) (n := n) (j := j) hj hAm h7 h0, if_neg]
    dsimp only
    rw [q17, hv]
    exact hb
  have hm2 : ∀ k i, k ≠ 40 → k ≠ 41 → ptJ μ.2 a b c d k i = μ.2 k i := fun k i h1 h2 => by simp [ptJ, upJ, h1]
  by_cases b0 : 0 ≤ a.toInt ∧ a.toInt ≤ (μ.1 17 0).toInt
  · by_cases b1 : 0 ≤ b.toInt ∧ b.toInt ≤ (μ.1 17 1).toInt
    · by_cases b2 : 0 ≤ c.toInt ∧ c.toInt ≤ (μ.1 17 2).toInt
      · by_cases b3 : 0 ≤ d.toInt ∧ d.toInt ≤ (μ.1 17 3).toInt
        · have hs := hI.1
          obtain ⟨cc, hc0, -, -, hst, -⟩ := id hs
          have t0 := hst 0 (by decide)
          have t1 := hst 1 (by decide)
          have t2 := hst 2 (by decide)
          have t3 := hst 3 (by decide)
          have hp : ∀ j, j < 5 → -1000000000000000 ≤ (ptJ μ.2 a b c d 40 j).toInt ∧ (ptJ μ.2 a b c d 40 j).toInt ≤ 1000000000000000 := fun j hj => by
            rcases (show j = 0 ∨ j = 1 ∨ j = 2 ∨ j = 3 ∨ j = 4 by omega) with rfl | rfl | rfl | rfl | rfl
            · rw [p0]; omega
            · rw [p1]; omega
            · rw [p2]; omega
            · rw [p3]; omega
            · rw [p4]; omega
          have c1 : M_RP_broken (M + 9) a b c d μ = some (nI (fstB (fun r => decide (T.testBit r = true ∧ ¬ kp (μ.1, ptJ μ.2 a b c d) r (fun i => (ptJ μ.2 a b c d 40 i).toInt) (ptJ μ.2 a b c d 40 4).toInt)) 8 0), (μ.1, holdJ (ptJ μ.2 a b c d) 40 41 7)) := by
            rw [hC, br43_in (n := M + 8) (by decide) (by dsimp only; rw [p0]; exact b0), br43_in (n := M + 7) (by decide) (by dsimp only; rw [p1]; exact b1), br43_in (n := M + 6) (by decide) (by dsimp only; rw [p2]; exact b2), br43_in (n := M + 5) (by decide) (by dsimp only; rw [p3]; exact b3)]
            show M_RP_broken_43 (M + 9) (M + 4 + 1) (nI 4) _ = _
            rw [M_RP_broken_43, if_pos (by decide), s_hold (by omega) (Or.inl rfl) (Or.inl rfl), bs]
            exact br100 (μ := (μ.1, ptJ μ.2 a b c d)) (by omega) hA5 hT h2 hro hp
          have hm3 : ∀ k i, k ≠ 40 → k ≠ 41 → holdJ (ptJ μ.2 a b c d) 40 41 7 k i = μ.2 k i := fun k i h1 h2 => by
            rw [holdJ_row h2]
            exact hm2 k i h1 h2
          have hIm := hIM _ hm3
          obtain ⟨hAm, ⟨T', hT', h2', h14', hro'⟩, -, -⟩ := id hIm
          have e2 : (mxI μ.1 a b c d) 2 0 = μ.1 2 0 := by simp [mxI, upI]
          have eT : T' = T := (nI_eq (by omega) (by omega)).mp (h2'.symm.trans (e2.trans h2))
          subst eT
          refine ⟨_, _, (mxI μ.1 a b c d, holdJ (ptJ μ.2 a b c d) 40 41 7), c1, ?_, hIm⟩
          rw [hMo]
          dsimp only
          rw [stepI (M + 8) 0 _ a (by decide) hm3 q0 b0, stepI (M + 7) 1 _ b (by decide) hm3 q1 b1, stepI (M + 6) 2 _ c (by decide) hm3 q2 b2, stepI (M + 5) 3 _ d (by decide) hm3 q3 b3]
          show M_Mo_broken_32 (M + 9) (M + 4 + 1) (nI 4) _ = _
          have hx : ∀ j, j < 4 → 0 ≤ ((mxI μ.1 a b c d) 37 j).toInt ∧ ((mxI μ.1 a b c d) 37 j).toInt ≤ 9 := fun j hj => by
            rcases (show j = 0 ∨ j = 1 ∨ j = 2 ∨ j = 3 by omega) with rfl | rfl | rfl | rfl
            · rw [q0]; omega
            · rw [q1]; omega
            · rw [q2]; omega
            · rw [q3]; omega
          rw [M_Mo_broken_32, if_pos (by decide), fb_M (by omega) hAm hT' h14' hro' hx, bs2]
          refine congrArg (fun z => some (nI z, _)) (fstB_congr 8 0 (fun i _ hi => ?_))
          have k20 : ∀ k, k ≠ 37 → (mxI μ.1 a b c d) k i = μ.1 k i := fun k hk => by simp [mxI, upI, hk]
          have kpe : kp (mxI μ.1 a b c d, holdJ (ptJ μ.2 a b c d) 40 41 7) i (fun j => ((mxI μ.1 a b c d) 37 j).toInt) 1 ↔ kp (μ.1, ptJ μ.2 a b c d) i (fun j => (ptJ μ.2 a b c d 40 j).toInt) (ptJ μ.2 a b c d 40 4).toInt := by
            have ef : fI (mxI μ.1 a b c d, holdJ (ptJ μ.2 a b c d) 40 41 7) i = fI (μ.1, ptJ μ.2 a b c d) i := by unfold fI; dsimp only; rw [k20 18 (by decide)]
            have eg : gI (mxI μ.1 a b c d, holdJ (ptJ μ.2 a b c d) 40 41 7) i = gI (μ.1, ptJ μ.2 a b c d) i := by unfold gI; dsimp only; rw [k20 19 (by decide)]
            have fe : ∀ f, frm (mxI μ.1 a b c d, holdJ (ptJ μ.2 a b c d) 40 41 7) (fun j => ((mxI μ.1 a b c d) 37 j).toInt) 1 f = frm (μ.1, ptJ μ.2 a b c d) (fun j => (ptJ μ.2 a b c d 40 j).toInt) 1 f := fun f => by
              rw [frm_congr (μ := (μ.1, ptJ μ.2 a b c d)) (fun j => by simp [mxI, upI])]
              refine frm_pt (fun j hj => ?_) 1 f
              try dsimp only
              rcases (show j = 0 ∨ j = 1 ∨ j = 2 ∨ j = 3 by omega) with rfl | rfl | rfl | rfl
              · rw [q0, p0]
              · rw [q1, p1]
              · rw [q2, p2]
              · rw [q3, p3]
            unfold kp
            rw [ef, eg, fe, fe, p4]
            dsimp only
            rw [k20 20 (by decide), k20 21 (by decide), k20 22 (by decide)]
          simp only [kpe]
        · have c1 : M_RP_broken (M + 9) a b c d μ = some (-1, (μ.1, ptJ μ.2 a b c d)) := by
            rw [hC, br43_in (n := M + 8) (by decide) (by dsimp only; rw [p0]; exact b0), br43_in (n := M + 7) (by decide) (by dsimp only; rw [p1]; exact b1), br43_in (n := M + 6) (by decide) (by dsimp only; rw [p2]; exact b2), br43_out (n := M + 5) (by decide) (by dsimp only; rw [p3]; exact b3)]
          refine ⟨-1, _, (mxI μ.1 a b c d, ptJ μ.2 a b c d), c1, ?_, hIM _ hm2⟩
          rw [hMo]
          dsimp only
          rw [stepI (M + 8) 0 _ a (by decide) hm2 q0 b0, stepI (M + 7) 1 _ b (by decide) hm2 q1 b1, stepI (M + 6) 2 _ c (by decide) hm2 q2 b2, stepO (M + 5) 3 _ d (by decide) hm2 q3 b3]
      · have c1 : M_RP_broken (M + 9) a b c d μ = some (-1, (μ.1, ptJ μ.2 a b c d)) := by
          rw [hC, br43_in (n := M + 8) (by decide) (by dsimp only; rw [p0]; exact b0), br43_in (n := M + 7) (by decide) (by dsimp only; rw [p1]; exact b1), br43_out (n := M + 6) (by decide) (by dsimp only; rw [p2]; exact b2)]
        refine ⟨-1, _, (mxI μ.1 a b c d, ptJ μ.2 a b c d), c1, ?_, hIM _ hm2⟩
        rw [hMo]
        dsimp only
        rw [stepI (M + 8) 0 _ a (by decide) hm2 q0 b0, stepI (M + 7) 1 _ b (by decide) hm2 q1 b1, stepO (M + 6) 2 _ c (by decide) hm2 q2 b2]
    · have c1 : M_RP_broken (M + 9) a b c d μ = some (-1, (μ.1, ptJ μ.2 a b c d)) := by
        rw [hC, br43_in (n := M + 8) (by decide) (by dsimp only; rw [p0]; exact b0), br43_out (n := M + 7) (by decide) (by dsimp only; rw [p1]; exact b1)]
      refine ⟨-1, _, (mxI μ.1 a b c d, ptJ μ.2 a b c d), c1, ?_, hIM _ hm2⟩
      rw [hMo]
      dsimp only
      rw [stepI (M + 8) 0 _ a (by decide) hm2 q0 b0, stepO (M + 7) 1 _ b (by decide) hm2 q1 b1]
  · have c1 : M_RP_broken (M + 9) a b c d μ = some (-1, (μ.1, ptJ μ.2 a b c d)) := by
      rw [hC, br43_out (n := M + 8) (by decide) (by dsimp only; rw [p0]; exact b0)]
    refine ⟨-1, _, (mxI μ.1 a b c d, ptJ μ.2 a b c d), c1, ?_, hIM _ hm2⟩
    rw [hMo]
    dsimp only
    rw [stepO (M + 8) 0 _ a (by decide) hm2 q0 b0]
