/-! PURE: what the reference's limits mean. -/
def rM (μ : Mem) (n k c : Nat) : Int := if c < 4 then (LV μ n k c).toInt else -(LV μ n k 4).toInt
theorem LimK.ins {μ μ' : Mem} {n : Nat} (h : LimK μ μ' n 24) : LimsIn μ' (rM μ n) := by
  intro k hk c hc
  rw [(h.2 k hk).1 c hc]
  by_cases h4 : c < 4
  · rw [if_pos h4, rM, if_pos h4]
  · rw [if_neg h4, rM, if_neg (by omega), show c = 4 by omega]; omega
theorem i1 : (1 : Int32).toInt = 1 := by decide
theorem im1 : (-1 : Int32).toInt = -1 := by decide
theorem i0 : (0 : Int32).toInt = 0 := by decide
theorem sgn_mul {s : Int32} {x : Int32} (h1 : -1000000 ≤ x.toInt) (h2 : x.toInt ≤ 1000000) : ((1 : Int32) * x).toInt = x.toInt ∧ ((-1 : Int32) * x).toInt = -x.toInt := by
  constructor
  · rw [mul32 (by rw [i1]; omega) (by rw [i1]; omega), i1]; omega
  · rw [mul32 (by rw [im1]; omega) (by rw [im1]; omega), im1]; omega
/-- a told rule's row before its sign, as the reference has it -/
theorem cf_int {μ : Mem} {n r : Nat} (hA : InvA μ) (hn : μ.1 7 0 = nI n) (hr : r < 8) (hR : RuleOK μ r) {x5 : Int32} (h5 : -100000 ≤ x5.toInt) (h6 : x5.toInt ≤ 100000) (h7 : rat r → 0 ≤ x5.toInt ∧ x5.toInt ≤ 100) {c : Nat} (hc : c < 4) :
    (cfI μ r x5 c).toInt = (μ.1 22 r).toInt * fo μ (fI μ r) c - x5.toInt * fo μ (gI μ r) c ∧ -20000 ≤ (cfI μ r x5 c).toInt ∧ (cfI μ r x5 c).toInt ≤ 20000 := by
  obtain ⟨f51, f54, f61, f64⟩ := fo_5 hA
  obtain ⟨n', -, -, -, -, -, ha, -⟩ := hA
  obtain ⟨q1, q2, q3, q4, q5, q6⟩ := hR
  have foa : ∀ w, w < 5 → fo μ w c = (μ.1 30 (5 * c + w)).toInt := fun w hw => by
    unfold fo
    rw [(ha c hc w hw).1, i2l_toInt]
  unfold cfI
  by_cases h : r < 5
  · obtain ⟨a1, a2, a3, a4, a5⟩ := q4 h
    have b := (ha c hc r h)
    have e1 : fI μ r = r := by unfold fI; rw [a1, nI_clamp (by omega)]
    have e2 : gI μ r = 6 := by unfold gI; rw [a2]; rfl
    rw [if_pos h, e1, e2, foa r h, f61 c hc, a3, i1]
    omega
  · rw [if_neg h]
    by_cases h' : 7 ≤ r
    · obtain ⟨a1, a2, a3, a4, a5⟩ := q6 (by omega)
      have e1 : fI μ r = 5 := by unfold fI; rw [a1]; rfl
      have e2 : gI μ r = 6 := by unfold gI; rw [a2]; rfl
      rw [if_pos h', e1, e2, f51 c hc, f61 c hc, a3, i1]
      omega
    · obtain ⟨⟨f, g, hf, hg, e18, e34, e19, e35⟩, e22, o1, o2, -, -⟩ := q5 (by omega)
      obtain ⟨x1, x2⟩ := h7 (by unfold rat; omega)
      have bf := ha c hc f hf
      have bg := ha c hc g hg
      have e1 : fI μ r = f := by unfold fI; rw [e18, nI_clamp (by omega)]
      have e2 : gI μ r = g := by unfold gI; rw [e19, nI_clamp (by omega)]
      rw [if_neg h', e1, e2, foa f hf, foa g hg, e34, e35, nI_clamp (by omega), nI_clamp (by omega), ← e22]
      have m1 := mul_bd (a := (μ.1 22 r).toInt) (b := (μ.1 30 (5 * c + f)).toInt) (A := 100) (B := 100) (by omega) o2 bf.2.1 bf.2.2.1
      have m2 := mul_bd (a := x5.toInt) (b := (μ.1 30 (5 * c + g)).toInt) (A := 100) (B := 100) (by omega) x2 bg.2.1 bg.2.2.1
      have k1 : (μ.1 22 r * μ.1 30 (5 * c + f)).toInt = (μ.1 22 r).toInt * (μ.1 30 (5 * c + f)).toInt := mul32 (by omega) (by omega)
      have k2 : (x5 * μ.1 30 (5 * c + g)).toInt = x5.toInt * (μ.1 30 (5 * c + g)).toInt := mul32 (by omega) (by omega)
      rw [sub32 (by omega) (by omega), k1, k2]
      omega
theorem RuleOK.lh {μ : Mem} {r : Nat} (hr : r < 8) (h : RuleOK μ r) : -100000 ≤ (μ.1 20 r).toInt ∧ (μ.1 20 r).toInt ≤ 100000 ∧ -100000 ≤ (μ.1 21 r).toInt ∧ (μ.1 21 r).toInt ≤ 100000 ∧ (rat r → 0 ≤ (μ.1 20 r).toInt ∧ (μ.1 20 r).toInt ≤ 100 ∧ 0 ≤ (μ.1 21 r).toInt ∧ (μ.1 21 r).toInt ≤ 100) := by
  obtain ⟨q1, q2, q3, q4, q5, q6⟩ := h
  by_cases h5 : r < 5
  · obtain ⟨-, -, -, a, b⟩ := q4 h5
    refine ⟨a, by omega, by omega, b, fun q => ?_⟩
    unfold rat at q
    omega
  · by_cases h7 : r = 7
    · obtain ⟨-, -, -, a, b⟩ := q6 h7
      refine ⟨by omega, by omega, by omega, by omega, fun q => ?_⟩
      unfold rat at q
      omega
    · obtain ⟨-, -, -, -, a, b⟩ := q5 (by omega)
      exact ⟨by omega, by omega, by omega, by omega, fun _ => by omega⟩
theorem rM_rule {μ : Mem} {n k : Nat} (hA : InvA μ) (hn : μ.1 7 0 = nI n) (hk : k < 16) (hR : RuleOK μ (k / 2)) :
    (∀ c, c < 4 → rM μ n k c = if c < n then rwK μ k c else 0) ∧ rM μ n k 4 = rwK μ k 4 := by
  obtain ⟨l1, l2, l3, l4, l5⟩ := hR.lh (by omega)
  obtain ⟨f51, f54, f61, f64⟩ := fo_5 hA
  have hq := hR
  obtain ⟨q1, q2, -, q4, q5, q6⟩ := hq
  constructor
  · intro c hc
    unfold rM LV vI
    rw [if_pos hc, if_pos hk, if_pos hc]
    by_cases hcn : n ≤ c
    · rw [if_pos hcn, if_neg (show ¬ c < n by omega), i0]
    · rw [if_neg hcn, if_pos (show c < n by omega)]
      unfold rwK
      by_cases hm : k % 2 = 0
      · rw [if_pos hm, if_pos hm, if_pos hm, ← q1]
        obtain ⟨e, b1, b2⟩ := cf_int hA hn (by omega) hR l1 l2 (fun h => ⟨(l5 h).1, (l5 h).2.1⟩) hc
        rw [(sgn_mul (s := 0) (by omega) (by omega)).1, e]
        unfold rwL
        rw [Int.neg_mul]
        omega
      · rw [if_neg hm, if_neg hm, if_neg hm, ← q2]
        obtain ⟨e, b1, b2⟩ := cf_int hA hn (by omega) hR l3 l4 (fun h => ⟨(l5 h).2.2.1, (l5 h).2.2.2⟩) hc
        rw [(sgn_mul (s := 0) (by omega) (by omega)).2, e]
        unfold rwH
        rw [Int.neg_mul]
        omega
  · unfold rM LV vI
    rw [if_neg (by omega), if_pos hk, if_neg (by omega)]
    have six : (k / 2 < 5 ∨ 7 ≤ k / 2) → fo μ (fI μ (k / 2)) 4 = 0 ∧ fo μ (gI μ (k / 2)) 4 = 1 := by
      intro h
      by_cases h5 : k / 2 < 5
      · obtain ⟨a1, a2, -⟩ := q4 h5
        have e1 : fI μ (k / 2) = k / 2 := by unfold fI; rw [a1, nI_clamp (by omega)]
        have e2 : gI μ (k / 2) = 6 := by unfold gI; rw [a2]; rfl
        rw [e1, e2]
        exact ⟨(fo_bd hA h5).2, f64⟩
      · obtain ⟨a1, a2, -⟩ := q6 (by omega)
        have e1 : fI μ (k / 2) = 5 := by unfold fI; rw [a1]; rfl
        have e2 : gI μ (k / 2) = 6 := by unfold gI; rw [a2]; rfl
        rw [e1, e2]
        exact ⟨f54, f64⟩
    unfold rwK
    by_cases hx : k / 2 < 5 ∨ 7 ≤ k / 2
    · obtain ⟨s1, s2⟩ := six hx
      by_cases hm : k % 2 = 0
      · rw [if_pos hx, if_pos hm, if_pos hm, if_pos hm, ← q1, (sgn_mul (s := 0) (by omega) (by omega)).1]
        unfold rwL
        rw [s1, s2]; omega
      · rw [if_pos hx, if_neg hm, if_neg hm, if_neg hm, ← q2, (sgn_mul (s := 0) (by omega) (by omega)).2]
        unfold rwH
        rw [s1, s2]; omega
    · obtain ⟨⟨f, g, hf, hg, e18, e34, e19, e35⟩, -⟩ := q5 (by omega)
      have e1 : fI μ (k / 2) = f := by unfold fI; rw [e18, nI_clamp (by omega)]
      have e2 : gI μ (k / 2) = g := by unfold gI; rw [e19, nI_clamp (by omega)]
      rw [if_neg hx, i0]
      by_cases hm : k % 2 = 0
      · rw [if_pos hm]; unfold rwL; rw [e1, e2, (fo_bd hA hf).2, (fo_bd hA hg).2]; omega
      · rw [if_neg hm]; unfold rwH; rw [e1, e2, (fo_bd hA hf).2, (fo_bd hA hg).2]; omega
theorem rM_box {μ : Mem} {n k : Nat} (hA : InvA μ) (hn : μ.1 7 0 = nI n) (hn4 : n ≤ 4) (hk : 16 ≤ k) (hk' : k < 24) :
    (∀ c, c < 4 → rM μ n k c = if c = (k - 16) / 2 then (if k % 2 = 0 then 1 else -1) else 0) ∧ rM μ n k 4 = if k % 2 = 0 then 0 else stk μ ((k - 16) / 2) := by
  obtain ⟨n', hn', -, h7, hst, -⟩ := hA
  have en : n' = n := by rw [hn] at h7; exact ((nI_eq (by omega) (by omega)).1 h7).symm
  subst en
  constructor
  · intro c hc
    unfold rM LV
    rw [if_pos hc, if_neg (by omega), if_pos hc]
    by_cases e : c = (k - 16) / 2
    · rw [if_pos e, if_pos e]
      rcases (by omega : k % 2 = 0 ∨ k % 2 = 1) with h | h
      · rw [h, if_pos rfl]; decide
      · rw [h, if_neg (by decide)]; decide
    · rw [if_neg e, if_neg e]; decide
  · unfold rM LV
    rw [if_neg (by omega), if_neg (by omega), if_neg (by omega)]
    obtain ⟨s1, s2, s3, s4⟩ := hst ((k - 16) / 2) (by omega)
    rcases (by omega : k % 2 = 0 ∨ k % 2 = 1) with h | h
    · rw [if_neg (by omega), if_pos h]; decide
    · rw [if_neg (by omega : ¬ k % 2 = 0)]
      unfold stk
      by_cases hl : (k - 16) / 2 < n'
      · rw [if_pos ⟨h, hl⟩, s1]
        have : (-μ.1 17 ((k - 16) / 2)).toInt = -(μ.1 17 ((k - 16) / 2)).toInt := by
          rw [Int32.toInt_neg, bm32 (by omega) (by omega)]
        omega
      · rw [if_neg (by omega), s4 (by omega)]; decide
