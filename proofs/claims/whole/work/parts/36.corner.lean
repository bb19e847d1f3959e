/-! PURE: points, corners, what a corner is to the class's search. -/
def fo (μ : Mem) (w c : Nat) : Int := (μ.2 (47 + w) c).toInt
def rwL (μ : Mem) (r c : Nat) : Int := (μ.1 22 r).toInt * fo μ (fI μ r) c + -(μ.1 20 r).toInt * fo μ (gI μ r) c
def rwH (μ : Mem) (r c : Nat) : Int := (μ.1 21 r).toInt * fo μ (gI μ r) c + -(μ.1 22 r).toInt * fo μ (fI μ r) c
def rwK (μ : Mem) (k : Nat) : Nat → Int := if k % 2 = 0 then rwL μ (k / 2) else rwH μ (k / 2)
def Tn (μ : Mem) : Nat := (μ.1 2 0).toNatClampNeg
def stk (μ : Mem) (j : Nat) : Int := (μ.1 17 j).toInt
def cts (μ : Mem) (j : Nat) : Int := (μ.1 29 j).toInt
def InBox (μ : Mem) (p : Nat → Int) : Prop := 0 < p 4 ∧ ∀ j, j < 4 → 0 ≤ p j ∧ p j ≤ stk μ j * p 4
def Kern (μ : Mem) (p v : Nat → Int) : Prop := (∀ j, j < 4 → (p j = 0 ∨ p j = stk μ j * p 4) → v j = 0) ∧ ∀ k, k < 16 → (Tn μ).testBit (k / 2) = true → dot5i (rwK μ k) p = 0 → dot4 (rwK μ k) v = 0
def Corner (μ : Mem) (p : Nat → Int) : Prop := InBox μ p ∧ ∀ v, Kern μ p v → ∀ j, j < 4 → v j = 0
def price (μ : Mem) (p : Nat → Int) : Int := cts μ 0 * p 0 + cts μ 1 * p 1 + cts μ 2 * p 2 + cts μ 3 * p 3
def Feas (μ : Mem) (p : Nat → Int) : Prop := ∀ r, r < 8 → (Tn μ).testBit r = true → kp μ r p (p 4)
def bad (μ : Mem) (p : Nat → Int) (r : Nat) : Bool := (Tn μ).testBit r && !decide (kp μ r p (p 4))
def uf (P : Nat → Bool) : Nat → Nat
  | 0 => 0
  | n + 1 => if P n then uf P n ||| 2 ^ n else uf P n
def unk (μ : Mem) (p : Nat → Int) : Nat := uf (bad μ p) 8
def Eqv (p p' : Nat → Int) : Prop := 0 < p 4 ∧ 0 < p' 4 ∧ ∀ j, j < 4 → p 4 * p' j = p' 4 * p j
theorem uf_bit (P : Nat → Bool) (r : Nat) : ∀ n, (uf P n).testBit r = (decide (r < n) && P r)
  | 0 => by simp [uf]
  | n + 1 => by
    unfold uf
    by_cases h : P n
    · rw [if_pos h, Nat.testBit_or, uf_bit P r n, Nat.testBit_two_pow]
      by_cases e : n = r
      · subst e; simp [h]
      · by_cases l : r < n
        · have : r < n + 1 := by omega
          simp [e, l, this]
        · have : ¬ r < n + 1 := by omega
          simp [e, l, this]
    · rw [if_neg h, uf_bit P r n]
      by_cases e : r = n
      · subst e; simp at h; simp [h]
      · by_cases l : r < n
        · have : r < n + 1 := by omega
          simp [l, this]
        · have : ¬ r < n + 1 := by omega
          simp [l, this]
theorem uf_lt' (P : Nat → Bool) : ∀ n, uf P n < 2 ^ n
  | 0 => by simp [uf]
  | n + 1 => by
    have h := uf_lt' P n
    have h2 : 2 ^ n < 2 ^ (n + 1) := Nat.pow_lt_pow_right (by omega) (by omega)
    unfold uf
    by_cases q : P n
    · rw [if_pos q]; exact Nat.or_lt_two_pow (by omega) h2
    · rw [if_neg q]; omega
theorem uf_lt (P : Nat → Bool) : uf P 8 < 256 := uf_lt' P 8
theorem eq8 {a b : Nat} (ha : a < 256) (hb : b < 256) (h : ∀ r, r < 8 → a.testBit r = b.testBit r) : a = b := by
  apply Nat.eq_of_testBit_eq
  intro i
  by_cases hi : i < 8
  · exact h i hi
  · have p : 2 ^ 8 ≤ 2 ^ i := Nat.pow_le_pow_right (by omega) (by omega)
    rw [Nat.testBit_lt_two_pow (by omega), Nat.testBit_lt_two_pow (by omega)]
theorem unk_bit (μ : Mem) (p : Nat → Int) {r : Nat} (hr : r < 8) : (unk μ p).testBit r = bad μ p r := by
  unfold unk
  rw [uf_bit]; simp [hr]
theorem feas_unk (μ : Mem) (p : Nat → Int) : Feas μ p ↔ unk μ p = 0 := by
  constructor
  · intro h
    refine eq8 (uf_lt _) (by decide) (fun r hr => ?_)
    rw [unk_bit μ p hr, Nat.zero_testBit]
    unfold bad
    by_cases ht : (Tn μ).testBit r = true
    · simp [ht, h r hr ht]
    · simp at ht; simp [ht]
  · intro h r hr ht
    have := unk_bit μ p hr
    rw [h, Nat.zero_testBit] at this
    unfold bad at this
    rw [ht] at this
    simpa using this
theorem frm_dot {μ : Mem} (hA : InvA μ) (p : Nat → Int) {w : Nat} (hw : w < 7) : dot5i (fo μ w) p = frm μ p (p 4) w := by
  obtain ⟨n, -, -, -, -, -, ha, g6, g7, g8, g9, g10⟩ := hA
  unfold dot5i fo frm
  by_cases h5 : w < 5
  · rw [if_pos h5, (ha 0 (by omega) w h5).1, (ha 1 (by omega) w h5).1, (ha 2 (by omega) w h5).1, (ha 3 (by omega) w h5).1, g6 w h5]
    simp only [i2l_toInt]
    unfold hv amt
    have : (0 : Int64).toInt = 0 := rfl
    rw [this]; grind
  · have o1 : (1 : Int64).toInt = 1 := rfl
    have o0 : (0 : Int64).toInt = 0 := rfl
    rw [if_neg h5]
    by_cases h6 : w = 5
    · subst h6
      rw [if_pos rfl]
      show (μ.2 52 0).toInt * _ + (μ.2 52 1).toInt * _ + (μ.2 52 2).toInt * _ + (μ.2 52 3).toInt * _ + (μ.2 52 4).toInt * _ = _
      rw [g7 0 (by omega), g7 1 (by omega), g7 2 (by omega), g7 3 (by omega), g8, o1, o0]; grind
    · have e : w = 6 := by omega
      subst e
      rw [if_neg h6]
      show (μ.2 53 0).toInt * _ + (μ.2 53 1).toInt * _ + (μ.2 53 2).toInt * _ + (μ.2 53 3).toInt * _ + (μ.2 53 4).toInt * _ = _
      rw [g9 0 (by omega), g9 1 (by omega), g9 2 (by omega), g9 3 (by omega), g10, o1, o0]; grind
theorem dot5i_lin (r r' p : Nat → Int) (a b : Int) : dot5i (fun c => a * r c + b * r' c) p = a * dot5i r p + b * dot5i r' p := by
  unfold dot5i; grind
theorem dot4_lin (r r' p : Nat → Int) (a b : Int) : dot4 (fun c => a * r c + b * r' c) p = a * dot4 r p + b * dot4 r' p := by
  unfold dot4; grind
theorem rwL_d5 (μ : Mem) (r : Nat) (p : Nat → Int) : dot5i (rwL μ r) p = (μ.1 22 r).toInt * dot5i (fo μ (fI μ r)) p + -(μ.1 20 r).toInt * dot5i (fo μ (gI μ r)) p := dot5i_lin ..
theorem rwH_d5 (μ : Mem) (r : Nat) (p : Nat → Int) : dot5i (rwH μ r) p = (μ.1 21 r).toInt * dot5i (fo μ (gI μ r)) p + -(μ.1 22 r).toInt * dot5i (fo μ (fI μ r)) p := dot5i_lin ..
theorem rwL_d4 (μ : Mem) (r : Nat) (p : Nat → Int) : dot4 (rwL μ r) p = (μ.1 22 r).toInt * dot4 (fo μ (fI μ r)) p + -(μ.1 20 r).toInt * dot4 (fo μ (gI μ r)) p := dot4_lin ..
theorem rwH_d4 (μ : Mem) (r : Nat) (p : Nat → Int) : dot4 (rwH μ r) p = (μ.1 21 r).toInt * dot4 (fo μ (gI μ r)) p + -(μ.1 22 r).toInt * dot4 (fo μ (fI μ r)) p := dot4_lin ..
theorem kp_rows {μ : Mem} (hA : InvA μ) {r : Nat} (hf : fI μ r < 7) (hg : gI μ r < 7) (p : Nat → Int) : kp μ r p (p 4) ↔ 0 ≤ dot5i (rwL μ r) p ∧ 0 ≤ dot5i (rwH μ r) p := by
  rw [rwL_d5, rwH_d5, frm_dot hA p hf, frm_dot hA p hg]
  unfold kp
  rw [Int.neg_mul, Int.neg_mul]
  omega
theorem eqv_dot {p p' : Nat → Int} (h : Eqv p p') (r : Nat → Int) : p 4 * dot5i r p' = p' 4 * dot5i r p := by
  obtain ⟨-, -, h⟩ := h
  have h0 := h 0 (by omega)
  have h1 := h 1 (by omega)
  have h2 := h 2 (by omega)
  have h3 := h 3 (by omega)
  unfold dot5i
  grind
theorem scale_nn {a b x y : Int} (ha : 0 < a) (hb : 0 < b) (h : a * y = b * x) : (0 ≤ y ↔ 0 ≤ x) := by
  constructor
  · intro q
    apply Classical.byContradiction
    intro n
    have h1 : 0 ≤ a * y := Int.mul_nonneg (by omega) q
    have h2 : b * x < 0 := Int.mul_neg_of_pos_of_neg hb (by omega)
    omega
  · intro q
    apply Classical.byContradiction
    intro n
    have h1 : 0 ≤ b * x := Int.mul_nonneg (by omega) q
    have h2 : a * y < 0 := Int.mul_neg_of_pos_of_neg ha (by omega)
    omega
theorem eqv_kp {μ : Mem} (hA : InvA μ) {p p' : Nat → Int} (h : Eqv p p') {r : Nat} (hf : fI μ r < 7) (hg : gI μ r < 7) : kp μ r p' (p' 4) ↔ kp μ r p (p 4) := by
  rw [kp_rows hA hf hg, kp_rows hA hf hg, scale_nn h.1 h.2.1 (eqv_dot h _), scale_nn h.1 h.2.1 (eqv_dot h _)]
theorem told_lt {μ : Mem} (hR : InvR μ) {r : Nat} (hr : r < 8) (ht : (Tn μ).testBit r = true) : RuleOK μ r := by
  obtain ⟨T, hT, h2, -, h⟩ := hR
  have e : Tn μ = T := by unfold Tn; rw [h2, nI_clamp (by omega)]
  rw [e] at ht
  exact h r hr ht
theorem told_fg {μ : Mem} (hR : InvR μ) {r : Nat} (hr : r < 8) (ht : (Tn μ).testBit r = true) : fI μ r < 7 ∧ gI μ r < 7 ∧ 1 ≤ (μ.1 22 r).toInt ∧ (μ.1 20 r).toInt ≤ (μ.1 21 r).toInt := by
  have hk := told_lt hR hr ht
  obtain ⟨f, g, hf, hg, -, -, e1, e2, -, -, -, -, h, -⟩ := rule_facts hr hk
  exact ⟨by omega, by omega, h, hk.2.2.1⟩
theorem eqv_unk {μ : Mem} (hA : InvA μ) (hR : InvR μ) {p p' : Nat → Int} (h : Eqv p p') : unk μ p' = unk μ p := by
  refine eq8 (uf_lt _) (uf_lt _) (fun r hr => ?_)
  rw [unk_bit μ p' hr, unk_bit μ p hr]
  unfold bad
  by_cases ht : (Tn μ).testBit r = true
  · obtain ⟨hf, hg, -, -⟩ := told_fg hR hr ht
    have := eqv_kp hA h hf hg
    rw [decide_eq_decide.mpr this]
  · simp at ht; simp [ht]
theorem eqv_price (μ : Mem) {p p' : Nat → Int} (h : Eqv p p') : p 4 * price μ p' = p' 4 * price μ p := by
  obtain ⟨-, -, h⟩ := h
  have h0 := h 0 (by omega)
  have h1 := h 1 (by omega)
  have h2 := h 2 (by omega)
  have h3 := h 3 (by omega)
  unfold price
  grind
theorem Eqv.symm {p p' : Nat → Int} (h : Eqv p p') : Eqv p' p := ⟨h.2.1, h.1, fun j hj => (h.2.2 j hj).symm⟩
/-- same point: rows that are tight at both, lots not free at equal ends -/
theorem same_point {R : List (Nat → Int)} {F : Nat} {p q : Nat → Int} (hF : F < 16) (hz : mn R F ≠ 0) (hp : ∀ r, r ∈ R → dot5i r p = 0) (hq : ∀ r, r ∈ R → dot5i r q = 0) (he : ∀ j, j < 4 → F.testBit j = false → q 4 * p j = p 4 * q j) : ∀ j, j < 4 → q 4 * p j = p 4 * q j := by
  have hk := mn_ker (R := R) (v := fun j => q 4 * p j - p 4 * q j) (fun r hr => by
    have h1 := hp r hr
    have h2 := hq r hr
    unfold dot5i at h1 h2
    unfold dot4
    grind) F hF (fun j hj hb => by have := he j hj hb; show q 4 * p j - p 4 * q j = 0; omega)
  intro j hj
  by_cases hb : F.testBit j = true
  · have h := hk j hj hb
    rcases Int.mul_eq_zero.mp h with h | h
    · exact absurd h hz
    · omega
  · exact he j hj (by simpa using hb)
def mk4 (P : Nat → Bool) : Nat := (if P 0 then 1 else 0) + (if P 1 then 2 else 0) + (if P 2 then 4 else 0) + (if P 3 then 8 else 0)
theorem mk4_bit (P : Nat → Bool) : mk4 P < 16 ∧ ∀ j, j < 4 → (mk4 P).testBit j = P j := by
  have key : ∀ a b c d : Bool, ((if a then 1 else 0) + (if b then 2 else 0) + (if c then 4 else 0) + (if d then 8 else 0) : Nat) < 16 ∧ ((if a then 1 else 0) + (if b then 2 else 0) + (if c then 4 else 0) + (if d then 8 else 0) : Nat).testBit 0 = a ∧ ((if a then 1 else 0) + (if b then 2 else 0) + (if c then 4 else 0) + (if d then 8 else 0) : Nat).testBit 1 = b ∧ ((if a then 1 else 0) + (if b then 2 else 0) + (if c then 4 else 0) + (if d then 8 else 0) : Nat).testBit 2 = c ∧ ((if a then 1 else 0) + (if b then 2 else 0) + (if c then 4 else 0) + (if d then 8 else 0) : Nat).testBit 3 = d := by decide
  obtain ⟨h, h0, h1, h2, h3⟩ := key (P 0) (P 1) (P 2) (P 3)
  refine ⟨h, fun j hj => ?_⟩
  have hj' : j = 0 ∨ j = 1 ∨ j = 2 ∨ j = 3 := by omega
  rcases hj' with rfl | rfl | rfl | rfl
  · exact h0
  · exact h1
  · exact h2
  · exact h3
