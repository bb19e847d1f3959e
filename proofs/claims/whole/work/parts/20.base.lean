/-! PURE: numbers, memory, what holds between calls. -/
theorem cmp_lt (x y : Int64) : (lg_cmp x y < 0) ↔ x < y := by
  unfold lg_cmp
  by_cases h1 : x > y
  · simp only [h1, if_true]
    have : ¬ x < y := by simp only [Int64.lt_iff_toInt_lt, gt_iff_lt] at *; omega
    simp [this]
  · by_cases h2 : x = y
    · subst h2
      simp [h1]
    · have h3 : x < y := by
        simp only [Int64.lt_iff_toInt_lt, gt_iff_lt, ← Int64.toInt_inj] at *; omega
      simp [h1, h2, h3]
theorem cmp_gt (x y : Int64) : (0 < lg_cmp x y) ↔ y < x := by
  unfold lg_cmp
  by_cases h1 : x > y
  · simp [h1]
  · by_cases h2 : x = y
    · subst h2
      simp [h1]
    · simp only [h1, h2, if_false]
      have h4 : ¬ y < x := h1
      simp [h4]
theorem cmp_eq (x y : Int64) : (lg_cmp x y = 0) ↔ x = y := by
  unfold lg_cmp
  by_cases h1 : x > y
  · have h2 : ¬ x = y := by simp only [Int64.lt_iff_toInt_lt, gt_iff_lt, ← Int64.toInt_inj] at *; omega
    simp [h1, h2]
  · by_cases h2 : x = y
    · subst h2
      simp [h1]
    · simp [h1, h2]
theorem cmp_le (x y : Int64) : (lg_cmp x y ≤ 0) ↔ x ≤ y := by
  have h : (lg_cmp x y ≤ 0) ↔ ¬ 0 < lg_cmp x y := by simp only [Int32.le_iff_toInt_le, Int32.lt_iff_toInt_lt]; omega
  rw [h, cmp_gt]
  simp only [Int64.le_iff_toInt_le, Int64.lt_iff_toInt_lt]; omega
theorem cmp_ge (x y : Int64) : (0 ≤ lg_cmp x y) ↔ y ≤ x := by
  have h : (0 ≤ lg_cmp x y) ↔ ¬ lg_cmp x y < 0 := by simp only [Int32.le_iff_toInt_le, Int32.lt_iff_toInt_lt]; omega
  rw [h, cmp_lt]
  simp only [Int64.le_iff_toInt_le, Int64.lt_iff_toInt_lt]; omega
def b01 (c : Prop) [Decidable c] : Int32 := if c then 1 else 0
theorem okZ_b01 (c : Prop) [Decidable c] : okZ (b01 c) = some (b01 c) := by
  unfold okZ b01
  by_cases h : c <;> simp [h]
theorem reZ_b01 (c : Prop) [Decidable c] (μ : Mem) : reZ (b01 c) μ = some (b01 c, μ) := by
  unfold reZ b01
  by_cases h : c <;> simp [h]
theorem b01_0 (c : Prop) [Decidable c] : (b01 c = 0) ↔ ¬ c := by
  unfold b01
  by_cases h : c <;> simp [h]
theorem okZ_0 : okZ 0 = some 0 := by simp [okZ]
theorem okZ_1 : okZ 1 = some 1 := by simp [okZ]
theorem reZ_0 (μ : Mem) : reZ 0 μ = some (0, μ) := by simp [reZ]
theorem reZ_1 (μ : Mem) : reZ 1 μ = some (1, μ) := by simp [reZ]
theorem s_within (N : Nat) (x lo hi : Int64) : M_RP_within N x lo hi = some (b01 (lo ≤ x ∧ x ≤ hi)) := by
  unfold M_RP_within
  simp only [cmp_gt, okZ_0, okZ_1]
  unfold b01
  by_cases h1 : x < lo
  · have : ¬ (lo ≤ x ∧ x ≤ hi) := by simp only [Int64.le_iff_toInt_le, Int64.lt_iff_toInt_lt] at *; omega
    simp [h1, this]
  · by_cases h2 : hi < x
    · have : ¬ (lo ≤ x ∧ x ≤ hi) := by simp only [Int64.le_iff_toInt_le, Int64.lt_iff_toInt_lt] at *; omega
      simp [h1, h2, this]
    · have : lo ≤ x ∧ x ≤ hi := by simp only [Int64.le_iff_toInt_le, Int64.lt_iff_toInt_lt] at *; omega
      simp [h1, h2, this]
theorem s_isIn (N : Nat) (x lo hi : Int64) : M_Mo_isIn N x lo hi = some (b01 (lo ≤ x ∧ x ≤ hi)) := by
  unfold M_Mo_isIn
  simp only [cmp_gt, cmp_lt, okZ_0, okZ_1]
  unfold b01
  by_cases h1 : x < lo
  · have : ¬ (lo ≤ x ∧ x ≤ hi) := by simp only [Int64.le_iff_toInt_le, Int64.lt_iff_toInt_lt] at *; omega
    simp [h1, this]
  · by_cases h2 : hi < x
    · have : ¬ (lo ≤ x ∧ x ≤ hi) := by simp only [Int64.le_iff_toInt_le, Int64.lt_iff_toInt_lt] at *; omega
      simp [h1, h2, this]
    · have : lo ≤ x ∧ x ≤ hi := by simp only [Int64.le_iff_toInt_le, Int64.lt_iff_toInt_lt] at *; omega
      simp [h1, h2, this]
theorem i2l_toInt (x : Int32) : x.toInt64.toInt = x.toInt := Int32.toInt_toInt64 x
theorem s_isRange (N : Nat) (x y lo hi : Int32) : M_RP_isRange N x y lo hi = some (b01 (lo ≤ x ∧ x ≤ y ∧ y ≤ hi)) := by
  unfold M_RP_isRange
  simp only [okZ_0, okZ_1]
  unfold b01
  by_cases h1 : x < lo
  · have : ¬ (lo ≤ x ∧ x ≤ y ∧ y ≤ hi) := by simp only [Int32.le_iff_toInt_le, Int32.lt_iff_toInt_lt] at *; omega
    simp [h1, this]
  · by_cases h2 : y < x
    · have : ¬ (lo ≤ x ∧ x ≤ y ∧ y ≤ hi) := by simp only [Int32.le_iff_toInt_le, Int32.lt_iff_toInt_lt] at *; omega
      simp [h1, h2, this]
    · by_cases h3 : hi < y
      · have : ¬ (lo ≤ x ∧ x ≤ y ∧ y ≤ hi) := by simp only [Int32.le_iff_toInt_le, Int32.lt_iff_toInt_lt] at *; omega
        simp [h1, h2, h3, this]
      · have : lo ≤ x ∧ x ≤ y ∧ y ≤ hi := by simp only [Int32.le_iff_toInt_le, Int32.lt_iff_toInt_lt] at *; omega
        simp [h1, h2, h3, this]
theorem b01_congr {c d : Prop} [Decidable c] [Decidable d] (h : c ↔ d) : b01 c = b01 d := by
  unfold b01
  by_cases hc : c
  · simp [hc, h.mp hc]
  · have hd : ¬ d := fun q => hc (h.mpr q)
    simp [hc, hd]
theorem s_isWhat (N : Nat) (x : Int32) : M_RP_isWhat N x = some (b01 (0 ≤ x.toInt ∧ x.toInt < 5)) := by
  unfold M_RP_isWhat
  rw [s_within]
  show okZ (b01 _) = _
  rw [okZ_b01]
  refine congrArg some (b01_congr ?_)
  rw [Int64.le_iff_toInt_le, Int64.le_iff_toInt_le, i2l_toInt]
  show (0 : Int) ≤ _ ∧ _ ≤ (4 : Int) ↔ _
  omega
theorem s_isWhatM (N : Nat) (x : Int32) : M_Mo_isWhat N x = some (b01 (0 ≤ x.toInt ∧ x.toInt < 5)) := by
  unfold M_Mo_isWhat
  simp only [okZ_0, okZ_1]
  have e1 : (x < 0) ↔ x.toInt < 0 := by rw [Int32.lt_iff_toInt_lt]; rfl
  have e2 : (5 ≤ x) ↔ 5 ≤ x.toInt := by rw [Int32.le_iff_toInt_le]; rfl
  unfold b01
  by_cases h1 : x < 0
  · have := e1.mp h1
    rw [if_pos h1, if_neg (by omega)]
  · by_cases h2 : 5 ≤ x
    · have := e2.mp h2
      rw [if_neg h1, if_pos h2, if_neg (by omega)]
    · rw [if_neg h1, if_neg h2, if_pos (by rw [e1] at h1; rw [e2] at h2; omega)]
/-- an index that is a small number -/
theorem in_nI {j n : Nat} (h : j < n) (hn : n < 2 ^ 31) : ¬ (nI j < 0 ∨ n ≤ (nI j).toNatClampNeg) := nI_in h hn
theorem ldI_n {μ : Mem} {k j : Nat} (h1 : 17 ≤ k) (h2 : k < 40) (hj : j < lnI k) (hs : lnI k < 2 ^ 31) : ldI μ k (nI j) = some (μ.1 k j) := by
  unfold ldI
  rw [if_pos ⟨⟨h1, h2⟩, in_nI hj hs⟩, nI_clamp (by omega)]
theorem ldZ_n {μ : Mem} {k j : Nat} (h1 : 13 ≤ k) (h2 : k < 17) (hj : j < lnI k) (hs : lnI k < 2 ^ 31) : ldZ μ k (nI j) = some (μ.1 k j) := by
  unfold ldZ
  rw [if_pos ⟨⟨h1, h2⟩, in_nI hj hs⟩, nI_clamp (by omega)]
theorem ldJ_n {μ : Mem} {k j : Nat} (h1 : 40 ≤ k) (h2 : k < 85) (hj : j < lnJ k) (hs : lnJ k < 2 ^ 31) : ldJ μ k (nI j) = some (μ.2 k j) := by
  unfold ldJ
  rw [if_pos ⟨⟨h1, h2⟩, in_nI hj hs⟩, nI_clamp (by omega)]
theorem ldA_n {k j : Nat} (h1 : 8 ≤ k) (h2 : k < 13) (hj : j < outN k) (hs : outN k < 2 ^ 31) : ldA k (nI j) = some (outB k + j) := by
  unfold ldA
  rw [if_pos ⟨⟨h1, h2⟩, in_nI hj hs⟩, nI_clamp (by omega)]
theorem stI_n {μ : Mem} {k j : Nat} {v : Int32} (h1 : 17 ≤ k) (h2 : k < 40) (hj : j < lnI k) (hs : lnI k < 2 ^ 31) : stI μ k (nI j) v = some (upI μ.1 k j v, μ.2) := by
  unfold stI
  rw [if_pos ⟨⟨h1, h2⟩, in_nI hj hs⟩, nI_clamp (by omega)]
theorem stZ_n {μ : Mem} {k j : Nat} {v : Int32} (h1 : 13 ≤ k) (h2 : k < 17) (hv : v = 0 ∨ v = 1) (hj : j < lnI k) (hs : lnI k < 2 ^ 31) : stZ μ k (nI j) v = some (upI μ.1 k j v, μ.2) := by
  unfold stZ
  rw [if_pos ⟨⟨⟨h1, h2⟩, hv⟩, in_nI hj hs⟩, nI_clamp (by omega)]
theorem stJ_n {μ : Mem} {k j : Nat} {v : Int64} (h1 : 40 ≤ k) (h2 : k < 85) (hj : j < lnJ k) (hs : lnJ k < 2 ^ 31) : stJ μ k (nI j) v = some (μ.1, upJ μ.2 k j v) := by
  unfold stJ
  rw [if_pos ⟨⟨h1, h2⟩, in_nI hj hs⟩, nI_clamp (by omega)]
/-- lots: how many, stocks, cents, amounts; the class's and the reference's agree -/
def InvA (μ : Mem) : Prop := ∃ n : Nat, n ≤ 4 ∧ μ.1 1 0 = nI n ∧ μ.1 7 0 = nI n ∧
  (∀ i, i < 4 → μ.1 28 i = μ.1 17 i ∧ 0 ≤ (μ.1 17 i).toInt ∧ (μ.1 17 i).toInt ≤ 9 ∧ (n ≤ i → μ.1 17 i = 0)) ∧
  (∀ i, i < 4 → μ.2 42 i = (μ.1 29 i).toInt64 ∧ -1000 ≤ (μ.1 29 i).toInt ∧ (μ.1 29 i).toInt ≤ 1000 ∧ (n ≤ i → μ.1 29 i = 0)) ∧
  (∀ i, i < 4 → ∀ w, w < 5 → μ.2 (47 + w) i = (μ.1 30 (5 * i + w)).toInt64 ∧ -100 ≤ (μ.1 30 (5 * i + w)).toInt ∧ (μ.1 30 (5 * i + w)).toInt ≤ 100 ∧ (n ≤ i → μ.1 30 (5 * i + w) = 0)) ∧
  (∀ w, w < 5 → μ.2 (47 + w) 4 = 0) ∧ (∀ i, i < 4 → μ.2 52 i = 1) ∧ μ.2 52 4 = 0 ∧ (∀ i, i < 4 → μ.2 53 i = 0) ∧ μ.2 53 4 = 1
/-- a told rule -/
def RuleOK (μ : Mem) (r : Nat) : Prop := μ.1 20 r = μ.1 31 r ∧ μ.1 21 r = μ.1 32 r ∧ (μ.1 20 r).toInt ≤ (μ.1 21 r).toInt ∧
  (r < 5 → μ.1 18 r = nI r ∧ μ.1 19 r = 6 ∧ μ.1 22 r = 1 ∧ -100000 ≤ (μ.1 20 r).toInt ∧ (μ.1 21 r).toInt ≤ 100000) ∧
  (r = 5 ∨ r = 6 → (∃ f g : Nat, f < 5 ∧ g < 5 ∧ μ.1 18 r = nI f ∧ μ.1 34 r = nI f ∧ μ.1 19 r = nI g ∧ μ.1 35 r = nI g) ∧ μ.1 22 r = μ.1 33 r ∧ 1 ≤ (μ.1 22 r).toInt ∧ (μ.1 22 r).toInt ≤ 100 ∧ 0 ≤ (μ.1 20 r).toInt ∧ (μ.1 21 r).toInt ≤ 100) ∧
  (r = 7 → μ.1 18 r = 5 ∧ μ.1 19 r = 6 ∧ μ.1 22 r = 1 ∧ 0 ≤ (μ.1 20 r).toInt ∧ (μ.1 21 r).toInt ≤ 36)
def InvR (μ : Mem) : Prop := ∃ T : Nat, T < 256 ∧ μ.1 2 0 = nI T ∧ (∀ r, r < 8 → μ.1 14 r = if T.testBit r then 1 else 0) ∧ ∀ r, r < 8 → T.testBit r = true → RuleOK μ r
/-- the whats of a ratio, told or not, are whats: the reference reads them all -/
def InvX (μ : Mem) : Prop := ∀ r, r = 5 ∨ r = 6 → ∃ f g : Nat, f < 5 ∧ g < 5 ∧ μ.1 34 r = nI f ∧ μ.1 35 r = nI g
/-- scratch that must stand as it is: what CutSearch has to clear, and rows that stay 0 -/
def InvS (μ : Mem) : Prop := (∃ bc : Nat, bc ≤ 256 ∧ μ.1 4 8 = nI bc ∧ (∀ i, i < bc → ∃ b : Nat, b < 256 ∧ μ.1 24 i = nI b) ∧ ∀ k, k < 256 → μ.1 13 k = 0 ∨ ∃ i, i < bc ∧ μ.1 24 i = nI k) ∧
  (∀ j, j < 16 → μ.2 84 j = 0) ∧ μ.2 45 4 = 0 ∧ InvX μ
/-- what the last run() found -/
def InvF (μ : Mem) : Prop :=
  (μ.1 7 10 = 3 ∧ μ.1 6 0 = 0 ∧ μ.1 6 4 = 0 ∧ μ.1 6 7 = 0) ∨
  (μ.1 7 10 = 0 ∧ μ.1 6 0 = 1 ∧ (∃ n : Nat, n ≤ 4 ∧ μ.1 6 1 = nI n ∧ μ.1 7 11 = nI n) ∧ (∀ i, i < 4 → μ.1 27 i = μ.1 36 i) ∧ μ.2 6 3 = μ.2 7 13 ∧ μ.1 6 4 = 1 ∧ μ.2 6 5 = μ.2 7 14 ∧ μ.2 6 6 = μ.2 7 15 ∧ μ.1 6 7 = 0) ∨
  (μ.1 7 10 = 1 ∧ μ.1 6 0 = 0 ∧ μ.1 6 4 = 1 ∧ μ.2 6 5 = μ.2 7 14 ∧ μ.2 6 6 = μ.2 7 15 ∧ μ.1 6 7 = 0) ∨
  (μ.1 7 10 = 2 ∧ μ.1 6 0 = 0 ∧ μ.1 6 4 = 0 ∧ ∃ S : Nat, 0 < S ∧ S < 256 ∧ μ.1 6 7 = nI S ∧ μ.1 7 16 = nI S)
def Inv (μ : Mem) : Prop := InvA μ ∧ InvR μ ∧ InvS μ ∧ InvF μ
