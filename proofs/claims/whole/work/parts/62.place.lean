/-! PURE: WholeSearch.place, take and offer. -/
def pc (x : Nat → Nat) : Nat → Nat
  | 0 => 0
  | l + 1 => pc x l + x l * 10 ^ (3 - l)
def sv (row : Nat → Int) (x : Nat → Nat) : Nat → Int
  | 0 => row 4
  | l + 1 => sv row x l + row l * (x l : Int)
def spn (μ0 : Mem) (x : Nat → Nat) : Nat → Int
  | 0 => 0
  | l + 1 => spn μ0 x l + cts μ0 l * (x l : Int)
def tl (row : Nat → Int) (y : Nat) : Nat → Int
  | 0 => 0
  | j + 1 => tl row y j + row (3 - j) * (dgt y (3 - j) : Int)
theorem dg_0 (y : Nat) : dgt y 0 = y / 1000 % 10 := rfl
theorem dg_1 (y : Nat) : dgt y 1 = y / 100 % 10 := rfl
theorem dg_2 (y : Nat) : dgt y 2 = y / 10 % 10 := rfl
theorem dg_3 (y : Nat) : dgt y 3 = y % 10 := by unfold dgt; simp
theorem pc_1 (x : Nat → Nat) : pc x 1 = x 0 * 1000 := by simp [pc]
theorem pc_2 (x : Nat → Nat) : pc x 2 = x 0 * 1000 + x 1 * 100 := by simp [pc]
theorem pc_3 (x : Nat → Nat) : pc x 3 = x 0 * 1000 + x 1 * 100 + x 2 * 10 := by simp [pc]
theorem pc_4 (x : Nat → Nat) : pc x 4 = x 0 * 1000 + x 1 * 100 + x 2 * 10 + x 3 := by simp [pc]
theorem pc_dg {x : Nat → Nat} {l y : Nat} (hl : l ≤ 4) (hx : ∀ i, i < l → x i ≤ 9) (h1 : pc x l ≤ y) (h2 : y < pc x l + 10 ^ (4 - l)) : ∀ i, i < l → dgt y i = x i := by
  intro i hi
  rcases (by omega : l = 0 ∨ l = 1 ∨ l = 2 ∨ l = 3 ∨ l = 4) with rfl | rfl | rfl | rfl | rfl
  · omega
  · have a := hx 0 (by omega)
    rw [pc_1] at h1 h2
    rw [show i = 0 by omega, dg_0]; omega
  · have a := hx 0 (by omega)
    have b := hx 1 (by omega)
    rw [pc_2] at h1 h2
    rcases (by omega : i = 0 ∨ i = 1) with rfl | rfl
    · rw [dg_0]; omega
    · rw [dg_1]; omega
  · have a := hx 0 (by omega)
    have b := hx 1 (by omega)
    have c := hx 2 (by omega)
    rw [pc_3] at h1 h2
    rcases (by omega : i = 0 ∨ i = 1 ∨ i = 2) with rfl | rfl | rfl
    · rw [dg_0]; omega
    · rw [dg_1]; omega
    · rw [dg_2]; omega
  · have a := hx 0 (by omega)
    have b := hx 1 (by omega)
    have c := hx 2 (by omega)
    have d := hx 3 (by omega)
    rw [pc_4] at h1 h2
    rcases (by omega : i = 0 ∨ i = 1 ∨ i = 2 ∨ i = 3) with rfl | rfl | rfl | rfl
    · rw [dg_0]; omega
    · rw [dg_1]; omega
    · rw [dg_2]; omega
    · rw [dg_3]; omega
theorem pc_nx {x : Nat → Nat} {l y : Nat} (hl : l < 4) (hx : ∀ i, i < l → x i ≤ 9) (h1 : pc x l ≤ y) (h2 : y < pc x l + 10 ^ (4 - l)) : pc x l + dgt y l * 10 ^ (3 - l) ≤ y ∧ y < pc x l + (dgt y l + 1) * 10 ^ (3 - l) := by
  rcases (by omega : l = 0 ∨ l = 1 ∨ l = 2 ∨ l = 3) with rfl | rfl | rfl | rfl
  · have e : pc x 0 = 0 := rfl
    rw [e] at h1 h2 ⊢
    rw [dg_0]; omega
  · have a := hx 0 (by omega)
    rw [pc_1] at h1 h2 ⊢
    rw [dg_1]; omega
  · have a := hx 0 (by omega)
    have b := hx 1 (by omega)
    rw [pc_2] at h1 h2 ⊢
    rw [dg_2]; omega
  · have a := hx 0 (by omega)
    have b := hx 1 (by omega)
    have c := hx 2 (by omega)
    rw [pc_3] at h1 h2 ⊢
    rw [dg_3]; omega
theorem sv_congr {row : Nat → Int} {x y : Nat → Nat} : ∀ l, (∀ i, i < l → x i = y i) → sv row x l = sv row y l := by
  intro l
  induction l with
  | zero => exact fun _ => rfl
  | succ l ih => intro h; unfold sv; rw [ih (fun i hi => h i (by omega)), h l (by omega)]
theorem spn_congr {μ0 : Mem} {x y : Nat → Nat} : ∀ l, (∀ i, i < l → x i = y i) → spn μ0 x l = spn μ0 y l := by
  intro l
  induction l with
  | zero => exact fun _ => rfl
  | succ l ih => intro h; unfold spn; rw [ih (fun i hi => h i (by omega)), h l (by omega)]
theorem pc_congr {x y : Nat → Nat} : ∀ l, (∀ i, i < l → x i = y i) → pc x l = pc y l := by
  intro l
  induction l with
  | zero => exact fun _ => rfl
  | succ l ih => intro h; unfold pc; rw [ih (fun i hi => h i (by omega)), h l (by omega)]
theorem sv_tl (row : Nat → Int) (y : Nat) {l : Nat} (hl : l ≤ 4) : sv row (dgt y) 4 = sv row (dgt y) l + tl row y (4 - l) := by
  rcases (by omega : l = 0 ∨ l = 1 ∨ l = 2 ∨ l = 3 ∨ l = 4) with rfl | rfl | rfl | rfl | rfl
  · simp only [sv, tl]; simp; omega
  · simp only [sv, tl]; simp; omega
  · simp only [sv, tl]; simp; omega
  · simp only [sv, tl]; simp
  · exact (Int.add_zero _).symm
theorem spn_tl (μ0 : Mem) (y : Nat) {l : Nat} (hl : l ≤ 4) : spn μ0 (dgt y) 4 = spn μ0 (dgt y) l + tl (cts μ0) y (4 - l) := by
  rcases (by omega : l = 0 ∨ l = 1 ∨ l = 2 ∨ l = 3 ∨ l = 4) with rfl | rfl | rfl | rfl | rfl
  · simp only [spn, tl]; simp; omega
  · simp only [spn, tl]; simp; omega
  · simp only [spn, tl]; simp; omega
  · simp only [spn, tl]; simp
  · exact (Int.add_zero _).symm
theorem spn_price (μ0 : Mem) (y : Nat) : spn μ0 (dgt y) 4 = price μ0 (mx y) := by
  unfold price mx
  simp only [spn]
  omega
theorem term_le {a d s : Int} (h1 : 0 ≤ d) (h2 : d ≤ s) : a * d ≤ mxI0 (a * s) ∧ mnI0 (a * s) ≤ a * d := by
  unfold mxI0 mnI0
  by_cases ha : 0 ≤ a
  · have x1 := Int.mul_le_mul_of_nonneg_left h2 ha
    have x2 := Int.mul_nonneg ha h1
    have x3 := Int.mul_nonneg ha (show 0 ≤ s by omega)
    constructor
    · rw [if_pos x3]; exact x1
    · by_cases z : a * s ≤ 0
      · rw [if_pos z]; omega
      · rw [if_neg z]; exact x2
  · have x1 := Int.mul_le_mul_of_nonpos_left (show a ≤ 0 by omega) h2
    have x2 := Int.mul_nonneg (show 0 ≤ -a by omega) h1
    have x3 := Int.mul_nonneg (show 0 ≤ -a by omega) (show 0 ≤ s by omega)
    rw [Int.neg_mul] at x2 x3
    constructor
    · by_cases z : 0 ≤ a * s
      · rw [if_pos z]; omega
      · rw [if_neg z]; omega
    · rw [if_pos (by omega)]; exact x1
theorem tl_rch {μ0 : Mem} {y : Nat} (h : boxD μ0 y) (row : Nat → Int) : ∀ j, j ≤ 4 → tl row y j ≤ rch μ0 row j := by
  intro j
  induction j with
  | zero => exact fun _ => Int.le_refl _
  | succ j ih =>
    intro hj
    have a := ih (by omega)
    have b := (term_le (a := row (3 - j)) (d := (dgt y (3 - j) : Int)) (s := stk μ0 (3 - j)) (by omega) (h (3 - j) (by omega))).1
    unfold tl rch
    omega
theorem tl_lst {μ0 : Mem} {y : Nat} (h : boxD μ0 y) : ∀ j, j ≤ 4 → lst μ0 j ≤ tl (cts μ0) y j := by
  intro j
  induction j with
  | zero => exact fun _ => Int.le_refl _
  | succ j ih =>
    intro hj
    have a := ih (by omega)
    have b := (term_le (a := cts μ0 (3 - j)) (d := (dgt y (3 - j) : Int)) (s := stk μ0 (3 - j)) (by omega) (h (3 - j) (by omega))).2
    unfold tl lst
    omega
/-- a whole mix suits just where all sides keep it -/
theorem Fe_sides {μ0 : Mem} {m : Nat} {rl : Nat → Nat} (hA : InvA μ0) (hR : InvR μ0) (hl : RlOK μ0 rl m) (hs : ∀ r, r < 8 → (Tn μ0).testBit r = true → ∃ i, i < m ∧ rl i = r) (y : Nat) :
    Fe μ0 y ↔ boxD μ0 y ∧ ∀ k, k < 2 * m → 0 ≤ sv (rS μ0 rl k) (dgt y) 4 := by
  have dot : ∀ k, dot5i (rS μ0 rl k) (fun j => if j = 4 then 1 else mx y j) = sv (rS μ0 rl k) (dgt y) 4 := by
    intro k
    unfold dot5i
    simp only [sv, if_true, show ¬ (0 : Nat) = 4 by decide, show ¬ (1 : Nat) = 4 by decide, show ¬ (2 : Nat) = 4 by decide, show ¬ (3 : Nat) = 4 by decide, if_false]
    unfold mx
    omega
  have kpe : ∀ r, r < 8 → (Tn μ0).testBit r = true → (kp μ0 r (mx y) 1 ↔ 0 ≤ dot5i (rwL μ0 r) (fun j => if j = 4 then 1 else mx y j) ∧ 0 ≤ dot5i (rwH μ0 r) (fun j => if j = 4 then 1 else mx y j)) := by
    intro r hr ht
    obtain ⟨hf, hg, -⟩ := told_fg hR hr ht
    rw [← kp_rows hA hf hg]
    exact kp_congr (fun _ _ _ => rfl) (fun i hi => by rw [if_neg (by omega)])
  unfold Fe
  refine and_congr Iff.rfl ?_
  constructor
  · intro h k hk
    obtain ⟨q1, q2⟩ := hl (k / 2) (by omega)
    have := (kpe _ q1 q2).1 (h _ q1 q2)
    rw [← dot]
    rcases (by omega : k % 2 = 0 ∨ k % 2 = 1) with e | e
    · rw [rS_0 μ0 rl e]; exact this.1
    · rw [rS_1 μ0 rl e]; exact this.2
  · intro h r hr ht
    obtain ⟨i, hi, e⟩ := hs r hr ht
    have a := h (2 * i) (by omega)
    have b := h (2 * i + 1) (by omega)
    rw [← dot, rS_0 μ0 rl (by omega), show 2 * i / 2 = i by omega, e] at a
    rw [← dot, rS_1 μ0 rl (by omega), show (2 * i + 1) / 2 = i by omega, e] at b
    exact (kpe r hr ht).2 ⟨a, b⟩
/-- the class's best of the mixes before c -/
def Bst (μ0 : Mem) (c : Nat) (μ : Mem) : Prop := (μ.1 5 6 = 0 ∧ ∀ y, y < c → ¬ Fe μ0 y) ∨ (μ.1 5 6 = 1 ∧ ∃ b, b < c ∧ Fe μ0 b ∧ (∀ i, i < 4 → μ.1 26 i = nI (dgt b i)) ∧ (μ.2 5 7).toInt = price μ0 (mx b) ∧ ∀ y, y < c → Fe μ0 y → price μ0 (mx b) ≤ price μ0 (mx y) ∧ (price μ0 (mx y) = price μ0 (mx b) → b ≤ y))
theorem Bst.skip {μ0 μ : Mem} {c c' : Nat} (h : Bst μ0 c μ) (hc : c ≤ c') (hn : ∀ y, c ≤ y → y < c' → ¬ Fe μ0 y) : Bst μ0 c' μ := by
  rcases h with ⟨a, b⟩ | ⟨a, b, b1, b2, b3, b4, b5⟩
  · refine Or.inl ⟨a, fun y hy => ?_⟩
    by_cases q : y < c
    · exact b y q
    · exact hn y (by omega) hy
  · refine Or.inr ⟨a, b, by omega, b2, b3, b4, fun y hy hF => ?_⟩
    by_cases q : y < c
    · exact b5 y q hF
    · exact absurd hF (hn y (by omega) hy)
theorem Bst.dear {μ0 μ : Mem} {c c' : Nat} (h : Bst μ0 c μ) (hs : μ.1 5 6 = 1) (hc : c ≤ c') (hn : ∀ y, c ≤ y → y < c' → Fe μ0 y → (μ.2 5 7).toInt ≤ price μ0 (mx y)) : Bst μ0 c' μ := by
  rcases h with ⟨a, b⟩ | ⟨a, b, b1, b2, b3, b4, b5⟩
  · rw [hs] at a; exact absurd a (by decide)
  · refine Or.inr ⟨a, b, by omega, b2, b3, b4, fun y hy hF => ?_⟩
    by_cases q : y < c
    · exact b5 y q hF
    · have := hn y (by omega) hy hF
      exact ⟨by omega, fun _ => by omega⟩
theorem Bst.of {μ0 μ μ' : Mem} {c : Nat} (h : Bst μ0 c μ) (e1 : μ'.1 5 6 = μ.1 5 6) (e2 : ∀ i, μ'.1 26 i = μ.1 26 i) (e3 : μ'.2 5 7 = μ.2 5 7) : Bst μ0 c μ' := by
  unfold Bst
  rw [e1, e3]
  rcases h with h | ⟨a, b, b1, b2, b3, b4⟩
  · exact Or.inl h
  · exact Or.inr ⟨a, b, b1, b2, fun i hi => by rw [e2]; exact b3 i hi, b4⟩
theorem Bst.sui {μ0 μ : Mem} {c : Nat} (h : Bst μ0 c μ) : μ.1 5 6 = 0 ∨ μ.1 5 6 = 1 := by
  rcases h with ⟨a, -⟩ | ⟨a, -⟩
  · exact Or.inl a
  · exact Or.inr a
