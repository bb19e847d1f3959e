/-! PURE: the reference's search of whole mixes. -/
def dgt (k i : Nat) : Nat := k / 10 ^ (3 - i) % 10
def mx (k i : Nat) : Int := (dgt k i : Int)
theorem dgt_lt (k i : Nat) : dgt k i < 10 := Nat.mod_lt _ (by omega)
def Fe (μ : Mem) (k : Nat) : Prop := (∀ i, i < 4 → mx k i ≤ stk μ i) ∧ ∀ r, r < 8 → (Tn μ).testBit r = true → kp μ r (mx k) 1
def WF (μb μ : Mem) : Prop := (∀ k j, k ≠ 36 → k ≠ 37 → μ.1 k j = μb.1 k j) ∧ ∀ k j, ¬ (k = 7 ∧ j = 13) → μ.2 k j = μb.2 k j
theorem WF.inp {μb μ : Mem} (h : WF μb μ) : Inp μb μ := ⟨⟨h.1 1 0 (by omega) (by omega), h.1 7 0 (by omega) (by omega), h.1 2 0 (by omega) (by omega)⟩, fun k i q => h.1 k i (by omega) (by omega), fun k i q => h.2 k i (by omega)⟩
theorem div10 {a : Nat} (h : a < 10000) : dvI (nI a) 10 = some (nI (a / 10)) ∧ rmI (nI a) 10 = some (nI (a % 10)) := by
  have t : (10 : Int32).toInt = 10 := by decide
  have d : (nI a / 10).toInt = (a / 10 : Nat) := by
    rw [Int32.toInt_div, t, nI_toInt (by omega)]
    have : ((a : Int).tdiv 10) = ((a / 10 : Nat) : Int) := by
      rw [Int.tdiv_eq_ediv_of_nonneg (by omega)]
      omega
    rw [this]
    exact bm32 (by omega) (by omega)
  have e : nI a / 10 = nI (a / 10) := Int32.toInt_inj.1 (by rw [d, nI_toInt (by omega)])
  constructor
  · unfold dvI
    rw [if_neg (by decide), e]
  · unfold rmI
    rw [if_neg (by decide), e]
    refine congrArg some (Int32.toInt_inj.1 ?_)
    have m : (nI (a / 10) * 10).toInt = ((a / 10 : Nat) : Int) * 10 := by
      rw [mul32 (by rw [t, nI_toInt (by omega)]; omega) (by rw [t, nI_toInt (by omega)]; omega), t, nI_toInt (by omega)]
    rw [sub32 (by rw [m, nI_toInt (by omega)]; omega) (by rw [m, nI_toInt (by omega)]; omega), m, nI_toInt (by omega), nI_toInt (by omega)]
    omega
theorem fw_dig {N m n i z : Nat} {K4 : Int32 → Int32 → Mem → Option (Int32 × Mem)} {x1 x2 x5 : Int32} {μ : Mem} (hA : InvA μ) (h7 : μ.1 7 0 = nI n) (hn : n ≤ 4) (hi : i < 4) (hz : z < 10000) (fl : Prop) [Decidable fl] (e5 : nI i + (-1) = x5) :
    M_Mo_findWhole_19 N K4 (m + 1) x1 x2 (nI z) (b01 fl) (nI i) μ = M_Mo_findWhole_19 N K4 m x1 x2 (nI (z / 10)) (b01 (fl ∧ ((z % 10 : Nat) : Int) ≤ stk μ i)) x5 (upI μ.1 37 i (nI (z % 10)), μ.2) := by
  obtain ⟨n', hn', -, h7', hst, -⟩ := hA
  have en : n' = n := by rw [h7] at h7'; exact ((nI_eq (by omega) (by omega)).1 h7').symm
  subst en
  obtain ⟨s1, s2, s3, s4⟩ := hst i hi
  have pos : ¬ nI i < 0 := nI_pos (by omega)
  have zm : z % 10 < 10 := Nat.mod_lt _ (by omega)
  rw [M_Mo_findWhole_19, if_neg pos, (div10 hz).2, bs, stI_n (by decide) (by decide) (by show i < 4; omega) (by decide), bs, (div10 hz).1, bs]
  unfold M_Mo_findWhole_79 M_Mo_findWhole_72 M_Mo_findWhole_79 M_Mo_findWhole_80
  rw [e5]
  by_cases hfl : fl
  · rw [if_neg (by rw [b01_0]; exact fun q => q hfl), ldI_n (by decide) (by decide) (by show i < 4; omega) (by decide), bs]
    have key : ∀ w y : Int32, w = nI (z % 10) → y.toInt = stk μ i → (if y < w then M_Mo_findWhole_19 N K4 m x1 x2 (nI (z / 10)) 0 x5 (upI μ.1 37 i (nI (z % 10)), μ.2) else M_Mo_findWhole_19 N K4 m x1 x2 (nI (z / 10)) 1 x5 (upI μ.1 37 i (nI (z % 10)), μ.2)) = M_Mo_findWhole_19 N K4 m x1 x2 (nI (z / 10)) (b01 (fl ∧ ((z % 10 : Nat) : Int) ≤ stk μ i)) x5 (upI μ.1 37 i (nI (z % 10)), μ.2) := by
      intro w y hw hy
      subst hw
      unfold b01
      by_cases hle : ((z % 10 : Nat) : Int) ≤ stk μ i
      · rw [if_neg (by rw [Int32.lt_iff_toInt_lt, hy, nI_toInt (by omega)]; omega), if_pos ⟨hfl, hle⟩]
      · rw [if_pos (by rw [Int32.lt_iff_toInt_lt, hy, nI_toInt (by omega)]; omega), if_neg (fun q => hle q.2)]
    have e37 : (upI μ.1 37 i (nI (z % 10))) 37 i = nI (z % 10) := upI_at ..
    have e70 : (upI μ.1 37 i (nI (z % 10))) 7 0 = nI n' := by rw [upI_ne (by omega)]; exact h7
    by_cases hni : n' ≤ i
    · rw [if_pos (by dsimp only; rw [e70]; exact nI_le hni (by omega))]
      exact key _ 0 e37 (by unfold stk; rw [s4 hni])
    · rw [if_neg (by dsimp only; rw [e70]; exact nI_ge (by omega) (by omega)), ldI_n (by decide) (by decide) (by show i < 4; omega) (by decide), bs]
      refine key _ _ e37 ?_
      dsimp only
      rw [upI_ne (by omega)]
      unfold stk
      rw [s1]
  · rw [if_pos ((b01_0 _).2 hfl)]
    unfold b01
    rw [if_neg (fun q => hfl q.1)]
theorem fstB_8 {P : Nat → Bool} : ∀ k r, (fstB P k r = r + k ↔ ∀ i, r ≤ i → i < r + k → P i = false) ∧ fstB P k r ≤ r + k := by
  intro k
  induction k with
  | zero => exact fun r => ⟨⟨fun _ i h1 h2 => absurd h1 (by omega), fun _ => rfl⟩, Nat.le_refl _⟩
  | succ k ih =>
    intro r
    unfold fstB
    obtain ⟨ih1, ih2⟩ := ih (r + 1)
    by_cases h : P r = true
    · rw [if_pos h]
      refine ⟨⟨fun q => absurd q (by omega), fun q => ?_⟩, by omega⟩
      have := q r (by omega) (by omega)
      rw [h] at this
      exact absurd this (by decide)
    · rw [if_neg h, show r + (k + 1) = r + 1 + k by omega]
      refine ⟨⟨fun q i h1 h2 => ?_, fun q => ih1.2 (fun i h1 h2 => q i (by omega) (by omega))⟩, ih2⟩
      by_cases e : i = r
      · subst e
        cases hp : P i with
        | false => rfl
        | true => exact absurd hp h
      · exact ih1.1 q i (by omega) (by omega)
/-- the memory with a mix in place -/
def mixI (f : Nat → Nat → Int32) (k : Nat) : Nat → Nat → Int32 := upI (upI (upI (upI f 37 3 (nI (k % 10))) 37 2 (nI (k / 10 % 10))) 37 1 (nI (k / 10 / 10 % 10))) 37 0 (nI (k / 10 / 10 / 10 % 10))
theorem mixI_at (f : Nat → Nat → Int32) (k : Nat) : ∀ i, i < 4 → mixI f k 37 i = nI (dgt k i) := by
  intro i hi
  unfold mixI dgt
  rcases (by omega : i = 0 ∨ i = 1 ∨ i = 2 ∨ i = 3) with rfl | rfl | rfl | rfl
  · rw [upI_at, Nat.div_div_eq_div_mul, Nat.div_div_eq_div_mul]
  · rw [upI_pl (by omega), upI_at, Nat.div_div_eq_div_mul]
  · rw [upI_pl (by omega), upI_pl (by omega), upI_at]
  · rw [upI_pl (by omega), upI_pl (by omega), upI_pl (by omega), upI_at]
    simp
theorem mixI_ne {f : Nat → Nat → Int32} {k a : Nat} (h : a ≠ 37) (b : Nat) : mixI f k a b = f a b := by
  unfold mixI
  rw [upI_ne h, upI_ne h, upI_ne h, upI_ne h]
def boxD (μ : Mem) (k : Nat) : Prop := ∀ i, i < 4 → mx k i ≤ stk μ i
/-- the best of the mixes before c -/
def RB (μb : Mem) (c : Nat) (x1 : Int32) (μ : Mem) : Prop := WF μb μ ∧ ((x1 = 0 ∧ ∀ y, y < c → ¬ Fe μb y) ∨ (x1 = 1 ∧ ∃ b, b < c ∧ Fe μb b ∧ (∀ i, i < 4 → μ.1 36 i = nI (dgt b i)) ∧ (μ.2 7 13).toInt = price μb (mx b) ∧ ∀ y, y < c → Fe μb y → price μb (mx b) ≤ price μb (mx y) ∧ (price μb (mx y) = price μb (mx b) → b ≤ y)))
theorem fw_copy {N : Nat} (hN : 5 ≤ N) {K4 : Int32 → Int32 → Mem → Option (Int32 × Mem)} {x1 x2 : Int32} : ∀ (j m : Nat) (μ : Mem), j ≤ 4 → ∃ μ', M_Mo_findWhole_167 N K4 (m + j + 1) x1 x2 (nI (4 - j)) μ = K4 x1 (x2 + 1) μ' ∧ μ'.2 = μ.2 ∧ (∀ a b, a ≠ 36 → μ'.1 a b = μ.1 a b) ∧ (∀ i, i < 4 - j → μ'.1 36 i = μ.1 36 i) ∧ ∀ i, 4 - j ≤ i → i < 4 → μ'.1 36 i = μ.1 37 i := by
  intro j
  induction j with
  | zero =>
    intro m μ _
    refine ⟨μ, ?_, rfl, fun _ _ _ => rfl, fun _ _ => rfl, fun i h1 h2 => absurd h1 (by omega)⟩
    rw [M_Mo_findWhole_167, if_pos (by decide)]
  | succ j ih =>
    intro m μ hj
    have n4 : ¬ (4 : Int32) ≤ nI (4 - (j + 1)) := nI_ge (a := 4 - (j + 1)) (b := 4) (by omega) (by omega)
    obtain ⟨μ', a1, a2, a3, a4, a5⟩ := ih m (upI μ.1 36 (4 - (j + 1)) (μ.1 37 (4 - (j + 1))), μ.2) (by omega)
    refine ⟨μ', ?_, a2, fun a b h => (a3 a b h).trans (upI_ne h b), fun i hi => (a4 i (by omega)).trans (upI_pl (by omega)), fun i h1 h2 => ?_⟩
    · rw [show m + (j + 1) + 1 = (m + j + 1) + 1 by omega, M_Mo_findWhole_167, if_neg n4, ldI_n (by decide) (by decide) (by show 4 - (j + 1) < 4; omega) (by decide), bs, stI_n (by decide) (by decide) (by show 4 - (j + 1) < 4; omega) (by decide), bs, nI_1, show 4 - (j + 1) + 1 = 4 - j by omega]
      exact a1
    · by_cases e : i = 4 - (j + 1)
      · rw [a4 i (by omega), e]; exact upI_at μ.1 36 _ _
      · rw [a5 i (by omega) h2]
        dsimp only
        rw [upI_ne (by omega)]
theorem fw_cost {N : Nat} {K4 : Int32 → Int32 → Mem → Option (Int32 × Mem)} {x1 x2 : Int32} {μ : Mem} {x : Nat → Int} (hx : ∀ i, i < 4 → (μ.1 37 i).toInt = x i) : ∀ (j m : Nat), j ≤ 4 → M_Mo_findWhole_108 N K4 (m + j + 1) x1 x2 (JJ (prS μ x (4 - j))) (nI (4 - j)) μ = M_Mo_findWhole_108 N K4 (m + 1) x1 x2 (JJ (prS μ x 4)) (nI 4) μ := by
  intro j
  induction j with
  | zero => intro m _; rfl
  | succ j ih =>
    intro m hj
    have n4 : ¬ (4 : Int32) ≤ nI (4 - (j + 1)) := nI_ge (a := 4 - (j + 1)) (b := 4) (by omega) (by omega)
    rw [show m + (j + 1) + 1 = (m + j + 1) + 1 by omega, M_Mo_findWhole_108, if_neg n4, ldI_n (by decide) (by decide) (by show 4 - (j + 1) < 4; omega) (by decide), bs, ldI_n (by decide) (by decide) (by show 4 - (j + 1) < 4; omega) (by decide), bs, nm_eq, i2l_J, i2l_J, JJ_mul, JJ_add, nI_1, show 4 - (j + 1) + 1 = 4 - j by omega, hx _ (by omega)]
    have e : prS μ x (4 - (j + 1)) + x (4 - (j + 1)) * (μ.1 29 (4 - (j + 1))).toInt = prS μ x (4 - j) := by
      rw [show 4 - j = (4 - (j + 1)) + 1 by omega]; rfl
    rw [e]
    exact ih m (by omega)
theorem b01_t {c : Prop} [Decidable c] (h : c) : b01 c = 1 := by unfold b01; rw [if_pos h]
theorem b01_f {c : Prop} [Decidable c] (h : ¬ c) : b01 c = 0 := by unfold b01; rw [if_neg h]
theorem WF.up37 {μb μ : Mem} (h : WF μb μ) (i : Nat) (v : Int32) : WF μb (upI μ.1 37 i v, μ.2) := ⟨fun k j q1 q2 => by dsimp only; rw [upI_ne q2]; exact h.1 k j q1 q2, h.2⟩
theorem Fe_pt {μ : Mem} (k : Nat) : (∀ r, r < 8 → (Tn μ).testBit r = true → kp μ r (mx k) 1) ↔ ∀ i, 0 ≤ i → i < 0 + 8 → decide ((Tn μ).testBit i = true ∧ ¬ kp μ i (mx k) 1) = false := by
  constructor
  · intro h i _ hi
    refine decide_eq_false (fun q => q.2 (h i (by omega) q.1))
  · intro h r hr ht
    have := of_decide_eq_false (h r (by omega) (by omega))
    exact Decidable.byContradiction (fun q => this ⟨ht, q⟩)
theorem fw_step {N n c : Nat} (hN : 300 ≤ N) (hc : c < 10000) {K4 : Int32 → Int32 → Mem → Option (Int32 × Mem)} {μb μ : Mem} {x1 : Int32} (h : Rx μb n) (hr : RB μb c x1 μ) :
    ∃ x1' μ', M_Mo_findWhole_19 N K4 N x1 (nI c) (nI c) 1 3 μ = K4 x1' (nI (c + 1)) μ' ∧ RB μb (c + 1) x1' μ' := by
  obtain ⟨hw, hcase⟩ := hr
  obtain ⟨M, rfl⟩ : ∃ M, N = M + 1 + 1 + 1 + 1 + 1 := ⟨N - 5, by omega⟩
  have go : ∀ (μ : Mem), WF μb μ → InvA μ ∧ μ.1 7 0 = nI n ∧ stk μ = stk μb := fun μ hw => ⟨hw.inp.A h.1, by rw [hw.1 7 0 (by omega) (by omega)]; exact h.2.2.2, stk_I hw.inp⟩
  have hw1 := hw.up37 3 (nI (c % 10))
  have hw2 := hw1.up37 2 (nI (c / 10 % 10))
  have hw3 := hw2.up37 1 (nI (c / 10 / 10 % 10))
  have hw4 : WF μb (mixI μ.1 c, μ.2) := hw3.up37 0 (nI (c / 10 / 10 / 10 % 10))
  have l1 : c / 10 < 10000 := by omega
  have l2 : c / 10 / 10 < 10000 := by omega
  have l3 : c / 10 / 10 / 10 < 10000 := by omega
  have e1 := fw_dig (N := M + 1 + 1 + 1 + 1 + 1) (m := M + 1 + 1 + 1 + 1) (K4 := K4) (x1 := x1) (x2 := nI c) (go μ hw).1 (go μ hw).2.1 h.2.2.1 (i := 3) (by omega) hc True (nI_dec 2)
  have e2 := fw_dig (N := M + 1 + 1 + 1 + 1 + 1) (m := M + 1 + 1 + 1) (K4 := K4) (x1 := x1) (x2 := nI c) (go _ hw1).1 (go _ hw1).2.1 h.2.2.1 (i := 2) (by omega) l1 (True ∧ ((c % 10 : Nat) : Int) ≤ stk μ 3) (nI_dec 1)
  have e3 := fw_dig (N := M + 1 + 1 + 1 + 1 + 1) (m := M + 1 + 1) (K4 := K4) (x1 := x1) (x2 := nI c) (go _ hw2).1 (go _ hw2).2.1 h.2.2.1 (i := 1) (by omega) l2 ((True ∧ ((c % 10 : Nat) : Int) ≤ stk μ 3) ∧ ((c / 10 % 10 : Nat) : Int) ≤ stk (upI μ.1 37 3 (nI (c % 10)), μ.2) 2) (nI_dec 0)
  have m1 : nI 0 + (-1) = (-1 : Int32) := by decide
  have e4 := fw_dig (N := M + 1 + 1 + 1 + 1 + 1) (m := M + 1) (K4 := K4) (x1 := x1) (x2 := nI c) (go _ hw3).1 (go _ hw3).2.1 h.2.2.1 (i := 0) (by omega) l3 (((True ∧ ((c % 10 : Nat) : Int) ≤ stk μ 3) ∧ ((c / 10 % 10 : Nat) : Int) ≤ stk (upI μ.1 37 3 (nI (c % 10)), μ.2) 2) ∧ ((c / 10 / 10 % 10 : Nat) : Int) ≤ stk (upI (upI μ.1 37 3 (nI (c % 10))) 37 2 (nI (c / 10 % 10)), μ.2) 1) m1
  have b1 : (b01 True : Int32) = 1 := by unfold b01; rw [if_pos trivial]
  rw [b1] at e1
  have three : (3 : Int32) = nI 3 := rfl
  rw [three]
  have run := e1.trans (e2.trans (e3.trans e4))
  clear e1 e2 e3 e4
  have d0 : dgt c 0 = c / 10 / 10 / 10 % 10 := by unfold dgt; rw [Nat.div_div_eq_div_mul, Nat.div_div_eq_div_mul]
  have d1 : dgt c 1 = c / 10 / 10 % 10 := by unfold dgt; rw [Nat.div_div_eq_div_mul]
  have d2 : dgt c 2 = c / 10 % 10 := rfl
  have d3 : dgt c 3 = c % 10 := by unfold dgt; simp
  have box : ((((True ∧ ((c % 10 : Nat) : Int) ≤ stk μ 3) ∧ ((c / 10 % 10 : Nat) : Int) ≤ stk (upI μ.1 37 3 (nI (c % 10)), μ.2) 2) ∧ ((c / 10 / 10 % 10 : Nat) : Int) ≤ stk (upI (upI μ.1 37 3 (nI (c % 10))) 37 2 (nI (c / 10 % 10)), μ.2) 1) ∧ ((c / 10 / 10 / 10 % 10 : Nat) : Int) ≤ stk (upI (upI (upI μ.1 37 3 (nI (c % 10))) 37 2 (nI (c / 10 % 10))) 37 1 (nI (c / 10 / 10 % 10)), μ.2) 0) ↔ boxD μb c := by
    rw [(go _ hw).2.2, (go _ hw1).2.2, (go _ hw2).2.2, (go _ hw3).2.2]
    unfold boxD mx
    constructor
    · rintro ⟨⟨⟨⟨-, a⟩, b⟩, c⟩, d⟩ i hi
      rcases (by omega : i = 0 ∨ i = 1 ∨ i = 2 ∨ i = 3) with rfl | rfl | rfl | rfl
      · rw [d0]; exact d
      · rw [d1]; exact c
      · rw [d2]; exact b
      · rw [d3]; exact a
    · intro q
      have q0 := q 0 (by omega)
      have q1 := q 1 (by omega)
      have q2 := q 2 (by omega)
      have q3 := q 3 (by omega)
      rw [d0] at q0
      rw [d1] at q1
      rw [d2] at q2
      rw [d3] at q3
      exact ⟨⟨⟨⟨trivial, q3⟩, q2⟩, q1⟩, q0⟩
  -- nothing changes when the mix isn't one
  have stay : ¬ Fe μb c → RB μb (c + 1) x1 (mixI μ.1 c, μ.2) := by
    intro hnf
    refine ⟨hw4, ?_⟩
    rcases hcase with ⟨a, b⟩ | ⟨a, b, c1, c2, c3, c4, c5⟩
    · refine Or.inl ⟨a, fun y hy => ?_⟩
      by_cases e : y = c
      · rw [e]; exact hnf
      · exact b y (by omega)
    · refine Or.inr ⟨a, b, by omega, c2, fun i hi => by dsimp only; rw [mixI_ne (by omega)]; exact c3 i hi, c4, fun y hy hF => ?_⟩
      by_cases e : y = c
      · rw [e] at hF; exact absurd hF hnf
      · exact c5 y (by omega) hF
  have endd : ∀ f : Int32, M_Mo_findWhole_19 (M + 1 + 1 + 1 + 1 + 1) K4 (M + 1) x1 (nI c) (nI (c / 10 / 10 / 10 / 10)) f (-1) (mixI μ.1 c, μ.2) = if f = 0 then K4 x1 (nI c + 1) (mixI μ.1 c, μ.2) else bn2 (M_Mo_firstBroken (M + 1 + 1 + 1 + 1 + 1) (mixI μ.1 c, μ.2)) fun r94 μ94 => if r94 = 8 then M_Mo_findWhole_108 (M + 1 + 1 + 1 + 1 + 1) K4 (M + 1 + 1 + 1 + 1 + 1) x1 (nI c) 0 0 μ94 else K4 x1 (nI c + 1) μ94 := fun f => by
    rw [M_Mo_findWhole_19, if_pos (by decide)]
  have hmx : ∀ i, i < 4 → ((mixI μ.1 c) 37 i).toInt = mx c i := fun i hi => by
    rw [mixI_at _ _ i hi, nI_toInt (by have := dgt_lt c i; omega)]
    rfl
  by_cases hbox : boxD μb c
  · have fbe : M_Mo_firstBroken (M + 1 + 1 + 1 + 1 + 1) (mixI μ.1 c, μ.2) = some (nI (fstB (fun r => decide ((Tn μb).testBit r = true ∧ ¬ kp μb r (mx c) 1)) 8 0), (mixI μ.1 c, μ.2)) := by
      obtain ⟨T, hT, h2, h14, hro⟩ := hw4.inp.R h.2.1
      have eT : Tn μb = T := by
        rw [← Tn_I hw4.inp]
        unfold Tn
        rw [h2, nI_clamp (by omega)]
      rw [fb_M (by omega) (go _ hw4).1 hT h14 hro (fun j hj => by rw [hmx j hj]; have := dgt_lt c j; unfold mx; omega), eT]
      refine congrArg (fun z => some (nI z, _)) (fstB_congr 8 0 (fun i _ _ => ?_))
      have : kp (mixI μ.1 c, μ.2) i (fun i => ((mixI μ.1 c) 37 i).toInt) 1 ↔ kp μb i (mx c) 1 := kp_congr (fun k hk j => hw4.1 k j (by omega) (by omega)) (fun j hj => hmx j hj)
      simp only [this]
    obtain ⟨f8, f9⟩ := fstB_8 (P := fun r => decide ((Tn μb).testBit r = true ∧ ¬ kp μb r (mx c) 1)) 8 0
    by_cases hall : ∀ r, r < 8 → (Tn μb).testBit r = true → kp μb r (mx c) 1
    · have hFe : Fe μb c := ⟨hbox, hall⟩
      have e8 : fstB (fun r => decide ((Tn μb).testBit r = true ∧ ¬ kp μb r (mx c) 1)) 8 0 = 8 := by
        have := f8.2 ((Fe_pt c).1 hall)
        omega
      have ePr : prS (mixI μ.1 c, μ.2) (mx c) 4 = price μb (mx c) := by
        rw [prS_all (Nat.le_refl 4) (fun j hj hn => absurd hn (by omega)), price_I hw4.inp]
      have cost := fw_cost (N := M + 1 + 1 + 1 + 1 + 1) (K4 := K4) (x1 := x1) (x2 := nI c) (μ := (mixI μ.1 c, μ.2)) hmx 4 M (Nat.le_refl 4)
      rw [ePr] at cost
      have pb : bnd 100000 (price μb (mx c)) := by
        obtain ⟨n', -, -, -, -, hct, -⟩ := h.1
        have hm : ∀ i, i < 4 → bnd 9000 (cts μb i * mx c i) := fun i hi => by
          have := hct i hi
          have d := dgt_lt c i
          exact bd_mul (A := 1000) (B := 9) ⟨this.2.1, this.2.2.1⟩ ⟨by unfold mx; omega, by unfold mx; omega⟩
        have a0 := hm 0 (by omega)
        have a1 := hm 1 (by omega)
        have a2 := hm 2 (by omega)
        have a3 := hm 3 (by omega)
        unfold price
        unfold bnd at *
        omega
      have jP : (JJ (price μb (mx c))).toInt = price μb (mx c) := JJ_bnd pb (by decide)
      have take : ∃ μ', M_Mo_findWhole_156 (M + 1 + 1 + 1 + 1 + 1) K4 (nI c) (JJ (price μb (mx c))) (mixI μ.1 c, μ.2) = K4 1 (nI (c + 1)) μ' ∧ WF μb μ' ∧ (∀ i, i < 4 → μ'.1 36 i = nI (dgt c i)) ∧ (μ'.2 7 13).toInt = price μb (mx c) := by
        obtain ⟨μ', a1, a2, a3, a4, a5⟩ := fw_copy (N := M + 1 + 1 + 1 + 1 + 1) (by omega) (K4 := K4) (x1 := 1) (x2 := nI c) 4 M (mixI μ.1 c, upJ μ.2 7 13 (JJ (price μb (mx c)))) (Nat.le_refl 4)
        refine ⟨μ', ?_, ⟨fun k j q1 q2 => ?_, fun k j q => ?_⟩, fun i hi => ?_, ?_⟩
        · unfold M_Mo_findWhole_156
          rw [pJ, bs, ← nI_1]
          exact a1
        · rw [a3 k j q1]
          exact hw4.1 k j q1 q2
        · rw [a2]
          dsimp only
          by_cases e : k = 7
          · rw [upJ_pl (by omega)]; exact hw.2 k j q
          · rw [upJ_ne e]; exact hw.2 k j q
        · rw [a5 i (by omega) hi]
          exact mixI_at _ _ i hi
        · rw [a2]
          dsimp only
          rw [upJ_at, jP]
      have runF : M_Mo_findWhole_19 (M + 1 + 1 + 1 + 1 + 1) K4 (M + 1 + 1 + 1 + 1 + 1) x1 (nI c) (nI c) 1 (nI 3) μ = M_Mo_findWhole_108 (M + 1 + 1 + 1 + 1 + 1) K4 (M + 1) x1 (nI c) (JJ (price μb (mx c))) (nI 4) (mixI μ.1 c, μ.2) := by
        rw [run, b01_t (box.2 hbox)]
        refine (endd 1).trans ?_
        rw [if_neg (by decide), fbe, bs2, e8, if_pos (by decide)]
        exact cost
      rw [runF, M_Mo_findWhole_108, if_pos (by decide)]
      obtain ⟨μ', t1, t2, t3, t4⟩ := take
      rcases hcase with ⟨a, b⟩ | ⟨a, b, c1, c2, c3, c4, c5⟩
      · refine ⟨1, μ', ?_, t2, Or.inr ⟨rfl, c, by omega, hFe, t3, t4, fun y hy hF => ?_⟩⟩
        · rw [if_pos a]; exact t1
        · by_cases e : y = c
          · rw [e]; exact ⟨Int.le_refl _, fun _ => Nat.le_refl _⟩
          · exact absurd hF (b y (by omega))
      · rw [if_neg (by rw [a]; decide)]
        have cmpE : ((0 : Int32) ≤ lg_cmp (JJ (price μb (mx c))) (μ.2 7 13)) ↔ price μb (mx b) ≤ price μb (mx c) := by
          rw [cmp_ge, Int64.le_iff_toInt_le, jP, c4]
        by_cases hle : price μb (mx b) ≤ price μb (mx c)
        · refine ⟨x1, (mixI μ.1 c, μ.2), ?_, hw4, Or.inr ⟨a, b, by omega, c2, fun i hi => by dsimp only; rw [mixI_ne (by omega)]; exact c3 i hi, c4, fun y hy hF => ?_⟩⟩
          · rw [if_pos (cmpE.2 hle), nI_1]
          · by_cases e : y = c
            · rw [e]; exact ⟨hle, fun _ => by omega⟩
            · exact c5 y (by omega) hF
        · refine ⟨1, μ', ?_, t2, Or.inr ⟨rfl, c, by omega, hFe, t3, t4, fun y hy hF => ?_⟩⟩
          · rw [if_neg (fun q => hle (cmpE.1 q))]; exact t1
          · by_cases e : y = c
            · rw [e]; exact ⟨Int.le_refl _, fun _ => Nat.le_refl _⟩
            · have := (c5 y (by omega) hF).1
              exact ⟨by omega, fun q => by omega⟩
    · have hnf : ¬ Fe μb c := fun q => hall q.2
      refine ⟨x1, _, ?_, stay hnf⟩
      rw [run, b01_t (box.2 hbox)]
      refine (endd 1).trans ?_
      have n8 : ¬ nI (fstB (fun r => decide ((Tn μb).testBit r = true ∧ ¬ kp μb r (mx c) 1)) 8 0) = 8 := fun q => by
        have := (nI_eq (b := 8) (by omega) (by omega)).1 q
        exact hall ((Fe_pt c).2 (f8.1 (by omega)))
      rw [if_neg (by decide), fbe, bs2, if_neg n8, nI_1]
  · have hnf : ¬ Fe μb c := fun q => hbox q.1
    refine ⟨x1, _, ?_, stay hnf⟩
    rw [run, b01_f (fun q => hbox (box.1 q))]
    refine (endd 0).trans ?_
    rw [if_pos rfl, nI_1]
theorem s_findWhole {N n : Nat} (hN : 10300 ≤ N) {μb : Mem} (h : Rx μb n) : ∃ x1 μ', M_Mo_findWhole N μb = some (x1, μ') ∧ RB μb 10000 x1 μ' := by
  have step : ∀ (k m : Nat) (x1 : Int32) (μ : Mem), k ≤ 10000 → RB μb (10000 - k) x1 μ → ∃ x1' μ', M_Mo_findWhole_4 N (m + k + 1) x1 (nI (10000 - k)) μ = some (x1', μ') ∧ RB μb 10000 x1' μ' := by
    intro k
    induction k with
    | zero =>
      intro m x1 μ _ hr
      refine ⟨x1, μ, ?_, hr⟩
      rw [M_Mo_findWhole_4, if_pos (by decide +kernel)]
      unfold reZ
      rw [if_pos]
      rcases hr.2 with ⟨a, -⟩ | ⟨a, -⟩
      · exact Or.inl a
      · exact Or.inr a
    | succ k ih =>
      intro m x1 μ hk hr
      have nb : ¬ (10000 : Int32) ≤ nI (10000 - (k + 1)) := nI_ge (a := 10000 - (k + 1)) (b := 10000) (by omega) (by omega)
      obtain ⟨x1', μ1, a1, a2⟩ := fw_step (N := N) (K4 := M_Mo_findWhole_4 N (m + k + 1)) (by omega) (c := 10000 - (k + 1)) (by omega) h hr
      rw [show 10000 - (k + 1) + 1 = 10000 - k by omega] at a1 a2
      obtain ⟨x2', μ2, b1, b2⟩ := ih m x1' μ1 (by omega) a2
      refine ⟨x2', μ2, ?_, b2⟩
      rw [show m + (k + 1) + 1 = (m + k + 1) + 1 by omega, M_Mo_findWhole_4, if_neg nb, a1]
      exact b1
  have := step 10000 (N - 10001) 0 μb (Nat.le_refl _) ⟨⟨fun _ _ _ _ => rfl, fun _ _ _ => rfl⟩, Or.inl ⟨rfl, fun y hy => absurd hy (by omega)⟩⟩
  rw [show N - 10001 + 10000 + 1 = N by omega] at this
  exact this
