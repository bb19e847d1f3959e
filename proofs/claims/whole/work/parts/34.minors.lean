/-! PURE: minors of rows over sets of columns, expanded along the last row. -/
def exf (r f : Nat → Int) (G : Nat) : Nat → Int → Int → Int
  | 0, acc, _ => acc
  | n + 1, acc, s => if G.testBit n then exf r f G n (acc + s * r n * f (G ^^^ 2 ^ n)) (-s) else exf r f G n acc s
def ex (r f : Nat → Int) (G : Nat) : Int := exf r f G 5 0 1
def cof (v f : Nat → Int) (H : Nat) : Nat → Int → Int → Int
  | 0, acc, _ => acc
  | n + 1, acc, s => if H.testBit n then cof v f H n acc (-s) else cof v f H n (acc + s * v n * f (H ||| 2 ^ n)) s
def co (v f : Nat → Int) (H : Nat) : Int := cof v f H 4 0 1
def dot4 (r v : Nat → Int) : Int := r 0 * v 0 + r 1 * v 1 + r 2 * v 2 + r 3 * v 3
theorem ex_0 (r f : Nat → Int) : ex r f 0 = 0 := rfl
theorem ex_1 (r f : Nat → Int) : ex r f 1 = r 0 * f 0 := by
  have h : ex r f 1 = (0 + 1 * r 0 * f 0) := rfl
  rw [h]; grind
theorem ex_2 (r f : Nat → Int) : ex r f 2 = r 1 * f 0 := by
  have h : ex r f 2 = (0 + 1 * r 1 * f 0) := rfl
  rw [h]; grind
theorem ex_3 (r f : Nat → Int) : ex r f 3 = r 1 * f 1 - r 0 * f 2 := by
  have h : ex r f 3 = ((0 + 1 * r 1 * f 1) + (-1) * r 0 * f 2) := rfl
  rw [h]; grind
theorem ex_4 (r f : Nat → Int) : ex r f 4 = r 2 * f 0 := by
  have h : ex r f 4 = (0 + 1 * r 2 * f 0) := rfl
  rw [h]; grind
theorem ex_5 (r f : Nat → Int) : ex r f 5 = r 2 * f 1 - r 0 * f 4 := by
  have h : ex r f 5 = ((0 + 1 * r 2 * f 1) + (-1) * r 0 * f 4) := rfl
  rw [h]; grind
theorem ex_6 (r f : Nat → Int) : ex r f 6 = r 2 * f 2 - r 1 * f 4 := by
  have h : ex r f 6 = ((0 + 1 * r 2 * f 2) + (-1) * r 1 * f 4) := rfl
  rw [h]; grind
theorem ex_7 (r f : Nat → Int) : ex r f 7 = r 2 * f 3 - r 1 * f 5 + r 0 * f 6 := by
  have h : ex r f 7 = (((0 + 1 * r 2 * f 3) + (-1) * r 1 * f 5) + (-(-1)) * r 0 * f 6) := rfl
  rw [h]; grind
theorem ex_8 (r f : Nat → Int) : ex r f 8 = r 3 * f 0 := by
  have h : ex r f 8 = (0 + 1 * r 3 * f 0) := rfl
  rw [h]; grind
theorem ex_9 (r f : Nat → Int) : ex r f 9 = r 3 * f 1 - r 0 * f 8 := by
  have h : ex r f 9 = ((0 + 1 * r 3 * f 1) + (-1) * r 0 * f 8) := rfl
  rw [h]; grind
theorem ex_10 (r f : Nat → Int) : ex r f 10 = r 3 * f 2 - r 1 * f 8 := by
  have h : ex r f 10 = ((0 + 1 * r 3 * f 2) + (-1) * r 1 * f 8) := rfl
  rw [h]; grind
theorem ex_11 (r f : Nat → Int) : ex r f 11 = r 3 * f 3 - r 1 * f 9 + r 0 * f 10 := by
  have h : ex r f 11 = (((0 + 1 * r 3 * f 3) + (-1) * r 1 * f 9) + (-(-1)) * r 0 * f 10) := rfl
  rw [h]; grind
theorem ex_12 (r f : Nat → Int) : ex r f 12 = r 3 * f 4 - r 2 * f 8 := by
  have h : ex r f 12 = ((0 + 1 * r 3 * f 4) + (-1) * r 2 * f 8) := rfl
  rw [h]; grind
theorem ex_13 (r f : Nat → Int) : ex r f 13 = r 3 * f 5 - r 2 * f 9 + r 0 * f 12 := by
  have h : ex r f 13 = (((0 + 1 * r 3 * f 5) + (-1) * r 2 * f 9) + (-(-1)) * r 0 * f 12) := rfl
  rw [h]; grind
theorem ex_14 (r f : Nat → Int) : ex r f 14 = r 3 * f 6 - r 2 * f 10 + r 1 * f 12 := by
  have h : ex r f 14 = (((0 + 1 * r 3 * f 6) + (-1) * r 2 * f 10) + (-(-1)) * r 1 * f 12) := rfl
  rw [h]; grind
theorem ex_15 (r f : Nat → Int) : ex r f 15 = r 3 * f 7 - r 2 * f 11 + r 1 * f 13 - r 0 * f 14 := by
  have h : ex r f 15 = ((((0 + 1 * r 3 * f 7) + (-1) * r 2 * f 11) + (-(-1)) * r 1 * f 13) + (-(-(-1))) * r 0 * f 14) := rfl
  rw [h]; grind
theorem ex_16 (r f : Nat → Int) : ex r f 16 = r 4 * f 0 := by
  have h : ex r f 16 = (0 + 1 * r 4 * f 0) := rfl
  rw [h]; grind
theorem ex_17 (r f : Nat → Int) : ex r f 17 = r 4 * f 1 - r 0 * f 16 := by
  have h : ex r f 17 = ((0 + 1 * r 4 * f 1) + (-1) * r 0 * f 16) := rfl
  rw [h]; grind
theorem ex_18 (r f : Nat → Int) : ex r f 18 = r 4 * f 2 - r 1 * f 16 := by
  have h : ex r f 18 = ((0 + 1 * r 4 * f 2) + (-1) * r 1 * f 16) := rfl
  rw [h]; grind
theorem ex_19 (r f : Nat → Int) : ex r f 19 = r 4 * f 3 - r 1 * f 17 + r 0 * f 18 := by
  have h : ex r f 19 = (((0 + 1 * r 4 * f 3) + (-1) * r 1 * f 17) + (-(-1)) * r 0 * f 18) := rfl
  rw [h]; grind
theorem ex_20 (r f : Nat → Int) : ex r f 20 = r 4 * f 4 - r 2 * f 16 := by
  have h : ex r f 20 = ((0 + 1 * r 4 * f 4) + (-1) * r 2 * f 16) := rfl
  rw [h]; grind
theorem ex_21 (r f : Nat → Int) : ex r f 21 = r 4 * f 5 - r 2 * f 17 + r 0 * f 20 := by
  have h : ex r f 21 = (((0 + 1 * r 4 * f 5) + (-1) * r 2 * f 17) + (-(-1)) * r 0 * f 20) := rfl
  rw [h]; grind
theorem ex_22 (r f : Nat → Int) : ex r f 22 = r 4 * f 6 - r 2 * f 18 + r 1 * f 20 := by
  have h : ex r f 22 = (((0 + 1 * r 4 * f 6) + (-1) * r 2 * f 18) + (-(-1)) * r 1 * f 20) := rfl
  rw [h]; grind
theorem ex_23 (r f : Nat → Int) : ex r f 23 = r 4 * f 7 - r 2 * f 19 + r 1 * f 21 - r 0 * f 22 := by
  have h : ex r f 23 = ((((0 + 1 * r 4 * f 7) + (-1) * r 2 * f 19) + (-(-1)) * r 1 * f 21) + (-(-(-1))) * r 0 * f 22) := rfl
  rw [h]; grind
theorem ex_24 (r f : Nat → Int) : ex r f 24 = r 4 * f 8 - r 3 * f 16 := by
  have h : ex r f 24 = ((0 + 1 * r 4 * f 8) + (-1) * r 3 * f 16) := rfl
  rw [h]; grind
theorem ex_25 (r f : Nat → Int) : ex r f 25 = r 4 * f 9 - r 3 * f 17 + r 0 * f 24 := by
  have h : ex r f 25 = (((0 + 1 * r 4 * f 9) + (-1) * r 3 * f 17) + (-(-1)) * r 0 * f 24) := rfl
  rw [h]; grind
theorem ex_26 (r f : Nat → Int) : ex r f 26 = r 4 * f 10 - r 3 * f 18 + r 1 * f 24 := by
  have h : ex r f 26 = (((0 + 1 * r 4 * f 10) + (-1) * r 3 * f 18) + (-(-1)) * r 1 * f 24) := rfl
  rw [h]; grind
theorem ex_27 (r f : Nat → Int) : ex r f 27 = r 4 * f 11 - r 3 * f 19 + r 1 * f 25 - r 0 * f 26 := by
  have h : ex r f 27 = ((((0 + 1 * r 4 * f 11) + (-1) * r 3 * f 19) + (-(-1)) * r 1 * f 25) + (-(-(-1))) * r 0 * f 26) := rfl
  rw [h]; grind
theorem ex_28 (r f : Nat → Int) : ex r f 28 = r 4 * f 12 - r 3 * f 20 + r 2 * f 24 := by
  have h : ex r f 28 = (((0 + 1 * r 4 * f 12) + (-1) * r 3 * f 20) + (-(-1)) * r 2 * f 24) := rfl
  rw [h]; grind
theorem ex_29 (r f : Nat → Int) : ex r f 29 = r 4 * f 13 - r 3 * f 21 + r 2 * f 25 - r 0 * f 28 := by
  have h : ex r f 29 = ((((0 + 1 * r 4 * f 13) + (-1) * r 3 * f 21) + (-(-1)) * r 2 * f 25) + (-(-(-1))) * r 0 * f 28) := rfl
  rw [h]; grind
theorem ex_30 (r f : Nat → Int) : ex r f 30 = r 4 * f 14 - r 3 * f 22 + r 2 * f 26 - r 1 * f 28 := by
  have h : ex r f 30 = ((((0 + 1 * r 4 * f 14) + (-1) * r 3 * f 22) + (-(-1)) * r 2 * f 26) + (-(-(-1))) * r 1 * f 28) := rfl
  rw [h]; grind
theorem ex_31 (r f : Nat → Int) : ex r f 31 = r 4 * f 15 - r 3 * f 23 + r 2 * f 27 - r 1 * f 29 + r 0 * f 30 := by
  have h : ex r f 31 = (((((0 + 1 * r 4 * f 15) + (-1) * r 3 * f 23) + (-(-1)) * r 2 * f 27) + (-(-(-1))) * r 1 * f 29) + (-(-(-(-1)))) * r 0 * f 30) := rfl
  rw [h]; grind
theorem cw_0 (v f : Nat → Int) : co v f 0 = v 3 * f 8 + v 2 * f 4 + v 1 * f 2 + v 0 * f 1 := by
  have h : co v f 0 = ((((0 + 1 * v 3 * f 8) + 1 * v 2 * f 4) + 1 * v 1 * f 2) + 1 * v 0 * f 1) := rfl
  rw [h]; grind
theorem cw_1 (v f : Nat → Int) : co v f 1 = v 3 * f 9 + v 2 * f 5 + v 1 * f 3 := by
  have h : co v f 1 = (((0 + 1 * v 3 * f 9) + 1 * v 2 * f 5) + 1 * v 1 * f 3) := rfl
  rw [h]; grind
theorem cw_2 (v f : Nat → Int) : co v f 2 = v 3 * f 10 + v 2 * f 6 - v 0 * f 3 := by
  have h : co v f 2 = (((0 + 1 * v 3 * f 10) + 1 * v 2 * f 6) + (-1) * v 0 * f 3) := rfl
  rw [h]; grind
theorem cw_3 (v f : Nat → Int) : co v f 3 = v 3 * f 11 + v 2 * f 7 := by
  have h : co v f 3 = ((0 + 1 * v 3 * f 11) + 1 * v 2 * f 7) := rfl
  rw [h]; grind
theorem cw_4 (v f : Nat → Int) : co v f 4 = v 3 * f 12 - v 1 * f 6 - v 0 * f 5 := by
  have h : co v f 4 = (((0 + 1 * v 3 * f 12) + (-1) * v 1 * f 6) + (-1) * v 0 * f 5) := rfl
  rw [h]; grind
theorem cw_5 (v f : Nat → Int) : co v f 5 = v 3 * f 13 - v 1 * f 7 := by
  have h : co v f 5 = ((0 + 1 * v 3 * f 13) + (-1) * v 1 * f 7) := rfl
  rw [h]; grind
theorem cw_6 (v f : Nat → Int) : co v f 6 = v 3 * f 14 + v 0 * f 7 := by
  have h : co v f 6 = ((0 + 1 * v 3 * f 14) + (-(-1)) * v 0 * f 7) := rfl
  rw [h]; grind
theorem cw_7 (v f : Nat → Int) : co v f 7 = v 3 * f 15 := by
  have h : co v f 7 = (0 + 1 * v 3 * f 15) := rfl
  rw [h]; grind
theorem cw_8 (v f : Nat → Int) : co v f 8 = -v 2 * f 12 - v 1 * f 10 - v 0 * f 9 := by
  have h : co v f 8 = (((0 + (-1) * v 2 * f 12) + (-1) * v 1 * f 10) + (-1) * v 0 * f 9) := rfl
  rw [h]; grind
theorem cw_9 (v f : Nat → Int) : co v f 9 = -v 2 * f 13 - v 1 * f 11 := by
  have h : co v f 9 = ((0 + (-1) * v 2 * f 13) + (-1) * v 1 * f 11) := rfl
  rw [h]; grind
theorem cw_10 (v f : Nat → Int) : co v f 10 = -v 2 * f 14 + v 0 * f 11 := by
  have h : co v f 10 = ((0 + (-1) * v 2 * f 14) + (-(-1)) * v 0 * f 11) := rfl
  rw [h]; grind
theorem cw_11 (v f : Nat → Int) : co v f 11 = -v 2 * f 15 := by
  have h : co v f 11 = (0 + (-1) * v 2 * f 15) := rfl
  rw [h]; grind
theorem cw_12 (v f : Nat → Int) : co v f 12 = v 1 * f 14 + v 0 * f 13 := by
  have h : co v f 12 = ((0 + (-(-1)) * v 1 * f 14) + (-(-1)) * v 0 * f 13) := rfl
  rw [h]; grind
theorem cw_13 (v f : Nat → Int) : co v f 13 = v 1 * f 15 := by
  have h : co v f 13 = (0 + (-(-1)) * v 1 * f 15) := rfl
  rw [h]; grind
theorem cw_14 (v f : Nat → Int) : co v f 14 = -v 0 * f 15 := by
  have h : co v f 14 = (0 + (-(-(-1))) * v 0 * f 15) := rfl
  rw [h]; grind
theorem cw_15 (v f : Nat → Int) : co v f 15 = 0 := rfl
theorem all16 {P : Nat → Prop} (h0 : P 0) (h1 : P 1) (h2 : P 2) (h3 : P 3) (h4 : P 4) (h5 : P 5) (h6 : P 6) (h7 : P 7) (h8 : P 8) (h9 : P 9) (h10 : P 10) (h11 : P 11) (h12 : P 12) (h13 : P 13) (h14 : P 14) (h15 : P 15) : ∀ G, G < 16 → P G
  | 0, _ => h0
  | 1, _ => h1
  | 2, _ => h2
  | 3, _ => h3
  | 4, _ => h4
  | 5, _ => h5
  | 6, _ => h6
  | 7, _ => h7
  | 8, _ => h8
  | 9, _ => h9
  | 10, _ => h10
  | 11, _ => h11
  | 12, _ => h12
  | 13, _ => h13
  | 14, _ => h14
  | 15, _ => h15
  | k + 16, h => absurd h (by omega)
theorem all32 {P : Nat → Prop} (h0 : P 0) (h1 : P 1) (h2 : P 2) (h3 : P 3) (h4 : P 4) (h5 : P 5) (h6 : P 6) (h7 : P 7) (h8 : P 8) (h9 : P 9) (h10 : P 10) (h11 : P 11) (h12 : P 12) (h13 : P 13) (h14 : P 14) (h15 : P 15) (h16 : P 16) (h17 : P 17) (h18 : P 18) (h19 : P 19) (h20 : P 20) (h21 : P 21) (h22 : P 22) (h23 : P 23) (h24 : P 24) (h25 : P 25) (h26 : P 26) (h27 : P 27) (h28 : P 28) (h29 : P 29) (h30 : P 30) (h31 : P 31) : ∀ G, G < 32 → P G
  | 0, _ => h0
  | 1, _ => h1
  | 2, _ => h2
  | 3, _ => h3
  | 4, _ => h4
  | 5, _ => h5
  | 6, _ => h6
  | 7, _ => h7
  | 8, _ => h8
  | 9, _ => h9
  | 10, _ => h10
  | 11, _ => h11
  | 12, _ => h12
  | 13, _ => h13
  | 14, _ => h14
  | 15, _ => h15
  | 16, _ => h16
  | 17, _ => h17
  | 18, _ => h18
  | 19, _ => h19
  | 20, _ => h20
  | 21, _ => h21
  | 22, _ => h22
  | 23, _ => h23
  | 24, _ => h24
  | 25, _ => h25
  | 26, _ => h26
  | 27, _ => h27
  | 28, _ => h28
  | 29, _ => h29
  | 30, _ => h30
  | 31, _ => h31
  | k + 32, h => absurd h (by omega)
theorem ex_swap (r r' f : Nat → Int) : ∀ G, G < 32 → ex r (ex r' f) G = -ex r' (ex r f) G := by
  apply all32 <;> simp only [ex_0, ex_1, ex_2, ex_3, ex_4, ex_5, ex_6, ex_7, ex_8, ex_9, ex_10, ex_11, ex_12, ex_13, ex_14, ex_15, ex_16, ex_17, ex_18, ex_19, ex_20, ex_21, ex_22, ex_23, ex_24, ex_25, ex_26, ex_27, ex_28, ex_29, ex_30, ex_31] <;> grind
theorem exf_smul (r f : Nat → Int) (e : Int) (G : Nat) : ∀ n acc s, exf r (fun H => e * f H) G n (e * acc) s = e * exf r f G n acc s
  | 0, _, _ => rfl
  | n + 1, acc, s => by
    unfold exf
    by_cases h : G.testBit n
    · rw [if_pos h, if_pos h, ← exf_smul r f e G n]
      refine congrArg (fun z => exf r (fun H => e * f H) G n z (-s)) ?_
      grind
    · rw [if_neg h, if_neg h, exf_smul r f e G n]
theorem ex_smul (r f : Nat → Int) (e : Int) (G : Nat) : ex r (fun H => e * f H) G = e * ex r f G := by
  have h := exf_smul r f e G 5 0 1
  rw [Int.mul_zero] at h
  exact h
theorem exf_lin (r r' f : Nat → Int) (a b : Int) (G : Nat) : ∀ n x y s, exf (fun c => a * r c + b * r' c) f G n (a * x + b * y) s = a * exf r f G n x s + b * exf r' f G n y s
  | 0, _, _, _ => rfl
  | n + 1, x, y, s => by
    unfold exf
    by_cases h : G.testBit n
    · rw [if_pos h, if_pos h, if_pos h, ← exf_lin r r' f a b G n]
      refine congrArg (fun z => exf (fun c => a * r c + b * r' c) f G n z (-s)) ?_
      grind
    · rw [if_neg h, if_neg h, if_neg h, exf_lin r r' f a b G n]
theorem ex_lin (r r' f : Nat → Int) (a b : Int) (G : Nat) : ex (fun c => a * r c + b * r' c) f G = a * ex r f G + b * ex r' f G := by
  have h := exf_lin r r' f a b G 5 0 0 1
  rw [Int.mul_zero, Int.mul_zero, Int.add_zero] at h
  exact h
theorem exf_congr {r f g : Nat → Int} {G : Nat} (hG : G < 32) (h : ∀ H, H < 32 → f H = g H) : ∀ n, n ≤ 5 → ∀ acc s, exf r f G n acc s = exf r g G n acc s
  | 0, _, _, _ => rfl
  | n + 1, hn, acc, s => by
    have hx : G ^^^ 2 ^ n < 32 := Nat.xor_lt_two_pow (n := 5) hG (Nat.pow_lt_pow_right (by omega) (by omega))
    unfold exf
    rw [h _ hx, exf_congr hG h n (by omega), exf_congr hG h n (by omega)]
theorem ex_congr {r f g : Nat → Int} {G : Nat} (hG : G < 32) (h : ∀ H, H < 32 → f H = g H) : ex r f G = ex r g G := exf_congr hG h 5 (by omega) 0 1
def mn : List (Nat → Int) → Nat → Int
  | [] => fun G => if G = 0 then 1 else 0
  | r :: rs => ex r (mn rs)
theorem mn_perm {l l' : List (Nat → Int)} (h : l.Perm l') : ∃ e : Int, (e = 1 ∨ e = -1) ∧ ∀ G, G < 32 → mn l G = e * mn l' G := by
  induction h with
  | nil => exact ⟨1, .inl rfl, fun G _ => (Int.one_mul _).symm⟩
  | cons r _ ih =>
    obtain ⟨e, he, h⟩ := ih
    refine ⟨e, he, fun G hG => ?_⟩
    show ex r (mn _) G = e * ex r (mn _) G
    rw [← ex_smul, ex_congr hG h]
  | swap r r' l => exact ⟨-1, .inr rfl, fun G hG => by show ex _ (ex _ _) G = -1 * ex _ (ex _ _) G; rw [ex_swap _ _ _ G hG]; omega⟩
  | trans _ _ i1 i2 =>
    obtain ⟨e, he, h⟩ := i1
    obtain ⟨d, hd, h'⟩ := i2
    refine ⟨e * d, ?_, fun G hG => by rw [h G hG, h' G hG, Int.mul_assoc]⟩
    rcases he with rfl | rfl <;> rcases hd with rfl | rfl <;> simp
theorem mn_dup {r : Nat → Int} {rs : List (Nat → Int)} (h : r ∈ rs) : ∀ G, G < 32 → mn (r :: rs) G = 0 := by
  obtain ⟨s, t, rfl⟩ := List.append_of_mem h
  obtain ⟨e, he, hp⟩ := mn_perm (List.Perm.cons r (List.perm_middle (a := r) (l₁ := s) (l₂ := t)))
  intro G hG
  have hs : mn (r :: r :: (s ++ t)) G = 0 := by
    have := ex_swap r r (mn (s ++ t)) G hG
    show ex r (ex r (mn (s ++ t))) G = 0
    omega
  rw [hp G hG, hs, Int.mul_zero]
theorem xor_sub {G n : Nat} (h : G.testBit n = true) : ∀ b, (G ^^^ 2 ^ n).testBit b = true → G.testBit b = true := by
  intro b hb
  rw [Nat.testBit_xor, Nat.testBit_two_pow] at hb
  by_cases e : n = b
  · subst e; exact h
  · simpa [e] using hb
theorem exf_ne {r f : Nat → Int} {G : Nat} : ∀ n acc s, exf r f G n acc s ≠ acc → ∃ c, c < n ∧ G.testBit c = true ∧ f (G ^^^ 2 ^ c) ≠ 0
  | 0, acc, s, h => absurd rfl h
  | n + 1, acc, s, h => by
    unfold exf at h
    by_cases hb : G.testBit n
    · rw [if_pos hb] at h
      by_cases hz : f (G ^^^ 2 ^ n) = 0
      · rw [hz, Int.mul_zero, Int.add_zero] at h
        obtain ⟨c, hc, q⟩ := exf_ne n _ _ h
        exact ⟨c, by omega, q⟩
      · exact ⟨n, by omega, hb, hz⟩
    · rw [if_neg hb] at h
      obtain ⟨c, hc, q⟩ := exf_ne n _ _ h
      exact ⟨c, by omega, q⟩
theorem mn_sub {r : Nat → Int} {rs : List (Nat → Int)} {G : Nat} (hG : G < 32) (h : mn (r :: rs) G ≠ 0) : ∃ H, H < 32 ∧ (∀ b, H.testBit b = true → G.testBit b = true) ∧ mn rs H ≠ 0 := by
  obtain ⟨c, hc, hb, hz⟩ := exf_ne 5 0 1 h
  exact ⟨G ^^^ 2 ^ c, Nat.xor_lt_two_pow (n := 5) hG (Nat.pow_lt_pow_right (by omega) (by omega)), xor_sub hb, hz⟩
theorem mn_suf : ∀ (l : List (Nat → Int)) {R : List (Nat → Int)} {G : Nat}, G < 32 → mn (l ++ R) G ≠ 0 → ∃ H, H < 32 ∧ (∀ b, H.testBit b = true → G.testBit b = true) ∧ mn R H ≠ 0
  | [], _, G, hG, h => ⟨G, hG, fun _ q => q, h⟩
  | r :: l, R, G, hG, h => by
    obtain ⟨H, hH, hs, hz⟩ := mn_sub hG h
    obtain ⟨K, hK, hs', hz'⟩ := mn_suf l hH hz
    exact ⟨K, hK, fun b q => hs b (hs' b q), hz'⟩
theorem pop_xor : ∀ G, G < 32 → ∀ c, c < 5 → G.testBit c = true → pop8 G = pop8 (G ^^^ 2 ^ c) + 1 := by decide +kernel
theorem mn_len : ∀ (R : List (Nat → Int)) {G : Nat}, G < 32 → mn R G ≠ 0 → pop8 G = R.length
  | [], G, hG, h => by
    unfold mn at h
    by_cases e : G = 0
    · subst e; rfl
    · simp [e] at h
  | r :: R, G, hG, h => by
    obtain ⟨c, hc, hb, hz⟩ := exf_ne 5 0 1 h
    have := mn_len R (Nat.xor_lt_two_pow (n := 5) hG (Nat.pow_lt_pow_right (by omega) (by omega))) hz
    rw [pop_xor G hG c hc hb, this, List.length_cons]
theorem co_ex (v r f : Nat → Int) : ∀ H, H < 16 → co v (ex r f) H = dot4 r v * f H - ex r (co v f) H := by
  unfold dot4
  apply all16 <;> simp only [cw_0, cw_1, cw_2, cw_3, cw_4, cw_5, cw_6, cw_7, cw_8, cw_9, cw_10, cw_11, cw_12, cw_13, cw_14, cw_15] <;> simp only [ex_0, ex_1, ex_2, ex_3, ex_4, ex_5, ex_6, ex_7, ex_8, ex_9, ex_10, ex_11, ex_12, ex_13, ex_14, ex_15, ex_16, ex_17, ex_18, ex_19, ex_20, ex_21, ex_22, ex_23, ex_24, ex_25, ex_26, ex_27, ex_28, ex_29, ex_30, ex_31, cw_0, cw_1, cw_2, cw_3, cw_4, cw_5, cw_6, cw_7, cw_8, cw_9, cw_10, cw_11, cw_12, cw_13, cw_14, cw_15] <;> grind
theorem co_mn {v : Nat → Int} : ∀ (R : List (Nat → Int)), (∀ r, r ∈ R → dot4 r v = 0) → ∀ H, H < 16 → co v (mn R) H = 0
  | [], _ => by apply all16 <;> simp only [cw_0, cw_1, cw_2, cw_3, cw_4, cw_5, cw_6, cw_7, cw_8, cw_9, cw_10, cw_11, cw_12, cw_13, cw_14, cw_15] <;> simp [mn]
  | r :: R, h => by
    intro H hH
    show co v (ex r (mn R)) H = 0
    have hz : ex r (co v (mn R)) H = ex r (fun G => 0 * G) H := by
      have := co_mn R (fun q hq => h q (List.mem_cons_of_mem _ hq))
      clear h
      revert H
      apply all16 <;> simp only [ex_0, ex_1, ex_2, ex_3, ex_4, ex_5, ex_6, ex_7, ex_8, ex_9, ex_10, ex_11, ex_12, ex_13, ex_14, ex_15, ex_16, ex_17, ex_18, ex_19, ex_20, ex_21, ex_22, ex_23, ex_24, ex_25, ex_26, ex_27, ex_28, ex_29, ex_30, ex_31] <;> simp [this]
    rw [co_ex v r (mn R) H hH, h r (List.mem_cons_self ..), hz, ex_smul]
    omega
theorem mn_ker {R : List (Nat → Int)} {v : Nat → Int} (h : ∀ r, r ∈ R → dot4 r v = 0) : ∀ F, F < 16 → (∀ j, j < 4 → F.testBit j = false → v j = 0) → ∀ j, j < 4 → F.testBit j = true → mn R F * v j = 0 := by
  have hc := co_mn R h
  apply all16
  · intro hv j hj hb
    have v0 : v 0 = 0 := hv 0 (by omega) (by decide)
    have v1 : v 1 = 0 := hv 1 (by omega) (by decide)
    have v2 : v 2 = 0 := hv 2 (by omega) (by decide)
    have v3 : v 3 = 0 := hv 3 (by omega) (by decide)
    have hj' : j = 0 ∨ j = 1 ∨ j = 2 ∨ j = 3 := by omega
    rcases hj' with rfl | rfl | rfl | rfl
    · exact absurd hb (by decide)
    · exact absurd hb (by decide)
    · exact absurd hb (by decide)
    · exact absurd hb (by decide)
  · intro hv j hj hb
    have v1 : v 1 = 0 := hv 1 (by omega) (by decide)
    have v2 : v 2 = 0 := hv 2 (by omega) (by decide)
    have v3 : v 3 = 0 := hv 3 (by omega) (by decide)
    have hj' : j = 0 ∨ j = 1 ∨ j = 2 ∨ j = 3 := by omega
    rcases hj' with rfl | rfl | rfl | rfl
    · have q := hc 0 (by decide)
      rw [cw_0] at q
      rw [v3, v2, v1] at q
      grind
    · exact absurd hb (by decide)
    · exact absurd hb (by decide)
    · exact absurd hb (by decide)
  · intro hv j hj hb
    have v0 : v 0 = 0 := hv 0 (by omega) (by decide)
    have v2 : v 2 = 0 := hv 2 (by omega) (by decide)
    have v3 : v 3 = 0 := hv 3 (by omega) (by decide)
    have hj' : j = 0 ∨ j = 1 ∨ j = 2 ∨ j = 3 := by omega
    rcases hj' with rfl | rfl | rfl | rfl
    · exact absurd hb (by decide)
    · have q := hc 0 (by decide)
      rw [cw_0] at q
      rw [v3, v2, v0] at q
      grind
    · exact absurd hb (by decide)
    · exact absurd hb (by decide)
  · intro hv j hj hb
    have v2 : v 2 = 0 := hv 2 (by omega) (by decide)
    have v3 : v 3 = 0 := hv 3 (by omega) (by decide)
    have hj' : j = 0 ∨ j = 1 ∨ j = 2 ∨ j = 3 := by omega
    rcases hj' with rfl | rfl | rfl | rfl
    · have q := hc 2 (by decide)
      rw [cw_2] at q
      rw [v3, v2] at q
      grind
    · have q := hc 1 (by decide)
      rw [cw_1] at q
      rw [v3, v2] at q
      grind
    · exact absurd hb (by decide)
    · exact absurd hb (by decide)
  · intro hv j hj hb
    have v0 : v 0 = 0 := hv 0 (by omega) (by decide)
    have v1 : v 1 = 0 := hv 1 (by omega) (by decide)
    have v3 : v 3 = 0 := hv 3 (by omega) (by decide)
    have hj' : j = 0 ∨ j = 1 ∨ j = 2 ∨ j = 3 := by omega
    rcases hj' with rfl | rfl | rfl | rfl
    · exact absurd hb (by decide)
    · exact absurd hb (by decide)
    · have q := hc 0 (by decide)
      rw [cw_0] at q
      rw [v3, v1, v0] at q
      grind
    · exact absurd hb (by decide)
  · intro hv j hj hb
    have v1 : v 1 = 0 := hv 1 (by omega) (by decide)
    have v3 : v 3 = 0 := hv 3 (by omega) (by decide)
    have hj' : j = 0 ∨ j = 1 ∨ j = 2 ∨ j = 3 := by omega
    rcases hj' with rfl | rfl | rfl | rfl
    · have q := hc 4 (by decide)
      rw [cw_4] at q
      rw [v3, v1] at q
      grind
    · exact absurd hb (by decide)
    · have q := hc 1 (by decide)
      rw [cw_1] at q
      rw [v3, v1] at q
      grind
    · exact absurd hb (by decide)
  · intro hv j hj hb
    have v0 : v 0 = 0 := hv 0 (by omega) (by decide)
    have v3 : v 3 = 0 := hv 3 (by omega) (by decide)
    have hj' : j = 0 ∨ j = 1 ∨ j = 2 ∨ j = 3 := by omega
    rcases hj' with rfl | rfl | rfl | rfl
    · exact absurd hb (by decide)
    · have q := hc 4 (by decide)
      rw [cw_4] at q
      rw [v3, v0] at q
      grind
    · have q := hc 2 (by decide)
      rw [cw_2] at q
      rw [v3, v0] at q
      grind
    · exact absurd hb (by decide)
  · intro hv j hj hb
    have v3 : v 3 = 0 := hv 3 (by omega) (by decide)
    have hj' : j = 0 ∨ j = 1 ∨ j = 2 ∨ j = 3 := by omega
    rcases hj' with rfl | rfl | rfl | rfl
    · have q := hc 6 (by decide)
      rw [cw_6] at q
      rw [v3] at q
      grind
    · have q := hc 5 (by decide)
      rw [cw_5] at q
      rw [v3] at q
      grind
    · have q := hc 3 (by decide)
      rw [cw_3] at q
      rw [v3] at q
      grind
    · exact absurd hb (by decide)
  · intro hv j hj hb
    have v0 : v 0 = 0 := hv 0 (by omega) (by decide)
    have v1 : v 1 = 0 := hv 1 (by omega) (by decide)
    have v2 : v 2 = 0 := hv 2 (by omega) (by decide)
    have hj' : j = 0 ∨ j = 1 ∨ j = 2 ∨ j = 3 := by omega
    rcases hj' with rfl | rfl | rfl | rfl
    · exact absurd hb (by decide)
    · exact absurd hb (by decide)
    · exact absurd hb (by decide)
    · have q := hc 0 (by decide)
      rw [cw_0] at q
      rw [v2, v1, v0] at q
      grind
  · intro hv j hj hb
    have v1 : v 1 = 0 := hv 1 (by omega) (by decide)
    have v2 : v 2 = 0 := hv 2 (by omega) (by decide)
    have hj' : j = 0 ∨ j = 1 ∨ j = 2 ∨ j = 3 := by omega
    rcases hj' with rfl | rfl | rfl | rfl
    · have q := hc 8 (by decide)
      rw [cw_8] at q
      rw [v2, v1] at q
      grind
    · exact absurd hb (by decide)
    · exact absurd hb (by decide)
    · have q := hc 1 (by decide)
      rw [cw_1] at q
      rw [v2, v1] at q
      grind
  · intro hv j hj hb
    have v0 : v 0 = 0 := hv 0 (by omega) (by decide)
    have v2 : v 2 = 0 := hv 2 (by omega) (by decide)
    have hj' : j = 0 ∨ j = 1 ∨ j = 2 ∨ j = 3 := by omega
    rcases hj' with rfl | rfl | rfl | rfl
    · exact absurd hb (by decide)
    · have q := hc 8 (by decide)
      rw [cw_8] at q
      rw [v2, v0] at q
      grind
    · exact absurd hb (by decide)
    · have q := hc 2 (by decide)
      rw [cw_2] at q
      rw [v2, v0] at q
      grind
  · intro hv j hj hb
    have v2 : v 2 = 0 := hv 2 (by omega) (by decide)
    have hj' : j = 0 ∨ j = 1 ∨ j = 2 ∨ j = 3 := by omega
    rcases hj' with rfl | rfl | rfl | rfl
    · have q := hc 10 (by decide)
      rw [cw_10] at q
      rw [v2] at q
      grind
    · have q := hc 9 (by decide)
      rw [cw_9] at q
      rw [v2] at q
      grind
    · exact absurd hb (by decide)
    · have q := hc 3 (by decide)
      rw [cw_3] at q
      rw [v2] at q
      grind
  · intro hv j hj hb
    have v0 : v 0 = 0 := hv 0 (by omega) (by decide)
    have v1 : v 1 = 0 := hv 1 (by omega) (by decide)
    have hj' : j = 0 ∨ j = 1 ∨ j = 2 ∨ j = 3 := by omega
    rcases hj' with rfl | rfl | rfl | rfl
    · exact absurd hb (by decide)
    · exact absurd hb (by decide)
    · have q := hc 8 (by decide)
      rw [cw_8] at q
      rw [v1, v0] at q
      grind
    · have q := hc 4 (by decide)
      rw [cw_4] at q
      rw [v1, v0] at q
      grind
  · intro hv j hj hb
    have v1 : v 1 = 0 := hv 1 (by omega) (by decide)
    have hj' : j = 0 ∨ j = 1 ∨ j = 2 ∨ j = 3 := by omega
    rcases hj' with rfl | rfl | rfl | rfl
    · have q := hc 12 (by decide)
      rw [cw_12] at q
      rw [v1] at q
      grind
    · exact absurd hb (by decide)
    · have q := hc 9 (by decide)
      rw [cw_9] at q
      rw [v1] at q
      grind
    · have q := hc 5 (by decide)
      rw [cw_5] at q
      rw [v1] at q
      grind
  · intro hv j hj hb
    have v0 : v 0 = 0 := hv 0 (by omega) (by decide)
    have hj' : j = 0 ∨ j = 1 ∨ j = 2 ∨ j = 3 := by omega
    rcases hj' with rfl | rfl | rfl | rfl
    · exact absurd hb (by decide)
    · have q := hc 12 (by decide)
      rw [cw_12] at q
      rw [v0] at q
      grind
    · have q := hc 10 (by decide)
      rw [cw_10] at q
      rw [v0] at q
      grind
    · have q := hc 6 (by decide)
      rw [cw_6] at q
      rw [v0] at q
      grind
  · intro hv j hj hb
    have hj' : j = 0 ∨ j = 1 ∨ j = 2 ∨ j = 3 := by omega
    rcases hj' with rfl | rfl | rfl | rfl
    · have q := hc 14 (by decide)
      rw [cw_14] at q
      grind
    · have q := hc 13 (by decide)
      rw [cw_13] at q
      grind
    · have q := hc 11 (by decide)
      rw [cw_11] at q
      grind
    · have q := hc 7 (by decide)
      rw [cw_7] at q
      grind
def sab (G j : Nat) : Int := if pop8 (G / 2 ^ (j + 1)) % 2 = 1 then -1 else 1
def vec (f : Nat → Int) (G j : Nat) : Int := if G.testBit j then sab G j * f (G ^^^ 2 ^ j) else 0
theorem vec_0 (f : Nat → Int) : vec f 0 0 = 0 ∧ vec f 0 1 = 0 ∧ vec f 0 2 = 0 ∧ vec f 0 3 = 0 := ⟨rfl, rfl, rfl, rfl⟩
theorem vec_1 (f : Nat → Int) : vec f 1 0 = 1 * f 0 ∧ vec f 1 1 = 0 ∧ vec f 1 2 = 0 ∧ vec f 1 3 = 0 := ⟨rfl, rfl, rfl, rfl⟩
theorem vec_2 (f : Nat → Int) : vec f 2 0 = 0 ∧ vec f 2 1 = 1 * f 0 ∧ vec f 2 2 = 0 ∧ vec f 2 3 = 0 := ⟨rfl, rfl, rfl, rfl⟩
theorem vec_3 (f : Nat → Int) : vec f 3 0 = -1 * f 2 ∧ vec f 3 1 = 1 * f 1 ∧ vec f 3 2 = 0 ∧ vec f 3 3 = 0 := ⟨rfl, rfl, rfl, rfl⟩
theorem vec_4 (f : Nat → Int) : vec f 4 0 = 0 ∧ vec f 4 1 = 0 ∧ vec f 4 2 = 1 * f 0 ∧ vec f 4 3 = 0 := ⟨rfl, rfl, rfl, rfl⟩
theorem vec_5 (f : Nat → Int) : vec f 5 0 = -1 * f 4 ∧ vec f 5 1 = 0 ∧ vec f 5 2 = 1 * f 1 ∧ vec f 5 3 = 0 := ⟨rfl, rfl, rfl, rfl⟩
theorem vec_6 (f : Nat → Int) : vec f 6 0 = 0 ∧ vec f 6 1 = -1 * f 4 ∧ vec f 6 2 = 1 * f 2 ∧ vec f 6 3 = 0 := ⟨rfl, rfl, rfl, rfl⟩
theorem vec_7 (f : Nat → Int) : vec f 7 0 = 1 * f 6 ∧ vec f 7 1 = -1 * f 5 ∧ vec f 7 2 = 1 * f 3 ∧ vec f 7 3 = 0 := ⟨rfl, rfl, rfl, rfl⟩
theorem vec_8 (f : Nat → Int) : vec f 8 0 = 0 ∧ vec f 8 1 = 0 ∧ vec f 8 2 = 0 ∧ vec f 8 3 = 1 * f 0 := ⟨rfl, rfl, rfl, rfl⟩
theorem vec_9 (f : Nat → Int) : vec f 9 0 = -1 * f 8 ∧ vec f 9 1 = 0 ∧ vec f 9 2 = 0 ∧ vec f 9 3 = 1 * f 1 := ⟨rfl, rfl, rfl, rfl⟩
theorem vec_10 (f : Nat → Int) : vec f 10 0 = 0 ∧ vec f 10 1 = -1 * f 8 ∧ vec f 10 2 = 0 ∧ vec f 10 3 = 1 * f 2 := ⟨rfl, rfl, rfl, rfl⟩
theorem vec_11 (f : Nat → Int) : vec f 11 0 = 1 * f 10 ∧ vec f 11 1 = -1 * f 9 ∧ vec f 11 2 = 0 ∧ vec f 11 3 = 1 * f 3 := ⟨rfl, rfl, rfl, rfl⟩
theorem vec_12 (f : Nat → Int) : vec f 12 0 = 0 ∧ vec f 12 1 = 0 ∧ vec f 12 2 = -1 * f 8 ∧ vec f 12 3 = 1 * f 4 := ⟨rfl, rfl, rfl, rfl⟩
theorem vec_13 (f : Nat → Int) : vec f 13 0 = 1 * f 12 ∧ vec f 13 1 = 0 ∧ vec f 13 2 = -1 * f 9 ∧ vec f 13 3 = 1 * f 5 := ⟨rfl, rfl, rfl, rfl⟩
theorem vec_14 (f : Nat → Int) : vec f 14 0 = 0 ∧ vec f 14 1 = 1 * f 12 ∧ vec f 14 2 = -1 * f 10 ∧ vec f 14 3 = 1 * f 6 := ⟨rfl, rfl, rfl, rfl⟩
theorem vec_15 (f : Nat → Int) : vec f 15 0 = -1 * f 14 ∧ vec f 15 1 = 1 * f 13 ∧ vec f 15 2 = -1 * f 11 ∧ vec f 15 3 = 1 * f 7 := ⟨rfl, rfl, rfl, rfl⟩
theorem ex_vec (r f : Nat → Int) : ∀ G, G < 16 → ex r f G = dot4 r (vec f G) := by
  unfold dot4
  apply all16
  · obtain ⟨h0, h1, h2, h3⟩ := vec_0 f
    rw [ex_0, h0, h1, h2, h3]; grind
  · obtain ⟨h0, h1, h2, h3⟩ := vec_1 f
    rw [ex_1, h0, h1, h2, h3]; grind
  · obtain ⟨h0, h1, h2, h3⟩ := vec_2 f
    rw [ex_2, h0, h1, h2, h3]; grind
  · obtain ⟨h0, h1, h2, h3⟩ := vec_3 f
    rw [ex_3, h0, h1, h2, h3]; grind
  · obtain ⟨h0, h1, h2, h3⟩ := vec_4 f
    rw [ex_4, h0, h1, h2, h3]; grind
  · obtain ⟨h0, h1, h2, h3⟩ := vec_5 f
    rw [ex_5, h0, h1, h2, h3]; grind
  · obtain ⟨h0, h1, h2, h3⟩ := vec_6 f
    rw [ex_6, h0, h1, h2, h3]; grind
  · obtain ⟨h0, h1, h2, h3⟩ := vec_7 f
    rw [ex_7, h0, h1, h2, h3]; grind
  · obtain ⟨h0, h1, h2, h3⟩ := vec_8 f
    rw [ex_8, h0, h1, h2, h3]; grind
  · obtain ⟨h0, h1, h2, h3⟩ := vec_9 f
    rw [ex_9, h0, h1, h2, h3]; grind
  · obtain ⟨h0, h1, h2, h3⟩ := vec_10 f
    rw [ex_10, h0, h1, h2, h3]; grind
  · obtain ⟨h0, h1, h2, h3⟩ := vec_11 f
    rw [ex_11, h0, h1, h2, h3]; grind
  · obtain ⟨h0, h1, h2, h3⟩ := vec_12 f
    rw [ex_12, h0, h1, h2, h3]; grind
  · obtain ⟨h0, h1, h2, h3⟩ := vec_13 f
    rw [ex_13, h0, h1, h2, h3]; grind
  · obtain ⟨h0, h1, h2, h3⟩ := vec_14 f
    rw [ex_14, h0, h1, h2, h3]; grind
  · obtain ⟨h0, h1, h2, h3⟩ := vec_15 f
    rw [ex_15, h0, h1, h2, h3]; grind
