/-! What a mix holds, as whole numbers; broken. -/
def amt (μ : Mem) (w i : Nat) : Int := (μ.1 30 (5 * i + w)).toInt
def hv (μ : Mem) (x : Nat → Int) (w : Nat) : Int := amt μ w 0 * x 0 + amt μ w 1 * x 1 + amt μ w 2 * x 2 + amt μ w 3 * x 3
def frm (μ : Mem) (x : Nat → Int) (D : Int) (f : Nat) : Int := if f < 5 then hv μ x f else if f = 5 then x 0 + x 1 + x 2 + x 3 else D
def fI (μ : Mem) (r : Nat) : Nat := (μ.1 18 r).toNatClampNeg
def gI (μ : Mem) (r : Nat) : Nat := (μ.1 19 r).toNatClampNeg
abbrev kp (μ : Mem) (r : Nat) (x : Nat → Int) (D : Int) : Prop := (μ.1 20 r).toInt * frm μ x D (gI μ r) ≤ (μ.1 22 r).toInt * frm μ x D (fI μ r) ∧ (μ.1 22 r).toInt * frm μ x D (fI μ r) ≤ (μ.1 21 r).toInt * frm μ x D (gI μ r)
theorem dot5_int {f g : Nat → Int64} (hf : ∀ j, j < 5 → -100 ≤ (f j).toInt ∧ (f j).toInt ≤ 100) (hg : ∀ j, j < 5 → -1000000000000000 ≤ (g j).toInt ∧ (g j).toInt ≤ 1000000000000000) :
    (dot5 f g).toInt = (f 0).toInt * (g 0).toInt + (f 1).toInt * (g 1).toInt + (f 2).toInt * (g 2).toInt + (f 3).toInt * (g 3).toInt + (f 4).toInt * (g 4).toInt ∧ -500000000000000000 ≤ (dot5 f g).toInt ∧ (dot5 f g).toInt ≤ 500000000000000000 := by
  have b : ∀ j, j < 5 → -100000000000000000 ≤ (f j).toInt * (g j).toInt ∧ (f j).toInt * (g j).toInt ≤ 100000000000000000 := fun j hj => by
    have := mul_bd (hf j hj).1 (hf j hj).2 (hg j hj).1 (hg j hj).2
    omega
  have b0 := b 0 (by decide)
  have b1 := b 1 (by decide)
  have b2 := b 2 (by decide)
  have b3 := b 3 (by decide)
  have b4 := b 4 (by decide)
  have m : ∀ j, j < 5 → (f j * g j).toInt = (f j).toInt * (g j).toInt := fun j hj => mul64 (by have := b j hj; omega) (by have := b j hj; omega)
  have m0 := m 0 (by decide)
  have m1 := m 1 (by decide)
  have m2 := m 2 (by decide)
  have m3 := m 3 (by decide)
  have m4 := m 4 (by decide)
  have z : (0 : Int64).toInt = 0 := rfl
  have s0 : (0 + f 0 * g 0).toInt = (f 0).toInt * (g 0).toInt := by rw [add64] <;> rw [z, m0] <;> omega
  have s1 : (0 + f 0 * g 0 + f 1 * g 1).toInt = (f 0).toInt * (g 0).toInt + (f 1).toInt * (g 1).toInt := by rw [add64] <;> rw [s0, m1] <;> omega
  have s2 : (0 + f 0 * g 0 + f 1 * g 1 + f 2 * g 2).toInt = (f 0).toInt * (g 0).toInt + (f 1).toInt * (g 1).toInt + (f 2).toInt * (g 2).toInt := by rw [add64] <;> rw [s1, m2] <;> omega
  have s3 : (0 + f 0 * g 0 + f 1 * g 1 + f 2 * g 2 + f 3 * g 3).toInt = (f 0).toInt * (g 0).toInt + (f 1).toInt * (g 1).toInt + (f 2).toInt * (g 2).toInt + (f 3).toInt * (g 3).toInt := by rw [add64] <;> rw [s2, m3] <;> omega
  have s4 : (dot5 f g).toInt = (f 0).toInt * (g 0).toInt + (f 1).toInt * (g 1).toInt + (f 2).toInt * (g 2).toInt + (f 3).toInt * (g 3).toInt + (f 4).toInt * (g 4).toInt := by
    unfold dot5
    rw [add64] <;> rw [s3, m4] <;> omega
  exact ⟨s4, by omega, by omega⟩
/-- the held values of a point, as the class's hold writes them -/
theorem held_int {μ : Mem} (hA : InvA μ) {p : Nat → Int64} (hp : ∀ j, j < 5 → -1000000000000000 ≤ (p j).toInt ∧ (p j).toInt ≤ 1000000000000000) {f : Nat} (hf : f < 7) :
    (dot5 (μ.2 (47 + f)) p).toInt = frm μ (fun i => (p i).toInt) (p 4).toInt f ∧ -500000000000000000 ≤ (dot5 (μ.2 (47 + f)) p).toInt ∧ (dot5 (μ.2 (47 + f)) p).toInt ≤ 500000000000000000 := by
  obtain ⟨n, -, -, -, -, -, ha, g6, g7, g8, g9, g10⟩ := hA
  have z0 : (0 : Int64).toInt = 0 := rfl
  have z1 : (1 : Int64).toInt = 1 := rfl
  by_cases h5 : f < 5
  · have e : ∀ i, i < 4 → (μ.2 (47 + f) i).toInt = amt μ f i := fun i hi => by rw [(ha i hi f h5).1, i2l_toInt]; rfl
    have e4 : (μ.2 (47 + f) 4).toInt = 0 := by rw [g6 f h5]; rfl
    have hb : ∀ j, j < 5 → -100 ≤ (μ.2 (47 + f) j).toInt ∧ (μ.2 (47 + f) j).toInt ≤ 100 := fun j hj => by
      by_cases h4 : j = 4
      · subst h4
        rw [e4]
        decide
      · have := ha j (by omega) f h5
        rw [this.1, i2l_toInt]
        exact ⟨this.2.1, this.2.2.1⟩
    obtain ⟨s1, s2, s3⟩ := dot5_int hb hp
    refine ⟨?_, s2, s3⟩
    rw [s1, e 0 (by decide), e 1 (by decide), e 2 (by decide), e 3 (by decide), e4]
    unfold frm hv
    rw [if_pos h5]
    dsimp only
    omega
  · rcases (show f = 5 ∨ f = 6 by omega) with rfl | rfl
    · have hb : ∀ j, j < 5 → -100 ≤ (μ.2 (47 + 5) j).toInt ∧ (μ.2 (47 + 5) j).toInt ≤ 100 := fun j hj => by
        by_cases h4 : j = 4
        · subst h4
          rw [show (47 + 5) = 52 by rfl, g8]
          decide
        · rw [show (47 + 5) = 52 by rfl, g7 j (by omega)]
          decide
      obtain ⟨s1, s2, s3⟩ := dot5_int hb hp
      refine ⟨?_, s2, s3⟩
      rw [s1]
      rw [show (47 + 5) = 52 by rfl, g7 0 (by decide), g7 1 (by decide), g7 2 (by decide), g7 3 (by decide), g8, z0, z1]
      unfold frm
      rw [if_neg (by decide), if_pos rfl]
      dsimp only
      omega
    · have hb : ∀ j, j < 5 → -100 ≤ (μ.2 (47 + 6) j).toInt ∧ (μ.2 (47 + 6) j).toInt ≤ 100 := fun j hj => by
        by_cases h4 : j = 4
        · subst h4
          rw [show (47 + 6) = 53 by rfl, g10]
          decide
        · rw [show (47 + 6) = 53 by rfl, g9 j (by omega)]
          decide
      obtain ⟨s1, s2, s3⟩ := dot5_int hb hp
      refine ⟨?_, s2, s3⟩
      rw [s1]
      rw [show (47 + 6) = 53 by rfl, g9 0 (by decide), g9 1 (by decide), g9 2 (by decide), g9 3 (by decide), g10, z0, z1]
      unfold frm
      rw [if_neg (by decide), if_neg (by decide)]
      omega
/-- a told rule's numbers -/
theorem rule_facts {μ : Mem} {r : Nat} (hr : r < 8) (h : RuleOK μ r) : ∃ f g : Nat, f < 7 ∧ g < 7 ∧ μ.1 18 r = nI f ∧ μ.1 19 r = nI g ∧ fI μ r = f ∧ gI μ r = g ∧ -100000 ≤ (μ.1 20 r).toInt ∧ (μ.1 20 r).toInt ≤ 100000 ∧ -100000 ≤ (μ.1 21 r).toInt ∧ (μ.1 21 r).toInt ≤ 100000 ∧ 1 ≤ (μ.1 22 r).toInt ∧ (μ.1 22 r).toInt ≤ 100 := by
  obtain ⟨-, -, hle, h1, h2, h3⟩ := h
  have o1 : (1 : Int32).toInt = 1 := rfl
  by_cases h5 : r < 5
  · obtain ⟨a, b, c, d, e⟩ := h1 h5
    exact ⟨r, 6, by omega, by omega, a, b, by unfold fI; rw [a, nI_clamp (by omega)], by unfold gI; rw [b]; rfl, by omega, by omega, by omega, by omega, by rw [c, o1]; omega, by rw [c, o1]; omega⟩
  · by_cases h7 : r = 7
    · obtain ⟨a, b, c, d, e⟩ := h3 h7
      exact ⟨5, 6, by omega, by omega, a, b, by unfold fI; rw [a]; rfl, by unfold gI; rw [b]; rfl, by omega, by omega, by omega, by omega, by rw [c, o1]; omega, by rw [c, o1]; omega⟩
    · obtain ⟨⟨f, g, hf, hg, a, -, b, -⟩, -, c, d, e, i⟩ := h2 (by omega)
      exact ⟨f, g, by omega, by omega, a, b, by unfold fI; rw [a, nI_clamp (by omega)], by unfold gI; rw [b, nI_clamp (by omega)], by omega, by omega, by omega, by omega, c, d⟩
/-- the class's keeps at a point whose held values stand in cell k2 -/
theorem keeps_point {N r k1 k2 : Nat} {μ : Mem} (hA : InvA μ) (hr : r < 8) (hR : RuleOK μ r) (hk1 : k1 = 40 ∨ k1 = 43) (hk2 : k2 = 41 ∨ k2 = 44) (hp : ∀ j, j < 5 → -1000000000000000 ≤ (μ.2 k1 j).toInt ∧ (μ.2 k1 j).toInt ≤ 1000000000000000) :
    M_Ru_keeps N (nI r) k2 (μ.1, holdJ μ.2 k1 k2 7) = some (b01 (kp μ r (fun i => (μ.2 k1 i).toInt) (μ.2 k1 4).toInt), (μ.1, holdJ μ.2 k1 k2 7)) := by
  obtain ⟨f, g, hf, hg, e1, e2, e3, e4, a1, a2, a3, a4, a5, a6⟩ := rule_facts hr hR
  have hh : ∀ x, x < 7 → holdJ μ.2 k1 k2 7 k2 x = dot5 (μ.2 (47 + x)) (μ.2 k1) := fun x hx => by simp [holdJ, hx]
  obtain ⟨p1, p2, p3⟩ := held_int hA hp hf
  obtain ⟨q1, q2, q3⟩ := held_int hA hp hg
  have := s_keeps (N := N) (r := r) (k2 := k2) (f := f) (g := g) (μ := (μ.1, holdJ μ.2 k1 k2 7)) hr hk2 e1 e2 hf hg a1 a2 a3 a4 (by show -100000 ≤ (μ.1 22 r).toInt; omega) (by show (μ.1 22 r).toInt ≤ 100000; omega) (by dsimp only; rw [hh f hf]; omega) (by dsimp only; rw [hh f hf]; omega) (by dsimp only; rw [hh g hg]; omega) (by dsimp only; rw [hh g hg]; omega)
  rw [this]
  refine congrArg (fun z => some (z, (μ.1, holdJ μ.2 k1 k2 7))) (b01_congr ?_)
  dsimp only
  rw [hh f hf, hh g hg, p1, q1]
  unfold kp
  rw [e3, e4]
