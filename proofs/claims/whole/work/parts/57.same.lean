/-! PURE: both come to the same cut cost and the same clash. -/
def RefEnd (μb μ : Mem) : Prop := RSS μb μ ∧ ∀ p, Corner μb p → RCov μb μ p
theorem kpt_I {a b : Mem} (h : Inp a b) (p : Nat → Int) : kpt b p = kpt a p := by rw [kpt_unk, kpt_unk, unk_I h]
theorem RefEnd.I {a b μ : Mem} (h : Inp a b) (hR : InvR a) (q : RefEnd b μ) : RefEnd a μ := by
  obtain ⟨⟨q1, q2⟩, q3⟩ := q
  refine ⟨⟨fun x hx => ?_, ?_⟩, fun p hp => ?_⟩
  · rcases q1 x hx with z | ⟨z, p, p1, p2⟩
    · exact Or.inl z
    · exact Or.inr ⟨z, p, (Corner_I h hR p).1 p1, by rw [← kpt_I h]; exact p2⟩
  · rcases q2 with z | ⟨p, p1, p2, p3, p4⟩
    · exact Or.inl z
    · exact Or.inr ⟨p, (Corner_I h hR p).1 p1, (Feas_I h p).1 p2, p3, by rw [← price_I h]; exact p4⟩
  · have := q3 p ((Corner_I h hR p).2 hp)
    unfold RCov at *
    rw [← kpt_I h, ← price_I h, ← Feas_I h]
    exact this
/-- the corner where nothing is taken -/
def nil5 (j : Nat) : Int := if j = 4 then 1 else 0
theorem nil_corner {μ : Mem} (hA : InvA μ) : Corner μ nil5 := by
  have hs := stk_bd hA
  refine ⟨⟨by decide, fun j hj => ?_⟩, fun v hv j hj => hv.1 j hj (Or.inl ?_)⟩
  · have := hs j hj
    unfold nil5
    rw [if_neg (by omega), if_pos rfl]
    omega
  · unfold nil5
    rw [if_neg (by omega)]
theorem unk_sub {μ : Mem} (hR : InvR μ) (p : Nat → Int) : unk μ p &&& Tn μ = unk μ p := by
  have hlt := uf_lt (bad μ p)
  refine eq8 (and_lt hlt) hlt (fun r hr => ?_)
  rw [Nat.testBit_and, unk_bit μ p hr]
  unfold bad
  cases (Tn μ).testBit r <;> simp
theorem low_eq {a b o u : Int} (hb : 0 < b) (hu : 0 < u) (h1 : Nat.gcd a.natAbs b.natAbs = 1) (h2 : Nat.gcd o.natAbs u.natAbs = 1) (e : a * u = o * b) : a = o ∧ b = u := by
  have d1 : b.natAbs ∣ u.natAbs := by
    have : b.natAbs ∣ a.natAbs * u.natAbs := by rw [← Int.natAbs_mul, e, Int.natAbs_mul]; exact Nat.dvd_mul_left _ _
    exact (Nat.Coprime.dvd_of_dvd_mul_left (Nat.Coprime.symm h1) this)
  have d2 : u.natAbs ∣ b.natAbs := by
    have : u.natAbs ∣ o.natAbs * b.natAbs := by rw [← Int.natAbs_mul, ← e, Int.natAbs_mul]; exact Nat.dvd_mul_left _ _
    exact (Nat.Coprime.dvd_of_dvd_mul_left (Nat.Coprime.symm h2) this)
  have eb : b = u := by
    have := Nat.dvd_antisymm d1 d2
    omega
  subst eb
  exact ⟨Int.eq_of_mul_eq_mul_right (by omega) e, rfl⟩
theorem cut_same {μ0 μC μR : Mem} (hA : InvA μ0) (hR : InvR μ0) (hC : Cut μ0 μC) (hE : RefEnd μ0 μR) :
    (μC.1 4 10 = 1 ∧ 0 < (μR.2 7 15).toInt ∧ 0 < (μC.2 4 12).toInt ∧ bnd 3600000000000000000 (μC.2 4 11).toInt ∧ (μC.2 4 11).toInt * (μR.2 7 15).toInt = (μR.2 7 14).toInt * (μC.2 4 12).toInt ∧ Nat.gcd (μR.2 7 14).toInt.natAbs (μR.2 7 15).toInt.natAbs = 1 ∧ ∃ p, Corner μ0 p ∧ Feas μ0 p) ∨
    (μC.1 4 10 = 0 ∧ μR.2 7 15 = 0 ∧ μC.2 4 11 = 0 ∧ μC.2 4 12 = 1 ∧ (∀ p, Corner μ0 p → ¬ Feas μ0 p) ∧ ∃ bc, μC.1 4 8 = nI bc ∧ bc ≤ 256 ∧ (∀ S, S < 256 → S &&& Tn μ0 = S → allB μC bc S = noK μR S) ∧ Tn μ0 ≠ 0 ∧ allB μC bc (Tn μ0) = true) := by
  obtain ⟨⟨⟨bc, s1, s2, s3, s4, s5, s6⟩, s7⟩, hcov⟩ := hC
  obtain ⟨⟨r1, r2⟩, rcov⟩ := hE
  rcases s7 with ⟨c0, c1, c2⟩ | ⟨c1, p, p1, p2, p3, p4, p5⟩
  · right
    have nof : ∀ p, Corner μ0 p → ¬ Feas μ0 p := by
      intro p hp hf
      obtain ⟨i, bc', e1, e2, e3, e4⟩ := (hcov p hp).2 c0
      have : bc' = bc := by rw [s2] at e1; exact ((nI_eq (by omega) (by omega)).1 e1).symm
      subst this
      obtain ⟨b, b0, b1, b2, -⟩ := s5 i e3
      rw [b2, (feas_unk μ0 p).1 hf] at e4
      have := (nI_eq (by omega) (by omega)).1 e4
      omega
    have r15 : μR.2 7 15 = 0 := by
      rcases r2 with z | ⟨p, p1, p2, -⟩
      · exact z
      · exact absurd p2 (nof p p1)
    have hT : ∃ T, T < 256 ∧ Tn μ0 = T := by
      obtain ⟨T, hT, h2, -⟩ := hR
      exact ⟨T, hT, by unfold Tn; rw [h2, nI_clamp (by omega)]⟩
    obtain ⟨T, hT, eT⟩ := hT
    have allH : ∀ S, S < 256 → (allB μC bc S = true ↔ ∀ p, Corner μ0 p → ¬ unk μ0 p &&& S = 0) := by
      intro S hS
      unfold allB
      rw [decide_eq_true_iff]
      constructor
      · intro q p hp z
        obtain ⟨i, bc', e1, e2, e3, e4⟩ := (hcov p hp).2 c0
        have : bc' = bc := by rw [s2] at e1; exact ((nI_eq (by omega) (by omega)).1 e1).symm
        subst this
        apply q i e3
        rw [e4, and_nI, z]
        rfl
      · intro q i hi z
        obtain ⟨b, b0, b1, b2, p, hp, hu⟩ := s5 i hi
        rw [b2, and_nI] at z
        have hlt : b &&& S < 256 := and_lt b1
        have := (nI_eq (a := b &&& S) (b := 0) (by omega) (by omega)).1 z
        rw [← hu] at this
        exact q p hp this
    have noH : ∀ S, S < 256 → (noK μR S = true ↔ ∀ p, Corner μ0 p → ¬ unk μ0 p &&& S = 0) := by
      intro S hS
      have bits : ∀ p, (kpt μ0 p &&& S = S ↔ unk μ0 p &&& S = 0) := by
        intro p
        have hu := uf_lt (bad μ0 p)
        have hk := kpt_lt μ0 p
        constructor
        · intro h
          refine eq8 (and_lt hu) (by omega) (fun r hr => ?_)
          have := congrArg (fun x => x.testBit r) h
          simp only [Nat.testBit_and, kpt_bit μ0 p hr] at this
          rw [Nat.testBit_and, Nat.zero_testBit]
          cases h1 : (unk μ0 p).testBit r <;> cases h2 : S.testBit r <;> simp_all
        · intro h
          refine eq8 (and_lt hk) hS (fun r hr => ?_)
          have := congrArg (fun x => x.testBit r) h
          simp only [Nat.testBit_and, Nat.zero_testBit] at this
          rw [Nat.testBit_and, kpt_bit μ0 p hr]
          cases h1 : (unk μ0 p).testBit r <;> cases h2 : S.testBit r <;> simp_all
      rw [noK_iff]
      constructor
      · intro q p hp z
        rcases q (kpt μ0 p) (kpt_lt μ0 p) with w | w
        · have := (rcov p hp).1
          rw [w] at this
          exact absurd this (by decide)
        · exact w ((bits p).2 z)
      · intro q b hb
        rcases r1 b hb with w | ⟨w, p, hp, e⟩
        · exact Or.inl w
        · right
          rw [← e]
          exact fun z => q p hp ((bits p).1 z)
    refine ⟨c0, r15, c1, c2, nof, bc, s2, by omega, fun S hS hST => ?_, ?_, ?_⟩
    · have h12 : allB μC bc S = true ↔ noK μR S = true := (allH S hS).trans (noH S hS).symm
      cases e1 : allB μC bc S with
      | true => exact (h12.1 e1).symm
      | false =>
        cases e2 : noK μR S with
        | false => rfl
        | true => rw [h12.2 e2] at e1; exact absurd e1 (by decide)
    · intro z
      apply nof nil5 (nil_corner hA)
      intro r hr ht
      rw [z, Nat.zero_testBit] at ht
      exact absurd ht (by decide)
    · rw [allH _ (by omega)]
      intro p hp z
      rw [unk_sub hR] at z
      exact nof p hp ((feas_unk μ0 p).2 z)
  · left
    obtain ⟨z1, z2⟩ := (rcov p p1).2 p2
    obtain ⟨p', hB⟩ := r2.resolve_left z1
    have fr := hB.frac hA
    obtain ⟨b1, b2, b3, g, g0, g1, g2, g3⟩ := hB
    have k := (hcov p' b1).1 c1 b2
    have pp := p1.1.1
    refine ⟨c1, fr.2.2.1, by rw [p4]; exact pp, by rw [p3]; exact (price_bnd hA p1.1 p5).1, ?_, g3, p, p1, p2⟩
    rw [g1, g2] at k
    rw [← p3, ← p4] at z2
    generalize (μC.2 4 11).toInt = A at *
    generalize (μC.2 4 12).toInt = B at *
    generalize (μR.2 7 14).toInt = o at *
    generalize (μR.2 7 15).toInt = u at *
    have k' : ¬ o * B < A * u := fun h => k (by
      have := Int.mul_lt_mul_of_pos_left h g0
      rw [Int.mul_assoc, Int.mul_left_comm A g u]
      exact this)
    omega
