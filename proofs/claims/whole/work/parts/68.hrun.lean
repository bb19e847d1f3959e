/-! PURE: run, both. -/
theorem best_same {μa μe μf : Mem} {x1 : Int32} (hi : Inp μa μe) (hB : Bst μa 10000 μe) (hr : RB μe 10000 x1 μf) :
    (x1 = 0 ∧ μe.1 5 6 = 0) ∨ (x1 = 1 ∧ μe.1 5 6 = 1 ∧ (∃ y, Fe μa y) ∧ (∀ i, i < 4 → μf.1 36 i = μe.1 26 i) ∧ μf.2 7 13 = μe.2 5 7) := by
  obtain ⟨-, hr⟩ := hr
  rcases hr with ⟨a, b⟩ | ⟨a, b, b1, b2, b3, b4, b5⟩
  · rcases hB with ⟨c, d⟩ | ⟨c, d, d1, d2, -⟩
    · exact Or.inl ⟨a, c⟩
    · exact absurd ((Fe_I hi d).2 d2) (b d d1)
  · rcases hB with ⟨c, d⟩ | ⟨c, d, d1, d2, d3, d4, d5⟩
    · exact absurd ((Fe_I hi b).1 b2) (d b b1)
    · have e1 := b5 d d1 ((Fe_I hi d).2 d2)
      have e2 := d5 b b1 ((Fe_I hi b).1 b2)
      rw [price_I hi, price_I hi] at e1
      have ep : price μa (mx d) = price μa (mx b) := by
        have := e1.1
        have := e2.1
        omega
      have ebd : b = d := by
        have := e1.2 ep
        have := e2.2 ep.symm
        omega
      subst ebd
      refine Or.inr ⟨a, c, ⟨b, d2⟩, fun i hi4 => by rw [b3 i hi4, d3 i hi4], ?_⟩
      apply Int64.toInt_inj.1
      rw [b4, d4, price_I hi]
theorem h_run {N : Nat} (hN : 10300 ≤ N) : H_run N Inv := by
  intro μ hI
  obtain ⟨μa, μe, bc, n, g, k1, iA, iE, hRx, hCut, kbc, k8, kB, kS, k60, k61, k27, k63, k64, k67, kg, k11, k12, kcop, k66⟩ := run_class hN hI
  have hRe : Rx μe n := ⟨iE.A hRx.1, iE.R hRx.2.1, hRx.2.2.1, by rw [iE.1.2.1]; exact hRx.2.2.2⟩
  obtain ⟨x1, μf, f1, f2⟩ := s_findWhole hN hRe
  have fw := f2.1
  have iF : Inp μe μf := fw.inp
  have hRf : Rx μf n := ⟨iF.A hRe.1, iF.R hRe.2.1, hRx.2.2.1, by rw [iF.1.2.1]; exact hRe.2.2.2⟩
  have hXf : InvX μf := fun r hr => by rw [fw.1 34 r (by omega) (by omega), fw.1 35 r (by omega) (by omega)]; exact kS.2.2.2 r hr
  obtain ⟨μg, g1, g2⟩ := s_setLimits (N := N) (by omega) hXf hRf.2.1 hRf.2.2.1 hRf.2.2.2
  have hw : RW μf n μg := ⟨fun k j q1 q2 q3 q4 => g2.1.1 k j (fun q => by unfold WIl at q; omega), fun k j _ _ => g2.1.2 k j (fun q => q.1), g2.ins, fun k hk => (g2.2 k hk).2⟩
  obtain ⟨μh, h1, h2, h3, h4⟩ := s_looks (N := N) (by omega) hRf hw
  have iAF : Inp μa μf := iE.trans iF
  have hE : RefEnd μa μh := RefEnd.I iAF hRx.2.1 ⟨h3, h4⟩
  have cs := cut_same hRx.1 hRx.2.1 hCut hE
  have bsm := best_same iE kB f2
  -- frames
  have hi : ∀ k j, k ≠ 15 → k ≠ 38 → k ≠ 16 → k ≠ 39 → k ≠ 36 → k ≠ 37 → μh.1 k j = μe.1 k j := fun k j q1 q2 q3 q4 q5 q6 => (h2.1 k j q1 q2 q3 q4).trans (fw.1 k j q5 q6)
  have hj : ∀ k j, k ≠ 46 → k ≠ 7 → μh.2 k j = μe.2 k j := fun k j q1 q2 => (h2.2.1 k j q1 (fun q => q2 q.1)).trans (fw.2 k j (fun q => q2 q.1))
  have h36 : ∀ i, μh.1 36 i = μf.1 36 i := fun i => h2.1 36 i (by omega) (by omega) (by omega) (by omega)
  have h713 : μh.2 7 13 = μf.2 7 13 := h2.2.1 7 13 (by omega) (by omega)
  have h70 : μh.1 7 0 = nI n := by rw [hi _ _ (by omega) (by omega) (by omega) (by omega) (by omega) (by omega)]; exact hRe.2.2.2
  -- what holds at the end, whatever is found
  have fin : ∀ z : Nat → Nat → Int32, (∀ k j, k ≠ 7 → z k j = μh.1 k j) → z 7 0 = μh.1 7 0 → InvF (z, μh.2) → Inv (z, μh.2) := by
    intro z z1 z2 hz
    have zi : ∀ k j, k ≠ 7 → k ≠ 15 → k ≠ 38 → k ≠ 16 → k ≠ 39 → k ≠ 36 → k ≠ 37 → z k j = μe.1 k j := fun k j q0 q1 q2 q3 q4 q5 q6 => (z1 k j q0).trans (hi k j q1 q2 q3 q4 q5 q6)
    have iZ : Inp μe (z, μh.2) := by
      refine ⟨⟨zi _ _ (by omega) (by omega) (by omega) (by omega) (by omega) (by omega) (by omega), ?_, zi _ _ (by omega) (by omega) (by omega) (by omega) (by omega) (by omega) (by omega)⟩, fun k i q => zi _ _ (by omega) (by omega) (by omega) (by omega) (by omega) (by omega) (by omega), fun k i q => hj _ _ (by omega) (by omega)⟩
      show z 7 0 = _
      rw [z2, h70]
      exact hRe.2.2.2.symm
    exact ⟨iZ.A hRe.1, iZ.R hRe.2.1, kS.of (zi _ _ (by omega) (by omega) (by omega) (by omega) (by omega) (by omega) (by omega)) (fun i => zi _ _ (by omega) (by omega) (by omega) (by omega) (by omega) (by omega) (by omega)) (fun i => zi _ _ (by omega) (by omega) (by omega) (by omega) (by omega) (by omega) (by omega)) (fun i => hj _ _ (by omega) (by omega)) (hj _ _ (by omega) (by omega)) (fun i => zi _ _ (by omega) (by omega) (by omega) (by omega) (by omega) (by omega) (by omega)) (fun i => zi _ _ (by omega) (by omega) (by omega) (by omega) (by omega) (by omega) (by omega)), hz⟩
  -- the reference's run
  obtain ⟨z0, hz0⟩ : ∃ z, z = upI (upI μh.1 7 11 (μh.1 7 0)) 7 16 0 := ⟨_, rfl⟩
  have unf : M_Mo_run N μe = if x1 = 0 then (if lg_cmp (μh.2 7 15) 0 ≤ (0 : Int32) then ((M_Mo_findClash N (upI z0 7 10 2, μh.2)).bind fun μ61 => M_Mo_run_64 N μ61) else M_Mo_run_64 N (upI z0 7 10 1, μh.2)) else M_Mo_run_64 N (upI z0 7 10 0, μh.2) := by
    unfold M_Mo_run
    rw [f1, bs2, g1, bs, h1, bs, pI, bs, pI, bs, hz0]
    rfl
  have zk : ∀ k j, k ≠ 7 → z0 k j = μh.1 k j := fun k j q => by rw [hz0, upI_ne q, upI_ne q]
  have z70 : z0 7 0 = μh.1 7 0 := by rw [hz0, upI_pl (by omega), upI_pl (by omega)]
  have z711 : z0 7 11 = nI n := by rw [hz0, upI_pl (by omega), upI_at]; exact h70
  have h6 : ∀ j, μh.1 6 j = μe.1 6 j := fun j => hi _ _ (by omega) (by omega) (by omega) (by omega) (by omega) (by omega)
  have h27 : ∀ i, i < 4 → μh.1 27 i = μe.1 26 i := fun i hi4 => by rw [hi _ _ (by omega) (by omega) (by omega) (by omega) (by omega) (by omega)]; exact k27 i hi4
  have j6 : ∀ j, μh.2 6 j = μe.2 6 j := fun j => hj _ _ (by omega) (by omega)
  -- equal fractions
  have frac : 0 < (μh.2 7 15).toInt → (μe.2 4 11).toInt * (μh.2 7 15).toInt = (μh.2 7 14).toInt * (μe.2 4 12).toInt → Nat.gcd (μh.2 7 14).toInt.natAbs (μh.2 7 15).toInt.natAbs = 1 → μe.2 6 5 = μh.2 7 14 ∧ μe.2 6 6 = μh.2 7 15 := by
    intro q1 q2 q3
    rw [k11, k12] at q2
    have q4 : (μe.2 6 5).toInt * (μh.2 7 15).toInt = (μh.2 7 14).toInt * (μe.2 6 6).toInt := by
      rw [Int.mul_assoc, Int.mul_left_comm] at q2
      rw [← Int.mul_left_comm] at q2
      exact Int.eq_of_mul_eq_mul_left (by omega) (q2.trans (Int.mul_left_comm ..))
    obtain ⟨r1, r2⟩ := low_eq k66 q1 kcop q3 q4
    exact ⟨Int64.toInt_inj.1 r1, Int64.toInt_inj.1 r2⟩
  rcases bsm with ⟨x0, e56⟩ | ⟨x1', e56, ⟨y, hy⟩, b36, b13⟩
  · have e60 : μe.1 6 0 = 0 := by rw [k60]; exact e56
    rw [if_pos e60] at k1
    rw [if_pos x0] at unf
    rcases cs with ⟨c1, c2, c3, c4, c5, c6, -⟩ | ⟨c0, c1, c2, c3, c4, bc', c5, c6, c7, c8, c9⟩
    · have e64 : μe.1 6 4 = 1 := by rw [k64]; exact c1
      rw [if_neg (by rw [e64]; decide)] at k1
      have n15 : ¬ lg_cmp (μh.2 7 15) 0 ≤ (0 : Int32) := by
        rw [cmp_le, Int64.le_iff_toInt_le]
        show ¬ (μh.2 7 15).toInt ≤ 0
        omega
      rw [if_neg n15] at unf
      obtain ⟨r1, r2⟩ := frac c2 c5 c6
      refine ⟨1, μe, (upI z0 7 10 1, μh.2), k1, ?_, fin _ (fun k j q => by rw [upI_ne q]; exact zk k j q) (by rw [upI_pl (by omega)]; exact z70) (Or.inr (Or.inr (Or.inl ⟨upI_at z0 7 10 1, ?_, ?_, ?_, ?_, ?_⟩)))⟩
      · rw [unf, M_Mo_run_64]
        dsimp only
        rw [upI_at]
      · dsimp only; rw [upI_ne (by omega), zk _ _ (by omega), h6]; exact e60
      · dsimp only; rw [upI_ne (by omega), zk _ _ (by omega), h6]; exact e64
      · dsimp only; rw [j6]; exact r1
      · dsimp only; rw [j6]; exact r2
      · dsimp only; rw [upI_ne (by omega), zk _ _ (by omega), h6, k67, if_neg (by rw [c1]; decide)]
    · have e64 : μe.1 6 4 = 0 := by rw [k64]; exact c0
      rw [if_pos e64] at k1
      have n15 : lg_cmp (μh.2 7 15) 0 ≤ (0 : Int32) := by
        rw [cmp_le, c1]
        decide
      rw [if_pos n15] at unf
      obtain ⟨T, hT, hT2, h14, -⟩ := id hRe.2.1
      have eT : Tn μa = T := by
        rw [← Tn_I iE]
        unfold Tn
        rw [hT2, nI_clamp (by omega)]
      have ebc : bc' = bc := by
        have := k8 e64
        rw [c5] at this
        exact (nI_eq (by omega) (by omega)).1 this
      subst ebc
      have fc := s_findClash (N := N) (T := T) (μ := (upI z0 7 10 2, μh.2)) (by omega) hT (fun r hr => by
        dsimp only
        rw [upI_ne (by omega), zk _ _ (by omega), hi _ _ (by omega) (by omega) (by omega) (by omega) (by omega) (by omega)]
        exact h14 r hr)
      have noe : ∀ S, noK (upI z0 7 10 2, μh.2) S = noK μh S := fun S => by
        have := noK_up (μ := (z0, μh.2)) (j := 10) (v := 2) S
        rw [this, hz0]
        have := noK_up (μ := (upI μh.1 7 11 (μh.1 7 0), μh.2)) (j := 16) (v := 0) S
        rw [this]
        exact noK_up (μ := μh) (j := 11) (v := μh.1 7 0) S
      rw [show noK (upI z0 7 10 2, μh.2) = noK μh from funext noe] at fc
      rw [eT] at c7 c8 c9 k67
      have ecl : cl (allB μe bc') T 256 = cl (noK μh) T 256 := cl_congr _ _ T (fun S hS hST => c7 S hS hST) 256 (Nat.le_refl _)
      obtain ⟨S, hSe⟩ : ∃ S, S = (cl (noK μh) T 256).1 := ⟨_, rfl⟩
      have hS256 : S < 256 := by rw [hSe]; exact (cl_ok (noK μh) T 256 (Nat.le_refl _)).1
      have hTT : T &&& T = T := Nat.and_self T
      have hS0 : 0 < S := by
        refine Nat.pos_of_ne_zero ?_
        rw [hSe]
        exact cl_ne (noK μh) T T c8 hT hTT (by rw [← c7 T hT hTT]; exact c9) 256 (Nat.le_refl _) hT
      rw [← hSe] at fc
      refine ⟨2, μe, (upI (upI z0 7 10 2) 7 16 (nI S), μh.2), k1, ?_, fin _ (fun k j q => by rw [upI_ne q, upI_ne q]; exact zk k j q) (by rw [upI_pl (by omega), upI_pl (by omega)]; exact z70) (Or.inr (Or.inr (Or.inr ⟨?_, ?_, ?_, S, hS0, hS256, ?_, upI_at (upI z0 7 10 2) 7 16 _⟩)))⟩
      · rw [unf, fc, bs, M_Mo_run_64]
        dsimp only
        rw [upI_pl (by omega), upI_at]
      · dsimp only; rw [upI_pl (by omega), upI_at]
      · dsimp only; rw [upI_ne (by omega), upI_ne (by omega), zk _ _ (by omega), h6]; exact e60
      · dsimp only; rw [upI_ne (by omega), upI_ne (by omega), zk _ _ (by omega), h6]; exact e64
      · dsimp only; rw [upI_ne (by omega), upI_ne (by omega), zk _ _ (by omega), h6, k67, if_pos c0, ecl, hSe]
  · have e60 : μe.1 6 0 = 1 := by rw [k60]; exact e56
    rw [if_neg (by rw [e60]; decide)] at k1
    rw [if_neg (by rw [x1']; decide)] at unf
    rcases cs with ⟨c1, c2, c3, c4, c5, c6, -⟩ | ⟨-, -, -, -, c4, -⟩
    · have e64 : μe.1 6 4 = 1 := by rw [k64]; exact c1
      obtain ⟨r1, r2⟩ := frac c2 c5 c6
      refine ⟨0, μe, (upI z0 7 10 0, μh.2), k1, ?_, fin _ (fun k j q => by rw [upI_ne q]; exact zk k j q) (by rw [upI_pl (by omega)]; exact z70) (Or.inr (Or.inl ⟨upI_at z0 7 10 0, ?_, ⟨n, hRx.2.2.1, ?_, ?_⟩, fun i hi4 => ?_, ?_, ?_, ?_, ?_, ?_⟩))⟩
      · rw [unf, M_Mo_run_64]
        dsimp only
        rw [upI_at]
      · dsimp only; rw [upI_ne (by omega), zk _ _ (by omega), h6]; exact e60
      · dsimp only; rw [upI_ne (by omega), zk _ _ (by omega), h6]; exact k61
      · dsimp only; rw [upI_pl (by omega)]; exact z711
      · dsimp only; rw [upI_ne (by omega), zk _ _ (by omega), h27 i hi4, upI_ne (by omega), zk _ _ (by omega), h36, b36 i hi4]
      · dsimp only; rw [j6, k63, h713, b13]
      · dsimp only; rw [upI_ne (by omega), zk _ _ (by omega), h6]; exact e64
      · dsimp only; rw [j6]; exact r1
      · dsimp only; rw [j6]; exact r2
      · dsimp only; rw [upI_ne (by omega), zk _ _ (by omega), h6, k67, if_neg (by rw [c1]; decide)]
    · obtain ⟨p, p1, p2⟩ := Fe_corner hRx hy
      exact absurd p2 (c4 p p1)
