/-! PURE: CutSearch.weigh. -/
def WIs (k : Nat) : Prop := k = 4 ∨ k = 13 ∨ k = 24
def WJs (k : Nat) : Prop := k = 4 ∨ k = 43 ∨ k = 44 ∨ (70 ≤ k ∧ k < 75)
def Cx (μ0 : Mem) (m : Nat) (rl : Nat → Nat) : Prop := InvA μ0 ∧ InvR μ0 ∧ SidesOK μ0 μ0 8 m rl
theorem Cx.rl {μ0 : Mem} {m : Nat} {rl : Nat → Nat} (h : Cx μ0 m rl) : RlOK μ0 rl m := fun i hi => (h.2.2.2.2.1 i hi).2
theorem Cx.sur {μ0 : Mem} {m : Nat} {rl : Nat → Nat} (h : Cx μ0 m rl) : ∀ r, r < 8 → (Tn μ0).testBit r = true → ∃ i, i < m ∧ rl i = r := h.2.2.2.2.2.1
theorem InvA.eqs {μ0 μ : Mem} (h : InvA μ0) (hq : eqO WIs WJs μ0 μ) : InvA μ :=
  h.of (hq.1 1 0 (by unfold WIs; omega)) (hq.1 7 0 (by unfold WIs; omega)) (fun i => hq.1 17 i (by unfold WIs; omega)) (fun i => hq.1 28 i (by unfold WIs; omega)) (fun i => hq.1 29 i (by unfold WIs; omega)) (fun i => hq.1 30 i (by unfold WIs; omega)) (fun i => hq.2 42 i (by unfold WJs; omega)) (fun k _ _ i => hq.2 k i (by unfold WJs; omega))
theorem kp_congr {μ0 μ : Mem} {r : Nat} (hc : ∀ k, (18 ≤ k ∧ k < 23) ∨ k = 30 → ∀ i, μ.1 k i = μ0.1 k i) {x p : Nat → Int} {D : Int} (hx : ∀ i, i < 4 → x i = p i) : kp μ r x D ↔ kp μ0 r p D := by
  have e1 : fI μ r = fI μ0 r := by unfold fI; rw [hc 18 (by omega)]
  have e2 : gI μ r = gI μ0 r := by unfold gI; rw [hc 19 (by omega)]
  unfold kp
  rw [e1, e2, hc 20 (by omega), hc 21 (by omega), hc 22 (by omega), frm_congr (μ := μ0) (μ' := μ) (fun i => hc 30 (by omega) i), frm_congr (μ := μ0) (μ' := μ) (fun i => hc 30 (by omega) i), frm_pt hx, frm_pt hx]
theorem weigh_k {N m : Nat} {rl : Nat → Nat} {μ0 μ : Mem} {p : Nat → Int} {x1 : Int64} (hx : Cx μ0 m rl) (hq : eqO WIs WJs μ0 μ) (hp : ∀ i, i < 5 → μ.2 43 i = JJ (p i)) (hb : ∀ i, i < 5 → bnd 1000000000000000 (p i)) :
    ∀ (k n : Nat), k ≤ m → M_CS_weigh_61 N (n + k + 1) x1 (nI (uS μ0 rl p (m - k))) (nI (m - k)) (μ.1, holdJ μ.2 43 44 7) = M_CS_weigh_61 N (n + 1) x1 (nI (unk μ0 p)) (nI m) (μ.1, holdJ μ.2 43 44 7) := by
  obtain ⟨hA, hR, hS⟩ := id hx
  have hA' := hA.eqs hq
  have hpi : ∀ i, i < 5 → (μ.2 43 i).toInt = p i := fun i hi => by rw [hp i hi, JJ_bnd (hb i hi) (by decide)]
  have hm8 : m ≤ 8 := hS.1
  intro k
  induction k with
  | zero =>
    intro n _
    rw [Nat.sub_zero, uS_unk hx.rl hx.sur]
  | succ k ih =>
    intro n hk
    obtain ⟨i, hi⟩ : ∃ i, i = m - (k + 1) := ⟨_, rfl⟩
    have hn : m - k = i + 1 := by omega
    obtain ⟨s23, s8, sT⟩ := hS.2.2.1 i (by omega)
    have h3 : μ.1 3 0 = nI m := by rw [hq.1 3 0 (by unfold WIs; omega), hS.2.1]
    have h23 : μ.1 23 i = nI (rl i) := by rw [hq.1 23 i (by unfold WIs; omega), s23]
    have hro : RuleOK μ (rl i) := (told_lt hR s8 sT).of (fun k _ => hq.1 k (rl i) (by unfold WIs; omega))
    have hkp := keeps_point (N := N) (r := rl i) (k1 := 43) (k2 := 44) hA' s8 hro (.inr rfl) (.inr rfl) (fun j hj => by rw [hpi j hj]; exact hb j hj)
    have hke : kp μ (rl i) (fun i => (μ.2 43 i).toInt) (μ.2 43 4).toInt ↔ kp μ0 (rl i) p (p 4) := by
      rw [hpi 4 (by omega)]
      exact kp_congr (fun k _ i => hq.1 k i (by unfold WIs; omega)) (fun i hi => hpi i (by omega))
    have ul : uS μ0 rl p i < 256 := uS_lt i (fun i' hi' => (hx.rl i' (by omega)).1)
    have ih' := ih n (by omega)
    rw [hn] at ih'
    rw [← hi, show n + (k + 1) + 1 = (n + k + 1) + 1 by omega, M_CS_weigh_61, if_neg (by dsimp only; rw [h3]; exact nI_ge (by omega) (by omega)), ldI_n (by decide) (by decide) (by show i < 8; omega) (by decide), bs]
    dsimp only
    rw [h23, hkp, bs2, b01_congr hke]
    have eu : uS μ0 rl p (i + 1) = if kp μ0 (rl i) p (p 4) then uS μ0 rl p i else uS μ0 rl p i ||| 2 ^ rl i := rfl
    by_cases h : kp μ0 (rl i) p (p 4)
    · rw [if_neg (by rw [b01_0]; exact fun q => q h), nI_1]
      rw [eu, if_pos h] at ih'
      exact ih'
    · rw [if_pos (by rw [b01_0]; exact h), ldI_n (by decide) (by decide) (by show i < 8; omega) (by decide), bs, nm_eq]
      dsimp only
      rw [h23, (or8 _ ul _ s8).1, nI_1]
      rw [eu, if_neg h] at ih'
      exact ih'
theorem frac_tr {a b c d e f : Int} (hb : 0 < b) (hd : 0 < d) (hf : 0 < f) (h1 : a * d < c * b) (h2 : ¬ e * d < c * f) : ¬ e * b < a * f := by
  intro h3
  have k1 : a * d * f < c * b * f := Int.mul_lt_mul_of_pos_right h1 hf
  have k2 : c * f * b ≤ e * d * b := Int.mul_le_mul_of_nonneg_right (by omega) (by omega)
  have k3 : e * b * d < a * f * d := Int.mul_lt_mul_of_pos_right h3 hd
  have e1 : a * d * f = a * f * d := by grind
  have e2 : c * b * f = c * f * b := by grind
  have e3 : e * d * b = e * b * d := by grind
  omega
theorem price_bnd {μ : Mem} (hA : InvA μ) {p : Nat → Int} (hb : InBox μ p) (h4 : p 4 ≤ 100000000000000) : bnd 3600000000000000000 (price μ p) ∧ ∀ i, i < 5 → bnd 1000000000000000 (p i) := by
  obtain ⟨n, -, -, -, hst, hce, -⟩ := hA
  obtain ⟨p0, hin⟩ := hb
  have hp : ∀ i, i < 4 → 0 ≤ p i ∧ p i ≤ 900000000000000 := fun i hi => by
    obtain ⟨a, b⟩ := hin i hi
    obtain ⟨-, s1, s2, -⟩ := hst i hi
    have : stk μ i * p 4 ≤ 9 * 100000000000000 := by
      have := mul_bd (a := stk μ i) (b := p 4) (A := 9) (B := 100000000000000) (by unfold stk; omega) (by unfold stk; omega) (by omega) (by omega)
      exact this.2
    omega
  refine ⟨?_, fun i hi => ?_⟩
  · have t : ∀ i, i < 4 → bnd (1000 * 900000000000000) (cts μ i * p i) := fun i hi => by
      obtain ⟨-, c1, c2, -⟩ := hce i hi
      obtain ⟨a, b⟩ := hp i hi
      exact bd_mul ⟨by unfold cts; omega, by unfold cts; omega⟩ ⟨by omega, by omega⟩
    have t0 := t 0 (by omega)
    have t1 := t 1 (by omega)
    have t2 := t 2 (by omega)
    have t3 := t 3 (by omega)
    unfold price
    unfold bnd at *
    omega
  · by_cases e : i = 4
    · subst e; unfold bnd; omega
    · have := hp i (by omega)
      unfold bnd; omega
theorem s_weigh {N m : Nat} {rl : Nat → Nat} {μ0 μ : Mem} {p : Nat → Int} (hN : 200 ≤ N) (hx : Cx μ0 m rl) (hq : eqO WIs WJs μ0 μ) (hp : ∀ i, i < 5 → μ.2 43 i = JJ (p i)) (hc : Corner μ0 p) (h4 : p 4 ≤ 100000000000000) (hs : SS μ0 μ) :
    ∃ μ', M_CS_weigh N μ = some μ' ∧ eqO WIs (fun k => k = 4 ∨ k = 44) μ μ' ∧ μ'.1 4 9 = μ.1 4 9 ∧ SS μ0 μ' ∧ Cov μ0 μ' p ∧ ∀ p', 0 < p' 4 → Cov μ0 μ p' → Cov μ0 μ' p' := by
  obtain ⟨hA, hR, hS⟩ := id hx
  have p0 : 0 < p 4 := hc.1.1
  obtain ⟨pb, pi⟩ := price_bnd hA hc.1 h4
  have h42 : ∀ i, i < 4 → μ.2 42 i = JJ (cts μ i) := fun i hi => by
    obtain ⟨_, -, -, -, -, hce, -⟩ := hA.eqs hq
    rw [(hce i hi).1, i2l_J]; rfl
  have ec : price μ p = price μ0 p := by
    unfold price cts
    simp only [hq.1 29 _ (show ¬ WIs 29 by unfold WIs; omega)]
  have hpr : M_Lo_price N 43 μ = some (JJ (price μ0 p), μ) := by
    rw [s_price (by omega) h42 (fun i hi => hp i (by omega)), ec]
  have hm8 : m ≤ 8 := hS.1
  have h3 : μ.1 3 0 = nI m := by rw [hq.1 3 0 (by unfold WIs; omega), hS.2.1]
  have fr : ∀ x, ¬ x = 44 → ∀ j, holdJ μ.2 43 44 7 x j = μ.2 x j := fun x hx j => by rw [holdJ_row hx]
  -- from the point's weighing on
  have w41 : ∃ μ', M_CS_weigh_41 N (JJ (price μ0 p)) μ = some μ' ∧ eqO WIs (fun k => k = 4 ∨ k = 44) μ μ' ∧ μ'.1 4 9 = μ.1 4 9 ∧
      ((unk μ0 p = 0 ∧ μ'.1 4 10 = 1 ∧ μ'.2 4 11 = JJ (price μ0 p) ∧ μ'.2 4 12 = JJ (p 4) ∧ μ'.1 4 8 = μ.1 4 8 ∧ (∀ j, μ'.1 13 j = μ.1 13 j) ∧ ∀ j, μ'.1 24 j = μ.1 24 j) ∨
       (unk μ0 p ≠ 0 ∧ μ'.1 4 10 = μ.1 4 10 ∧ μ'.2 4 11 = μ.2 4 11 ∧ μ'.2 4 12 = μ.2 4 12 ∧
         ((μ.1 13 (unk μ0 p) ≠ 0 ∧ μ'.1 4 8 = μ.1 4 8 ∧ (∀ j, μ'.1 13 j = μ.1 13 j) ∧ ∀ j, μ'.1 24 j = μ.1 24 j) ∨
          (μ.1 13 (unk μ0 p) = 0 ∧ ∃ bc, bc < 256 ∧ μ.1 4 8 = nI bc ∧ μ'.1 4 8 = nI (bc + 1) ∧ μ'.1 13 (unk μ0 p) = 1 ∧ (∀ j, j ≠ unk μ0 p → μ'.1 13 j = μ.1 13 j) ∧ μ'.1 24 bc = nI (unk μ0 p) ∧ ∀ j, j ≠ bc → μ'.1 24 j = μ.1 24 j)))) := by
    have hk := weigh_k (N := N) (x1 := JJ (price μ0 p)) hx hq hp pi m (N - m - 1) (Nat.le_refl _)
    rw [show N - m - 1 + m + 1 = N by omega, Nat.sub_self] at hk
    have hk' : M_CS_weigh_61 N N (JJ (price μ0 p)) 0 0 (μ.1, holdJ μ.2 43 44 7) = _ := hk
    rw [M_CS_weigh_41, s_hold (by omega) (.inr rfl) (.inr rfl), bs, hk', M_CS_weigh_61, if_pos (by dsimp only; rw [h3]; exact nI_le (Nat.le_refl _) (by omega))]
    have ul : unk μ0 p < 256 := uf_lt _
    by_cases hu : unk μ0 p = 0
    · rw [if_pos (by rw [hu, nI_0]), pZ, if_pos (.inr rfl), bs, pJ, bs, show (4 : Int32) = nI 4 from rfl, ldJ_n (by decide) (by decide) (by decide) (by decide), bs, pJ, bs]
      refine ⟨_, rfl, ⟨fun k j hk => ?_, fun k j hk => ?_⟩, ?_, .inl ⟨hu, ?_, ?_, ?_, ?_, fun j => ?_, fun j => ?_⟩⟩
      · dsimp only
        rw [upI_ne (fun e => hk (.inl e))]
      · dsimp only
        rw [upJ_ne (fun e => hk (.inl e)), upJ_ne (fun e => hk (.inl e)), fr k (fun e => hk (.inr e))]
      · dsimp only
        rw [upI_pl (by decide)]
      · dsimp only
        rw [upI_at]
      · dsimp only
        rw [upJ_pl (by decide), upJ_at]
      · dsimp only
        rw [upJ_at, upJ_ne (by decide), fr 43 (by decide), hp 4 (by decide)]
      · dsimp only
        rw [upI_pl (by decide)]
      · dsimp only
        rw [upI_ne (by decide)]
      · dsimp only
        rw [upI_ne (by decide)]
    · rw [if_neg (nI_z (by omega) ul), ldZ_n (by decide) (by decide) (by show unk μ0 p < 256; omega) (by decide), bs]
      obtain ⟨⟨bc, hbc, h8, hcn, hz0, hent, hseen⟩, -⟩ := id hs
      by_cases hse : μ.1 13 (unk μ0 p) = 0
      · rw [if_pos hse, stZ_n (by decide) (by decide) (.inr rfl) (by show unk μ0 p < 256; omega) (by decide), bs]
        dsimp only
        rw [upI_ne (by decide), h8, stI_n (by decide) (by decide) (by show bc < 256; omega) (by decide), bs, pI, bs]
        dsimp only
        rw [upI_ne (by decide), upI_ne (by decide), h8, nI_1]
        refine ⟨_, rfl, ⟨fun k j hk => ?_, fun k j hk => ?_⟩, ?_, .inr ⟨hu, ?_, ?_, ?_, .inr ⟨hse, bc, hbc, rfl, ?_, ?_, fun j hj => ?_, ?_, fun j hj => ?_⟩⟩⟩
        · dsimp only
          rw [upI_ne (fun e => hk (.inl e)), upI_ne (fun e => hk (.inr (.inr e))), upI_ne (fun e => hk (.inr (.inl e)))]
        · dsimp only
          rw [fr k (fun e => hk (.inr e))]
        · dsimp only
          rw [upI_pl (by decide), upI_ne (by decide), upI_ne (by decide)]
        · dsimp only
          rw [upI_pl (by decide), upI_ne (by decide), upI_ne (by decide)]
        · dsimp only
          rw [fr 4 (by decide)]
        · dsimp only
          rw [fr 4 (by decide)]
        · dsimp only
          rw [upI_at]
        · dsimp only
          rw [upI_ne (by decide), upI_ne (by decide), upI_at]
        · dsimp only
          rw [upI_ne (by decide), upI_ne (by decide), upI_pl hj]
        · dsimp only
          rw [upI_ne (by decide), upI_at]
        · dsimp only
          rw [upI_ne (by decide), upI_pl hj, upI_ne (by decide)]
      · rw [if_neg hse]
        refine ⟨_, rfl, ⟨fun k j hk => rfl, fun k j hk => ?_⟩, rfl, .inr ⟨hu, rfl, ?_, ?_, .inl ⟨hse, rfl, fun _ => rfl, fun _ => rfl⟩⟩⟩
        · dsimp only
          rw [fr k (fun e => hk (.inr e))]
        · dsimp only
          rw [fr 4 (by decide)]
        · dsimp only
          rw [fr 4 (by decide)]
  obtain ⟨⟨bc, hbc, h8, hcn, hz0, hent, hseen⟩, hsu⟩ := id hs
  -- what that does to the state
  have fin : (μ.1 4 10 = 0 ∨ price μ0 p * (μ.2 4 12).toInt < (μ.2 4 11).toInt * p 4) → ∃ μ', M_CS_weigh_41 N (JJ (price μ0 p)) μ = some μ' ∧ eqO WIs (fun k => k = 4 ∨ k = 44) μ μ' ∧ μ'.1 4 9 = μ.1 4 9 ∧ SS μ0 μ' ∧ Cov μ0 μ' p ∧ ∀ p', 0 < p' 4 → Cov μ0 μ p' → Cov μ0 μ' p' := by
    intro hless
    obtain ⟨μ', w1, w2, w3, w4⟩ := w41
    refine ⟨μ', w1, w2, w3, ?_⟩
    have ul : unk μ0 p < 256 := uf_lt _
    rcases w4 with ⟨hu, a10, a11, a12, a8, a13, a24⟩ | ⟨hu, a10, a11, a12, hcase⟩
    · have i11 : (μ'.2 4 11).toInt = price μ0 p := by rw [a11, JJ_bnd pb (by decide)]
      have i12 : (μ'.2 4 12).toInt = p 4 := by rw [a12, JJ_int (by omega) (by omega)]
      have ef : μ'.1 13 = μ.1 13 := funext a13
      refine ⟨⟨⟨bc, hbc, by rw [a8, h8], by rw [ef]; exact hcn, by rw [ef]; exact hz0, fun i hi => by rw [a24 i]; exact hent i hi, fun b hb => by rw [ef]; rcases hseen b hb with q | ⟨q, i, q1, q2⟩; exact .inl q; exact .inr ⟨q, i, q1, by rw [a24 i]; exact q2⟩⟩, .inr ⟨a10, p, hc, (feas_unk μ0 p).mpr hu, i11, i12, h4⟩⟩, ⟨fun _ _ => ?_, fun h => ?_⟩, fun p' hp' hcov => ⟨fun _ hf => ?_, fun h => ?_⟩⟩
      · rw [i11, i12]; omega
      · rw [a10] at h; exact absurd h (by decide)
      · rw [i11, i12]
        rcases hsu with ⟨s0, -, -⟩ | ⟨s1, q, hq1, hq2, hq3, hq4, hq5⟩
        · obtain ⟨i, bc', b1, b2, b3, b4⟩ := hcov.2 s0
          have : bc' = bc := (nI_eq (by omega) (by omega)).mp (b1.symm.trans h8)
          subst this
          obtain ⟨b, e1, e2, e3, -⟩ := hent i b3
          have : unk μ0 p' = b := (nI_eq (by have := uf_lt (bad μ0 p'); unfold unk; omega) (by omega)).mp (b4.symm.trans e3)
          rw [(feas_unk μ0 p').mp hf] at this
          omega
        · rcases hless with l | l
          · rw [s1] at l; exact absurd l (by decide)
          · have hold := hcov.1 s1 hf
            have d0 : 0 < (μ.2 4 12).toInt := by rw [hq4]; exact hq1.1.1
            exact frac_tr p0 d0 hp' l hold
      · rw [a10] at h; exact absurd h (by decide)
    · have hnf : ¬ Feas μ0 p := fun f => hu ((feas_unk μ0 p).mp f)
      have hsu' : (μ'.1 4 10 = 0 ∧ μ'.2 4 11 = 0 ∧ μ'.2 4 12 = 1) ∨ (μ'.1 4 10 = 1 ∧ ∃ p, Corner μ0 p ∧ Feas μ0 p ∧ (μ'.2 4 11).toInt = price μ0 p ∧ (μ'.2 4 12).toInt = p 4 ∧ p 4 ≤ 100000000000000) := by
        rw [a10, a11, a12]; exact hsu
      rcases hcase with ⟨hse, a8, a13, a24⟩ | ⟨hse, bc', hbc', b8, b8', b13, b13', b24, b24'⟩
      · have ef : μ'.1 13 = μ.1 13 := funext a13
        refine ⟨⟨⟨bc, hbc, by rw [a8, h8], by rw [ef]; exact hcn, by rw [ef]; exact hz0, fun i hi => by rw [a24 i]; exact hent i hi, fun b hb => by rw [ef]; rcases hseen b hb with q | ⟨q, i, q1, q2⟩; exact .inl q; exact .inr ⟨q, i, q1, by rw [a24 i]; exact q2⟩⟩, hsu'⟩, ⟨fun _ f => absurd f hnf, fun h => ?_⟩, fun p' hp' hcov => ⟨fun h hf => ?_, fun h => ?_⟩⟩
        · rcases hseen _ ul with q | ⟨-, i, q1, q2⟩
          · exact absurd q hse
          · exact ⟨i, bc, by rw [a8, h8], hbc, q1, by rw [a24 i]; exact q2⟩
        · rw [a11, a12]; rw [a10] at h; exact hcov.1 h hf
        · rw [a10] at h
          obtain ⟨i, bc', b1, b2, b3, b4⟩ := hcov.2 h
          exact ⟨i, bc', by rw [a8, b1], b2, b3, by rw [a24 i, b4]⟩
      · have : bc' = bc := (nI_eq (by omega) (by omega)).mp (b8.symm.trans h8)
        subst this
        have z0 : μ'.1 13 0 = 0 := by rw [b13' 0 (fun e => hu e.symm), hz0]
        have hc1 : cn (μ'.1 13) 256 = bc' + 1 := by
          rw [cn_up (f := μ.1 13) (u := unk μ0 p) (by rw [hse]; decide) b13 b13' 256, if_pos ul, hcn]
        have hlt : bc' + 1 < 256 := by
          have := cn_lt (f := μ'.1 13) (by rw [z0]; decide) 255
          rw [hc1] at this
          omega
        have keep : ∀ i, i < bc' → μ'.1 24 i = μ.1 24 i := fun i hi => b24' i (by omega)
        refine ⟨⟨⟨bc' + 1, hlt, b8', hc1, z0, fun i hi => ?_, fun b hb => ?_⟩, hsu'⟩, ⟨fun _ f => absurd f hnf, fun h => ⟨bc', bc' + 1, b8', hlt, by omega, b24⟩⟩, fun p' hp' hcov => ⟨fun h hf => ?_, fun h => ?_⟩⟩
        · by_cases e : i = bc'
          · exact ⟨unk μ0 p, by omega, ul, by rw [e]; exact b24, p, hc, rfl⟩
          · rw [keep i (by omega)]; exact hent i (by omega)
        · by_cases e : b = unk μ0 p
          · rw [e]; exact .inr ⟨b13, bc', by omega, b24⟩
          · rw [b13' b e]
            rcases hseen b hb with q | ⟨q, i, q1, q2⟩
            · exact .inl q
            · exact .inr ⟨q, i, by omega, by rw [keep i q1]; exact q2⟩
        · rw [a11, a12]; rw [a10] at h; exact hcov.1 h hf
        · rw [a10] at h
          obtain ⟨i, bc2, c1, c2, c3, c4⟩ := hcov.2 h
          have : bc2 = bc' := (nI_eq (by omega) (by omega)).mp (c1.symm.trans h8)
          subst this
          exact ⟨i, bc2 + 1, b8', hlt, by omega, by rw [keep i c3, c4]⟩
  rw [M_CS_weigh, hpr, bs2]
  rcases hsu with ⟨s0, s1, s2⟩ | ⟨s1, q, hq1, hq2, hq3, hq4, hq5⟩
  · rw [if_pos s0]
    exact fin (.inl s0)
  · rw [if_neg (by rw [s1]; decide), show (4 : Int32) = nI 4 from rfl, ldJ_n (by decide) (by decide) (by decide) (by decide), bs, hp 4 (by decide)]
    obtain ⟨qb, -⟩ := price_bnd hA hq1.1 hq5
    have qp := hq1.1.1
    have i1 : (JJ (price μ0 p)).toInt = price μ0 p := JJ_bnd pb (by decide)
    have i2 : (JJ (p 4)).toInt = p 4 := JJ_int (by omega) (by omega)
    have f1 : Frac (JJ (price μ0 p)) (JJ (p 4)) := by
      unfold Frac
      rw [i1, i2]
      unfold bnd at pb
      omega
    have f2 : Frac (μ.2 4 11) (μ.2 4 12) := by
      unfold Frac
      rw [hq3, hq4]
      unfold bnd at qb
      omega
    rw [s_isLess hN f1 f2, bs, i1, i2]
    by_cases hl : price μ0 p * (μ.2 4 12).toInt < (μ.2 4 11).toInt * p 4
    · rw [if_neg (by rw [b01_0]; exact fun q => q hl)]
      exact fin (.inr hl)
    · rw [if_pos (by rw [b01_0]; exact hl)]
      refine ⟨μ, rfl, eqO.refl .., rfl, hs, ⟨fun _ _ => hl, fun h => ?_⟩, fun _ _ h => h⟩
      rw [s1] at h; exact absurd h (by decide)
