/-! PURE: the reference looks at one point. -/
def RW (μb : Mem) (n : Nat) (μ : Mem) : Prop := (∀ k j, k ≠ 15 → k ≠ 38 → k ≠ 16 → k ≠ 39 → μ.1 k j = μb.1 k j) ∧ (∀ k j, k ≠ 46 → ¬ (k = 7 ∧ (j = 14 ∨ j = 15 ∨ j = 22)) → μ.2 k j = μb.2 k j) ∧ LimsIn μ (rM μb n) ∧ ∀ k, k < 24 → μ.1 15 k = LB μb n k
/-- the best so far is some corner's, in lowest terms -/
def BestR (μb μ : Mem) (p : Nat → Int) : Prop := Corner μb p ∧ Feas μb p ∧ p 4 ≤ 100000000000000 ∧ ∃ g : Int, 0 < g ∧ price μb p = g * (μ.2 7 14).toInt ∧ p 4 = g * (μ.2 7 15).toInt ∧ Nat.gcd (μ.2 7 14).toInt.natAbs (μ.2 7 15).toInt.natAbs = 1
def RSS (μb μ : Mem) : Prop := (∀ b, b < 256 → μ.1 16 b = 0 ∨ (μ.1 16 b = 1 ∧ ∃ p, Corner μb p ∧ kpt μb p = b)) ∧ (μ.2 7 15 = 0 ∨ ∃ p, BestR μb μ p)
def RCov (μb μ : Mem) (p : Nat → Int) : Prop := μ.1 16 (kpt μb p) = 1 ∧ (Feas μb p → μ.2 7 15 ≠ 0 ∧ ¬ price μb p * (μ.2 7 15).toInt < (μ.2 7 14).toInt * p 4)
theorem eqv_kpt {μ : Mem} (hA : InvA μ) (hR : InvR μ) {p p' : Nat → Int} (h : Eqv p p') : kpt μ p' = kpt μ p := by
  rw [kpt_unk, kpt_unk, eqv_unk hA hR h]
theorem RCov_eqv {μb μ : Mem} (hA : InvA μb) (hR : InvR μb) {p q : Nat → Int} (h : Eqv p q) (hc : RCov μb μ q) : RCov μb μ p := by
  refine ⟨by rw [← eqv_kpt hA hR h]; exact hc.1, fun hf => ?_⟩
  have hfq : Feas μb q := by rw [feas_unk, eqv_unk hA hR h, ← feas_unk]; exact hf
  obtain ⟨c1, c2⟩ := hc.2 hfq
  refine ⟨c1, fun hlt => c2 ?_⟩
  have e := eqv_price μb h
  obtain ⟨p4, q4, -⟩ := h
  generalize (μ.2 7 15).toInt = y at *
  generalize (μ.2 7 14).toInt = x at *
  have k1 : price μb p * y * q 4 < x * p 4 * q 4 := Int.mul_lt_mul_of_pos_right hlt q4
  have k2 : (price μb q * y) * p 4 < (x * q 4) * p 4 := by
    have e1 : price μb q * y * p 4 = price μb p * y * q 4 := by
      rw [Int.mul_right_comm, Int.mul_comm (price μb q) (p 4), e, Int.mul_comm (q 4), Int.mul_right_comm]
    have e2 : x * q 4 * p 4 = x * p 4 * q 4 := Int.mul_right_comm ..
    rw [e1, e2]; exact k1
  exact Int.lt_of_mul_lt_mul_right k2 (by omega)
def prS (μ : Mem) (p : Nat → Int) : Nat → Int
  | 0 => 0
  | k + 1 => prS μ p k + p k * cts μ k
theorem prS_all {μ : Mem} {n : Nat} (hn : n ≤ 4) {p : Nat → Int} (h : ∀ j, j < 4 → n ≤ j → p j = 0) : prS μ p n = price μ p := by
  unfold price
  rcases (by omega : n = 0 ∨ n = 1 ∨ n = 2 ∨ n = 3 ∨ n = 4) with rfl | rfl | rfl | rfl | rfl <;> simp only [prS] <;> grind
def look102 (μ : Mem) (c u g : Int64) : Mem := (μ.1, upJ (upJ μ.2 7 14 (c / g)) 7 15 (u / g))
theorem look_sum {N n : Nat} {μ : Mem} {p : Nat → Int} (hn : n ≤ 4) (h7 : μ.1 7 0 = nI n) (hp : ∀ j, j < 4 → μ.2 46 j = JJ (p j)) : ∀ (k m : Nat), k ≤ n → M_Mo_lookAtCorner_40 N (m + k + 1) (JJ (prS μ p (n - k))) (nI (n - k)) μ = M_Mo_lookAtCorner_40 N (m + 1) (JJ (prS μ p n)) (nI n) μ := by
  intro k
  induction k with
  | zero => intro m _; rfl
  | succ k ih =>
    intro m hk
    have hlt : ¬ nI n ≤ nI (n - (k + 1)) := nI_ge (a := n - (k + 1)) (b := n) (by omega) (by omega)
    rw [show m + (k + 1) + 1 = (m + k + 1) + 1 by omega, M_Mo_lookAtCorner_40, if_neg (by rw [h7]; exact hlt), ldJ_n (by decide) (by decide) (by show n - (k + 1) < 4; omega) (by decide), bs, ldI_n (by decide) (by decide) (by show n - (k + 1) < 4; omega) (by decide), bs, nm_eq, hp _ (by omega), i2l_J, JJ_mul, JJ_add, nI_1, show n - (k + 1) + 1 = n - k by omega]
    have e : prS μ p (n - (k + 1)) + p (n - (k + 1)) * (μ.1 29 (n - (k + 1))).toInt = prS μ p (n - k) := by
      rw [show n - k = (n - (k + 1)) + 1 by omega]; rfl
    rw [e]
    exact ih m (by omega)
theorem s_102 {N : Nat} (hN : 200 ≤ N) {μ : Mem} {P : Int} {p : Nat → Int} (hP : bnd 3600000000000000000 P) (h22 : μ.2 7 22 = JJ (p 4)) (h4 : 0 < p 4) (h4' : p 4 ≤ 100000000000000) :
    ∃ o u g : Int, M_Mo_lookAtCorner_102 N (JJ P) μ = some (μ.1, upJ (upJ μ.2 7 14 (JJ o)) 7 15 (JJ u)) ∧ 0 < g ∧ P = g * o ∧ p 4 = g * u ∧ Nat.gcd o.natAbs u.natAbs = 1 ∧ (JJ o).toInt = o ∧ (JJ u).toInt = u ∧ 0 < u := by
  have eP : (JJ P).toInt = P := JJ_bnd hP (by decide)
  have e4 : (JJ (p 4)).toInt = p 4 := JJ_int (by omega) (by omega)
  unfold bnd at hP
  obtain ⟨g, g1, g2⟩ := s_common (N := N) hN (a := JJ P) (b := JJ (p 4)) (by rw [eP]; omega) (by rw [e4]; omega)
  rw [eP, e4] at g2
  have gp : 0 < Nat.gcd P.natAbs (p 4).natAbs := Nat.gcd_pos_of_pos_right _ (by omega)
  have d1 : g.toInt ∣ P := by rw [g2, ← Int.natAbs_dvd_natAbs, Int.natAbs_natCast]; exact Nat.gcd_dvd_left _ _
  have d2 : g.toInt ∣ p 4 := by rw [g2, ← Int.natAbs_dvd_natAbs, Int.natAbs_natCast]; exact Nat.gcd_dvd_right _ _
  obtain ⟨o, ho⟩ := d1
  obtain ⟨u, hu⟩ := d2
  have g0 : 0 < g.toInt := by rw [g2]; omega
  have le1 : ∀ x y : Int, x = g.toInt * y → y.natAbs ≤ x.natAbs := fun x y e => by
    have : x.natAbs = g.toInt.natAbs * y.natAbs := by rw [← Int.natAbs_mul, ← e]
    rw [this]
    exact Nat.le_mul_of_pos_left _ (by omega)
  have lo := le1 _ _ ho
  have lu := le1 _ _ hu
  have jo : (JJ o).toInt = o := JJ_int (by omega) (by omega)
  have ju : (JJ u).toInt = u := JJ_int (by omega) (by omega)
  have u0 : 0 < u := by
    refine Int.lt_of_not_ge (fun h => ?_)
    have := Int.mul_nonneg (a := g.toInt) (b := -u) (by omega) (by omega)
    rw [Int.mul_neg, ← hu] at this
    omega
  refine ⟨o, u, g.toInt, ?_, g0, ho, hu, ?_, jo, ju, u0⟩
  · have q1 : JJ P / g = JJ o := J_eq (exact_div g0 (by rw [eP]; exact ho))
    have q2 : JJ (p 4) / g = JJ u := J_eq (exact_div g0 (by rw [e4]; exact hu))
    unfold M_Mo_lookAtCorner_102
    rw [h22, g1, bs, dvJ_some (by omega), bs, q1, pJ, bs]
    dsimp only
    rw [upJ_pl (by omega), h22, dvJ_some (by omega), bs, q2, pJ, bs]
  · have e : P.natAbs = g.toInt.natAbs * o.natAbs := by rw [← Int.natAbs_mul, ← ho]
    have e' : (p 4).natAbs = g.toInt.natAbs * u.natAbs := by rw [← Int.natAbs_mul, ← hu]
    have gg : g.toInt.natAbs = Nat.gcd P.natAbs (p 4).natAbs := by rw [g2, Int.natAbs_natCast]
    have h := Nat.gcd_mul_left g.toInt.natAbs o.natAbs u.natAbs
    rw [← e, ← e', ← gg] at h
    have hpos : 0 < g.toInt.natAbs := by omega
    have : g.toInt.natAbs * 1 = g.toInt.natAbs * Nat.gcd o.natAbs u.natAbs := by omega
    exact (Nat.eq_of_mul_eq_mul_left hpos this).symm
theorem BestR.frac {μb μ : Mem} (hA : InvA μb) {p : Nat → Int} (h : BestR μb μ p) : Frac (μ.2 7 14) (μ.2 7 15) := by
  obtain ⟨hc, -, h4, g, g0, e1, e2, -⟩ := h
  have hb := (price_bnd hA hc.1 h4).1
  have p4 := hc.1.1
  have le1 : ∀ x y : Int, x = g * y → y.natAbs ≤ x.natAbs := fun x y e => by
    have : x.natAbs = g.natAbs * y.natAbs := by rw [← Int.natAbs_mul, ← e]
    rw [this]
    exact Nat.le_mul_of_pos_left _ (by omega)
  have lo := le1 _ _ e1
  have lu := le1 _ _ e2
  have u0 : 0 < (μ.2 7 15).toInt := by
    refine Int.lt_of_not_ge (fun h => ?_)
    have := Int.mul_nonneg (a := g) (b := -(μ.2 7 15).toInt) (by omega) (by omega)
    rw [Int.mul_neg, ← e2] at this
    omega
  unfold bnd at hb
  unfold Frac
  omega
theorem look_40 {N n : Nat} (hN : 200 ≤ N) {μb μ : Mem} {p : Nat → Int} (h : Rx μb n) (h7 : μ.1 7 0 = nI n) (h29 : ∀ i, μ.1 29 i = μb.1 29 i) (hp : PtIn μ p) (hc : Corner μb p) (hf : Feas μb p) (hl : LowT p) (hs : μ.2 7 15 = 0 ∨ ∃ p, BestR μb μ p) :
    ∃ μ', M_Mo_lookAtCorner_40 N N 0 0 μ = some μ' ∧ μ'.1 = μ.1 ∧ (∀ k j, ¬ (k = 7 ∧ (j = 14 ∨ j = 15)) → μ'.2 k j = μ.2 k j) ∧ μ'.2 7 15 ≠ 0 ∧ (∃ p, BestR μb μ' p) ∧ (¬ price μb p * (μ'.2 7 15).toInt < (μ'.2 7 14).toInt * p 4) ∧ ∀ q : Nat → Int, 0 < q 4 → μ.2 7 15 ≠ 0 → ¬ price μb q * (μ.2 7 15).toInt < (μ.2 7 14).toInt * q 4 → ¬ price μb q * (μ'.2 7 15).toInt < (μ'.2 7 14).toInt * q 4 := by
  have hlow := low_bound h.1 h.2.1 hc hl
  obtain ⟨hpb, -⟩ := price_bnd h.1 hc.1 hlow
  have p4 := hc.1.1
  have ePr : prS μ p n = price μb p := by
    rw [prS_all h.2.2.1 (fun j hj hn => h.out hc.1 hj hn)]
    unfold price
    have : cts μ = cts μb := funext fun j => by unfold cts; rw [h29]
    rw [this]
  have start : M_Mo_lookAtCorner_40 N N 0 0 μ = M_Mo_lookAtCorner_40 N (N - n) (JJ (price μb p)) (nI n) μ := by
    have := look_sum (N := N) h.2.2.1 h7 hp.1 n (N - n - 1) (Nat.le_refl n)
    have hn4 := h.2.2.1
    rw [show N - n - 1 + n + 1 = N by omega, show N - n - 1 + 1 = N - n by omega, Nat.sub_self, ePr] at this
    exact this
  obtain ⟨k, hk⟩ : ∃ k, N - n = k + 1 := ⟨N - n - 1, by have := h.2.2.1; omega⟩
  obtain ⟨o, u, g, s1, s2, s3, s4, s5, s6, s7, s8⟩ := s_102 (N := N) hN (μ := μ) (P := price μb p) (p := p) hpb hp.2.1 p4 hlow
  have unf : M_Mo_lookAtCorner_40 N N 0 0 μ = if lg_cmp (μ.2 7 15) 0 = 0 then M_Mo_lookAtCorner_102 N (JJ (price μb p)) μ else (M_Mo_isLess N (JJ (price μb p)) (μ.2 7 22) (μ.2 7 14) (μ.2 7 15)).bind fun r96 => if r96 = 0 then some μ else M_Mo_lookAtCorner_102 N (JJ (price μb p)) μ := by
    rw [start, hk, M_Mo_lookAtCorner_40, if_pos (by rw [h7]; exact nI_le (Nat.le_refl n) (by have := h.2.2.1; omega))]
  -- the state when the point is taken
  have n14 : upJ (upJ μ.2 7 14 (JJ o)) 7 15 (JJ u) 7 14 = JJ o := by rw [upJ_pl (by omega), upJ_at]
  have n15 : upJ (upJ μ.2 7 14 (JJ o)) 7 15 (JJ u) 7 15 = JJ u := upJ_at ..
  have nfr : ∀ k j, ¬ (k = 7 ∧ (j = 14 ∨ j = 15)) → upJ (upJ μ.2 7 14 (JJ o)) 7 15 (JJ u) k j = μ.2 k j := fun k j q => by
    by_cases e : k = 7
    · rw [upJ_pl (by omega), upJ_pl (by omega)]
    · rw [upJ_ne e, upJ_ne e]
  have nu : JJ u ≠ 0 := fun e => by rw [e] at s7; have : (0 : Int64).toInt = 0 := rfl; omega
  have nB : BestR μb (μ.1, upJ (upJ μ.2 7 14 (JJ o)) 7 15 (JJ u)) p := by
    refine ⟨hc, hf, hlow, g, s2, ?_, ?_, ?_⟩
    · dsimp only; rw [n14, s6]; exact s3
    · dsimp only; rw [n15, s7]; exact s4
    · dsimp only; rw [n14, n15, s6, s7]; exact s5
  have nC : ¬ price μb p * u < o * p 4 := by
    rw [s3, s4, Int.mul_comm g o, Int.mul_assoc]
    omega
  by_cases h15 : μ.2 7 15 = 0
  · rw [if_pos ((cmp_eq _ _).2 h15)] at unf
    refine ⟨_, unf.trans s1, rfl, nfr, ?_, ⟨p, nB⟩, ?_, fun q _ hq => absurd h15 hq⟩
    · dsimp only; rw [n15]; exact nu
    · dsimp only; rw [n15, n14, s6, s7]; exact nC
  · rw [if_neg (fun q => h15 ((cmp_eq _ _).1 q))] at unf
    obtain ⟨p', hB⟩ := hs.resolve_left h15
    have fr := hB.frac h.1
    have e22 : (JJ (p 4)).toInt = p 4 := JJ_int (by omega) (by omega)
    have eP : (JJ (price μb p)).toInt = price μb p := JJ_bnd hpb (by decide)
    have f1 : Frac (JJ (price μb p)) (μ.2 7 22) := by
      rw [hp.2.1]
      unfold Frac
      rw [eP, e22]
      unfold bnd at hpb
      omega
    rw [s_isLessM hN f1 fr, bs, eP, hp.2.1, e22] at unf
    by_cases hlt : price μb p * (μ.2 7 15).toInt < (μ.2 7 14).toInt * p 4
    · rw [if_neg (by rw [b01_0]; exact fun q => q hlt)] at unf
      refine ⟨_, unf.trans s1, rfl, nfr, ?_, ⟨p, nB⟩, ?_, fun q q4 _ hq => ?_⟩
      · dsimp only; rw [n15]; exact nu
      · dsimp only; rw [n15, n14, s6, s7]; exact nC
      · dsimp only
        rw [n15, n14, s6, s7]
        refine frac_tr s8 fr.2.2.1 q4 ?_ hq
        rw [s3, s4, Int.mul_assoc, Int.mul_left_comm _ g] at hlt
        exact Int.lt_of_mul_lt_mul_left hlt (by omega)
    · rw [if_pos ((b01_0 _).2 hlt)] at unf
      exact ⟨μ, unf, rfl, fun _ _ _ => rfl, h15, ⟨p', hB⟩, hlt, fun _ _ _ q => q⟩
theorem look_no {N : Nat} {μ : Mem} : M_Mo_lookAtCorner_15 N (-1) μ = some μ := by
  unfold M_Mo_lookAtCorner_15
  rw [if_neg (by decide)]
theorem qv_f4 (f t : Nat → Int) (F : Nat) : qv f t F 4 = f F := rfl
theorem n255 : nI 255 = 255 := by decide +kernel
/-- what one look does -/
def Look (μb : Mem) (n : Nat) (μ μ' : Mem) : Prop := RW μb n μ' ∧ RSS μb μ' ∧ ∀ p, 0 < p 4 → RCov μb μ p → RCov μb μ' p
theorem Look.refl {μb : Mem} {n : Nat} {μ : Mem} (h1 : RW μb n μ) (h2 : RSS μb μ) : Look μb n μ μ := ⟨h1, h2, fun _ _ q => q⟩
theorem Look.trans {μb : Mem} {n : Nat} {a b c : Mem} (h1 : Look μb n a b) (h2 : Look μb n b c) : Look μb n a c := ⟨h2.1, h2.2.1, fun p hp q => h2.2.2 p hp (h1.2.2 p hp q)⟩
theorem s_look {N n : Nat} (hN : 200 ≤ N) {μb μ : Mem} (h : Rx μb n) (hw : RW μb n μ) (hs : RSS μb μ) {ky : Nat → Nat} (hk : ∀ i, i < 4 → μ.1 39 i = nI (ky i) ∧ isL μb n (ky i)) :
    ∃ μ', M_Mo_lookAtCorner N μ = some μ' ∧ Look μb n μ μ' ∧ (mn (r4 (rM μb n) ky) 15 ≠ 0 → ∀ p, Corner μb p → (∀ i, i < 4 → dot5i (rM μb n (ky i)) p = 0) → RCov μb μ' p) := by
  obtain ⟨w1, w2, w3, w4⟩ := hw
  have hky : ∀ i, i < 4 → μ.1 39 i = nI (ky i) ∧ ky i < 24 := fun i hi => ⟨(hk i hi).1, isL_lt (hk i hi).2⟩
  obtain ⟨μ1, ⟨c1, c2⟩, hm⟩ := s_meet hN w3 hky (qv_bd h (fun i hi => (hk i hi).2))
  have w1' : RW μb n μ1 := by
    refine ⟨fun k j a b c d => by rw [c1]; exact w1 k j a b c d, fun k j a b => ?_, fun k hk c hc => by rw [c1]; exact w3 k hk c hc, fun k hk => by rw [c1]; exact w4 k hk⟩
    rw [c2 k j a (fun q => b ⟨q.1, Or.inr (Or.inr q.2)⟩)]
    exact w2 k j a b
  have e14 : μ1.2 7 14 = μ.2 7 14 := c2 7 14 (by omega) (by omega)
  have e15 : μ1.2 7 15 = μ.2 7 15 := c2 7 15 (by omega) (by omega)
  have s1' : RSS μb μ1 := by
    refine ⟨fun b hb => by rw [c1]; exact hs.1 b hb, ?_⟩
    rcases hs.2 with q | ⟨p, q⟩
    · left; rw [e15]; exact q
    · right; refine ⟨p, ?_⟩; unfold BestR; rw [e14, e15]; exact q
  have cov1 : ∀ p, RCov μb μ p → RCov μb μ1 p := fun p q => by unfold RCov; rw [c1, e14, e15]; exact q
  rcases hm with ⟨hz, hM⟩ | ⟨hz, hM, p, s, hq, h4, hlow, hpb, p1, p2⟩
  · refine ⟨μ1, ?_, ⟨w1', s1', fun p _ q => cov1 p q⟩, fun q => absurd hz q⟩
    unfold M_Mo_lookAtCorner
    rw [hM, bs2, if_pos rfl]
    exact look_no
  · have hpt : PtIn μ1 p := ⟨p1, p2, hpb⟩
    -- the rows are tight at the point
    have hrows : ∀ i, i < 4 → dot5i (rM μb n (ky i)) p = 0 := by
      intro i hi
      have hin : rM μb n (ky i) ∈ r4 (rM μb n) ky := by
        unfold r4
        rcases (by omega : i = 0 ∨ i = 1 ∨ i = 2 ∨ i = 3) with rfl | rfl | rfl | rfl <;> simp
      have e0 : dot5i (rM μb n (ky i)) (qv (mn (r4 (rM μb n) ky)) z0 15) = 0 := cramer (fun G hG => mn_dup hin G hG) 15 (by omega) (fun _ _ _ => rfl)
      have e1 : dot5i (rM μb n (ky i)) (qv (mn (r4 (rM μb n) ky)) z0 15) = s * dot5i (rM μb n (ky i)) p := by
        unfold dot5i
        rw [hq 0 (by omega), hq 1 (by omega), hq 2 (by omega), hq 3 (by omega), hq 4 (by omega)]
        grind
      rw [e1] at e0
      rcases Int.mul_eq_zero.1 e0 with q | q
      · exfalso
        apply hz
        have e4 := hq 4 (by omega)
        rw [qv_f4, q, Int.zero_mul] at e4
        exact e4
      · exact q
    have eqv : ∀ p', Corner μb p' → (∀ i, i < 4 → dot5i (rM μb n (ky i)) p' = 0) → Eqv p' p := by
      intro p' hc ht
      refine ⟨hc.1.1, h4, fun j hj => ?_⟩
      have inr : ∀ x : Nat → Int, (∀ i, i < 4 → dot5i (rM μb n (ky i)) x = 0) → ∀ r, r ∈ r4 (rM μb n) ky → dot5i r x = 0 := by
        intro x hx r hr
        have hr' : r = rM μb n (ky 3) ∨ r = rM μb n (ky 2) ∨ r = rM μb n (ky 1) ∨ r = rM μb n (ky 0) := by
          unfold r4 at hr
          simpa using hr
        rcases hr' with rfl | rfl | rfl | rfl
        · exact hx 3 (by omega)
        · exact hx 2 (by omega)
        · exact hx 1 (by omega)
        · exact hx 0 (by omega)
      exact same_point (F := 15) (by omega) hz (inr p hrows) (inr p' ht) (fun i hi hf => absurd hf (by rcases (by omega : i = 0 ∨ i = 1 ∨ i = 2 ∨ i = 3) with rfl | rfl | rfl | rfl <;> decide)) j hj
    rcases s_keptRules (N := N) (by omega) h (fun i => w1'.1 14 i (by omega) (by omega) (by omega) (by omega)) w1'.2.2.1 hpt h4 with ⟨hb, hK⟩ | ⟨hb, hK⟩
    · have hcor : Corner μb p := ref_sound h (fun i hi => (hk i hi).2) hz hb hrows
      have k8 := kpt_lt μb p
      have nn : (0 : Int32) ≤ nI (kpt μb p) := nI_pos' (by omega)
      -- kept
      have wk : RW μb n (upI μ1.1 16 (kpt μb p) 1, μ1.2) := by
        refine ⟨fun k j a b c d => by dsimp only; rw [upI_ne c]; exact w1'.1 k j a b c d, w1'.2.1, fun k hk c hc => by dsimp only; rw [upI_ne (by omega)]; exact w1'.2.2.1 k hk c hc, fun k hk => by dsimp only; rw [upI_ne (by omega)]; exact w1'.2.2.2 k hk⟩
      have sk : RSS μb (upI μ1.1 16 (kpt μb p) 1, μ1.2) := by
        refine ⟨fun b hb' => ?_, s1'.2⟩
        dsimp only
        by_cases e : b = kpt μb p
        · right
          rw [e, upI_at]
          exact ⟨rfl, p, hcor, rfl⟩
        · rw [upI_pl e]; exact s1'.1 b hb'
      have ck : ∀ q, RCov μb μ1 q → RCov μb (upI μ1.1 16 (kpt μb p) 1, μ1.2) q := by
        intro q hq'
        refine ⟨?_, hq'.2⟩
        dsimp only
        by_cases e : kpt μb q = kpt μb p
        · rw [e, upI_at]
        · rw [upI_pl e]; exact hq'.1
      have unf : M_Mo_lookAtCorner N μ = if nI (kpt μb p) = 255 then M_Mo_lookAtCorner_40 N N 0 0 (upI μ1.1 16 (kpt μb p) 1, μ1.2) else some (upI μ1.1 16 (kpt μb p) 1, μ1.2) := by
        unfold M_Mo_lookAtCorner
        rw [hM, bs2, if_neg (by decide), hK, bs2]
        unfold M_Mo_lookAtCorner_15
        rw [if_pos nn, stZ_n (by decide) (by decide) (Or.inr rfl) (by show kpt μb p < 256; omega) (by decide), bs]
      by_cases hF : kpt μb p = 255
      · have hfe := (kpt_feas μb p).1 hF
        rw [if_pos (by rw [hF]; exact n255)] at unf
        obtain ⟨μ2, b1, b2, b3, b4, b5, b6, b7⟩ := look_40 (N := N) hN (μ := (upI μ1.1 16 (kpt μb p) 1, μ1.2)) h (by rw [wk.1 7 0 (by omega) (by omega) (by omega) (by omega)]; exact h.2.2.2) (fun i => wk.1 29 i (by omega) (by omega) (by omega) (by omega)) hpt hcor hfe hlow sk.2
        have cp : RCov μb μ2 p := by
          refine ⟨?_, fun _ => ⟨b4, b6⟩⟩
          rw [b2]
          exact upI_at ..
        refine ⟨μ2, unf.trans b1, ⟨⟨fun k j a b c d => by rw [b2]; exact wk.1 k j a b c d, fun k j a b => ?_, fun k hk c hc => by rw [b2]; exact wk.2.2.1 k hk c hc, fun k hk => by rw [b2]; exact wk.2.2.2 k hk⟩, ⟨fun b hb' => by rw [b2]; exact sk.1 b hb', Or.inr b5⟩, fun q q4 hq' => ?_⟩, fun _ p' hc' ht' => RCov_eqv h.1 h.2.1 (eqv p' hc' ht') cp⟩
        · rw [b3 k j (fun q => b ⟨q.1, by omega⟩)]
          exact wk.2.1 k j a b
        · have h9 := ck q (cov1 q hq')
          refine ⟨by rw [b2]; exact h9.1, fun hf => ⟨b4, ?_⟩⟩
          obtain ⟨z1, z2⟩ := h9.2 hf
          exact b7 q q4 z1 z2
      · have hnf : ¬ Feas μb p := fun q => hF ((kpt_feas μb p).2 q)
        have n25 : ¬ nI (kpt μb p) = 255 := fun q => hF ((nI_eq (a := kpt μb p) (b := 255) (by omega) (by omega)).1 (by rw [q, n255]))
        rw [if_neg n25] at unf
        have cp : RCov μb (upI μ1.1 16 (kpt μb p) 1, μ1.2) p := ⟨upI_at .., fun q => absurd q hnf⟩
        exact ⟨_, unf, ⟨wk, sk, fun q _ hq' => ck q (cov1 q hq')⟩, fun _ p' hc' ht' => RCov_eqv h.1 h.2.1 (eqv p' hc' ht') cp⟩
    · refine ⟨μ1, ?_, ⟨w1', s1', fun p _ q => cov1 p q⟩, fun _ p' hc' ht' => ?_⟩
      · unfold M_Mo_lookAtCorner
        rw [hM, bs2, if_neg (by decide), hK, bs2]
        exact look_no
      · exfalso
        apply hb
        obtain ⟨p4', q4', hv⟩ := eqv p' hc' ht'
        refine ⟨h4, fun j hj => ?_⟩
        obtain ⟨x1, x2⟩ := hc'.1.2 j hj
        have e := hv j hj
        constructor
        · exact (scale_nn p4' q4' e).2 x1
        · have e2 : p' 4 * (stk μb j * p 4 - p j) = p 4 * (stk μb j * p' 4 - p' j) := by
            rw [Int.mul_sub, Int.mul_sub, e, ← Int.mul_assoc, ← Int.mul_assoc, Int.mul_comm (p' 4), Int.mul_comm (p 4) (stk μb j), Int.mul_assoc, Int.mul_assoc, Int.mul_comm (p' 4)]
          have := (scale_nn p4' q4' e2).2 (by omega)
          omega
