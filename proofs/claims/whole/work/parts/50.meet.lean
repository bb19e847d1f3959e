/-! PURE: the reference's point, in lowest terms. -/
def kind (m o : Int) : Prop := (m = 20000 ∧ o = 0) ∨ (m = 100 ∧ o = 100000)
theorem rM_bd {μ : Mem} {n k : Nat} (h : Rx μ n) (hk : isL μ n k) : ∃ m o, kind m o ∧ (∀ c, c < 4 → bnd m (rM μ n k c)) ∧ bnd o (rM μ n k 4) := by
  rcases hk with ⟨h16, ht⟩ | ⟨h16, h24, hl⟩
  · obtain ⟨r1, r2⟩ := h.row h16 ht
    have hro := told_lt h.2.1 (r := k / 2) (by omega) ht
    have key : ∀ m o : Int, 0 ≤ m → (∀ c, c < 4 → bnd m (rwL μ (k / 2) c) ∧ bnd m (rwH μ (k / 2) c)) ∧ bnd o (rwL μ (k / 2) 4) ∧ bnd o (rwH μ (k / 2) 4) → (∀ c, c < 4 → bnd m (rM μ n k c)) ∧ bnd o (rM μ n k 4) := by
      intro m o hm ⟨b1, b2, b3⟩
      constructor
      · intro c hc
        rw [r1 c hc]
        by_cases hcn : c < n
        · rw [if_pos hcn]
          unfold rwK
          by_cases q : k % 2 = 0
          · rw [if_pos q]; exact (b1 c hc).1
          · rw [if_neg q]; exact (b1 c hc).2
        · rw [if_neg hcn]; unfold bnd; omega
      · rw [r2]
        unfold rwK
        by_cases q : k % 2 = 0
        · rw [if_pos q]; exact b2
        · rw [if_neg q]; exact b3
    by_cases hr : rat (k / 2)
    · exact ⟨20000, 0, Or.inl ⟨rfl, rfl⟩, key 20000 0 (by omega) (row_rat h.1 hro hr)⟩
    · exact ⟨100, 100000, Or.inr ⟨rfl, rfl⟩, key 100 100000 (by omega) (row_not h.1 (by omega) hro hr)⟩
  · obtain ⟨r1, r2⟩ := rM_box h.1 h.2.2.2 h.2.2.1 h16 h24
    refine ⟨100, 100000, Or.inr ⟨rfl, rfl⟩, fun c hc => ?_, ?_⟩
    · rw [r1 c hc]
      by_cases q : c = (k - 16) / 2
      · rw [if_pos q]
        by_cases q' : k % 2 = 0
        · rw [if_pos q']; unfold bnd; decide
        · rw [if_neg q']; unfold bnd; decide
      · rw [if_neg q]; unfold bnd; decide
    · rw [r2]
      have := stk_bd h.1 ((k - 16) / 2) (by omega)
      by_cases q' : k % 2 = 0
      · rw [if_pos q']; unfold bnd; decide
      · rw [if_neg q']; unfold bnd; omega
theorem kind_nn {m o : Int} (h : kind m o) : 0 ≤ m ∧ 0 ≤ o := by
  unfold kind at h
  omega
def big : Int := 4800000000000000000
theorem mn_bd4 {a b c d : Nat → Int} {m1 o1 m2 o2 m3 o3 m4 o4 : Int} (k1 : kind m1 o1) (k2 : kind m2 o2) (k3 : kind m3 o3) (k4 : kind m4 o4)
    (a1 : ∀ c, c < 4 → bnd m1 (a c)) (a2 : bnd o1 (a 4)) (b1 : ∀ c, c < 4 → bnd m2 (b c)) (b2 : bnd o2 (b 4)) (c1 : ∀ x, x < 4 → bnd m3 (c x)) (c2 : bnd o3 (c 4)) (d1 : ∀ c, c < 4 → bnd m4 (d c)) (d2 : bnd o4 (d 4)) :
    ∀ G, G < 32 → bnd big (mn [d, c, b, a] G) := by
  have hb : ∀ G, bnd 1 (mn [] G) := fun G => by
    unfold bnd mn
    by_cases h : G = 0
    · rw [if_pos h]; decide
    · rw [if_neg h]; decide
  have hb0 : ∀ G, 16 ≤ G → bnd 0 (mn [] G) := fun G hG => by
    unfold bnd mn
    rw [if_neg (by omega)]; decide
  obtain ⟨p1, q1⟩ := mn_bd (R := []) (P := 1) (Q := 0) (by decide) (by decide) (kind_nn k1).1 (kind_nn k1).2 a1 a2 (fun G _ => hb G) (fun G h _ => hb0 G h)
  have l0 : (([] : List (Nat → Int)).length : Int) = 0 := rfl
  rw [l0] at p1 q1
  have nn1 : 0 ≤ (0 + 1 : Int) * (m1 * 1) ∧ 0 ≤ o1 * 1 + 0 * (m1 * 0) := by rcases k1 with ⟨rfl, rfl⟩ | ⟨rfl, rfl⟩ <;> decide
  obtain ⟨p2, q2⟩ := mn_bd (R := [a]) nn1.1 nn1.2 (kind_nn k2).1 (kind_nn k2).2 b1 b2 p1 q1
  have l1 : (([a] : List (Nat → Int)).length : Int) = 1 := rfl
  rw [l1] at p2 q2
  have nn2 : 0 ≤ (1 + 1 : Int) * (m2 * ((0 + 1 : Int) * (m1 * 1))) ∧ 0 ≤ o2 * ((0 + 1 : Int) * (m1 * 1)) + 1 * (m2 * (o1 * 1 + 0 * (m1 * 0))) := by rcases k1 with ⟨rfl, rfl⟩ | ⟨rfl, rfl⟩ <;> rcases k2 with ⟨rfl, rfl⟩ | ⟨rfl, rfl⟩ <;> decide
  obtain ⟨p3, q3⟩ := mn_bd (R := [b, a]) nn2.1 nn2.2 (kind_nn k3).1 (kind_nn k3).2 c1 c2 p2 q2
  have l2 : (([b, a] : List (Nat → Int)).length : Int) = 2 := rfl
  rw [l2] at p3 q3
  have nn3 : 0 ≤ (2 + 1 : Int) * (m3 * ((1 + 1 : Int) * (m2 * ((0 + 1 : Int) * (m1 * 1))))) ∧ 0 ≤ o3 * ((1 + 1 : Int) * (m2 * ((0 + 1 : Int) * (m1 * 1)))) + 2 * (m3 * (o2 * ((0 + 1 : Int) * (m1 * 1)) + 1 * (m2 * (o1 * 1 + 0 * (m1 * 0))))) := by rcases k1 with ⟨rfl, rfl⟩ | ⟨rfl, rfl⟩ <;> rcases k2 with ⟨rfl, rfl⟩ | ⟨rfl, rfl⟩ <;> rcases k3 with ⟨rfl, rfl⟩ | ⟨rfl, rfl⟩ <;> decide
  obtain ⟨p4, q4⟩ := mn_bd (R := [c, b, a]) nn3.1 nn3.2 (kind_nn k4).1 (kind_nn k4).2 d1 d2 p3 q3
  have l3 : (([c, b, a] : List (Nat → Int)).length : Int) = 3 := rfl
  rw [l3] at p4 q4
  have fin : (3 + 1 : Int) * (m4 * ((2 + 1 : Int) * (m3 * ((1 + 1 : Int) * (m2 * ((0 + 1 : Int) * (m1 * 1))))))) ≤ big ∧ o4 * ((2 + 1 : Int) * (m3 * ((1 + 1 : Int) * (m2 * ((0 + 1 : Int) * (m1 * 1)))))) + 3 * (m4 * (o3 * ((1 + 1 : Int) * (m2 * ((0 + 1 : Int) * (m1 * 1)))) + 2 * (m3 * (o2 * ((0 + 1 : Int) * (m1 * 1)) + 1 * (m2 * (o1 * 1 + 0 * (m1 * 0))))))) ≤ big := by
    rcases k1 with ⟨rfl, rfl⟩ | ⟨rfl, rfl⟩ <;> rcases k2 with ⟨rfl, rfl⟩ | ⟨rfl, rfl⟩ <;> rcases k3 with ⟨rfl, rfl⟩ | ⟨rfl, rfl⟩ <;> rcases k4 with ⟨rfl, rfl⟩ | ⟨rfl, rfl⟩ <;> decide
  intro G hG
  by_cases h : G < 16
  · have := p4 G h
    unfold bnd at *
    omega
  · have := q4 G (by omega) hG
    unfold bnd at *
    omega
theorem qv_bd {μ : Mem} {n : Nat} (h : Rx μ n) {ky : Nat → Nat} (hk : ∀ i, i < 4 → isL μ n (ky i)) : ∀ j, j < 5 → bnd big (qv (mn (r4 (rM μ n) ky)) z0 15 j) := by
  obtain ⟨m1, o1, k1, a1, a2⟩ := rM_bd h (hk 0 (by omega))
  obtain ⟨m2, o2, k2, b1, b2⟩ := rM_bd h (hk 1 (by omega))
  obtain ⟨m3, o3, k3, c1, c2⟩ := rM_bd h (hk 2 (by omega))
  obtain ⟨m4, o4, k4, d1, d2⟩ := rM_bd h (hk 3 (by omega))
  have hb : ∀ G, G < 32 → bnd big (mn (r4 (rM μ n) ky) G) := mn_bd4 k1 k2 k3 k4 a1 a2 b1 b2 c1 c2 d1 d2
  have q := qv_15 (mn (r4 (rM μ n) ky)) z0
  intro j hj
  unfold z0 at q
  have e0 := hb 30 (by omega)
  have e1 := hb 29 (by omega)
  have e2 := hb 27 (by omega)
  have e3 := hb 23 (by omega)
  have e4 := hb 15 (by omega)
  unfold bnd at *
  change (qv (mn (r4 (rM μ n) ky)) z0 15 0 = _ ∧ qv (mn (r4 (rM μ n) ky)) z0 15 1 = _ ∧ qv (mn (r4 (rM μ n) ky)) z0 15 2 = _ ∧ qv (mn (r4 (rM μ n) ky)) z0 15 3 = _ ∧ qv (mn (r4 (rM μ n) ky)) z0 15 4 = _) at q
  rcases (by omega : j = 0 ∨ j = 1 ∨ j = 2 ∨ j = 3 ∨ j = 4) with rfl | rfl | rfl | rfl | rfl
  · rw [q.1]; omega
  · rw [q.2.1]; omega
  · rw [q.2.2.1]; omega
  · rw [q.2.2.2.1]; omega
  · rw [q.2.2.2.2]; omega
/-- in lowest terms -/
def LowT (p : Nat → Int) : Prop := ∀ x : Int, (∀ j, j < 4 → p 4 ∣ x * p j) → p 4 ∣ x
def gq (q : Nat → Int) : Nat → Nat
  | 0 => (q 4).natAbs
  | j + 1 => Nat.gcd (q j).natAbs (gq q j)
theorem gq_dvd (q : Nat → Int) : ∀ j, (gq q j ∣ (q 4).natAbs) ∧ ∀ i, i < j → gq q j ∣ (q i).natAbs := by
  intro j
  induction j with
  | zero => exact ⟨Nat.dvd_refl _, fun i hi => absurd hi (by omega)⟩
  | succ j ih =>
    refine ⟨Nat.dvd_trans (Nat.gcd_dvd_right _ _) ih.1, fun i hi => ?_⟩
    by_cases h : i = j
    · rw [h]; exact Nat.gcd_dvd_left _ _
    · exact Nat.dvd_trans (Nat.gcd_dvd_right _ _) (ih.2 i (by omega))
theorem gq_big (q : Nat → Int) (y d : Nat) (h4 : d ∣ y * (q 4).natAbs) : ∀ j, (∀ i, i < j → d ∣ y * (q i).natAbs) → d ∣ y * gq q j := by
  intro j
  induction j with
  | zero => exact fun _ => h4
  | succ j ih =>
    intro h
    show d ∣ y * Nat.gcd (q j).natAbs (gq q j)
    rw [← Nat.gcd_mul_left]
    exact Nat.dvd_gcd (h j (by omega)) (ih (fun i hi => h i (by omega)))
theorem gq_pos {q : Nat → Int} (h : q 4 ≠ 0) (j : Nat) : 0 < gq q j := by
  refine Nat.pos_of_ne_zero (fun e => h ?_)
  have := (gq_dvd q j).1
  rw [e, Nat.zero_dvd] at this
  omega
theorem low_of {q p : Nat → Int} {s : Int} (hs : s.natAbs = gq q 4) (h4 : q 4 ≠ 0) (h : ∀ j, j < 5 → q j = s * p j) : LowT p := by
  intro x hx
  have s0 : s ≠ 0 := fun e => by
    have := gq_pos h4 4
    rw [← hs, e] at this
    exact absurd this (by decide)
  have d1 : ∀ j, j < 4 → (q 4).natAbs ∣ x.natAbs * (q j).natAbs := fun j hj => by
    rw [← Int.natAbs_mul, Int.natAbs_dvd_natAbs, h 4 (by omega), h j (by omega), ← Int.mul_assoc, Int.mul_comm x s, Int.mul_assoc]
    exact Int.mul_dvd_mul_left s (hx j hj)
  have d2 := gq_big q x.natAbs (q 4).natAbs (Nat.dvd_mul_left _ _) 4 d1
  rw [← hs, ← Int.natAbs_mul, Int.natAbs_dvd_natAbs, h 4 (by omega), Int.mul_comm x s] at d2
  exact Int.dvd_of_mul_dvd_mul_left s0 d2
theorem exact_div' {a b : Int64} {q : Int} (hb : b.toInt ≠ 0) (h : a.toInt = b.toInt * q) (hq : bnd big q) : (a / b).toInt = q := by
  have : a.toInt.tdiv b.toInt = q := by rw [h]; exact Int.mul_tdiv_cancel_left _ hb
  unfold bnd big at hq
  rw [Int64.toInt_div, this, bm64 (by omega) (by omega)]
theorem dvJ_some {x y : Int64} (hy : y.toInt ≠ 0) : dvJ x y = some (x / y) := by
  unfold dvJ
  rw [if_neg (fun e => hy (by rw [e]; rfl))]
theorem cmp_z (x : Int64) : (0 : Int32) ≤ lg_cmp x 0 ↔ 0 ≤ x.toInt := by
  rw [cmp_ge, Int64.le_iff_toInt_le]
  rfl
theorem J_eq {x : Int64} {z : Int} (h : x.toInt = z) : x = JJ z := by rw [← h, JJ_self]
theorem meet_gcd {N : Nat} (hN : 200 ≤ N) {rr : Nat → Nat → Int} {ky : Nat → Nat} {q : Nat → Int} (hq : ∀ j, j < 5 → dt (en rr ky j) = q j) (hb : ∀ j, j < 5 → bnd big (q j)) : ∀ (j m : Nat) (μ : Mem) (x : Int64), j ≤ 4 → LimsIn μ rr → (∀ i, i < 4 → μ.1 39 i = nI (ky i) ∧ ky i < 24) → x.toInt.natAbs = gq q (4 - j) → bnd big x.toInt →
    ∃ (x' : Int64) (μ' : Mem), M_Mo_meet_27 N (m + j + 1) x (nI (4 - j)) μ = M_Mo_meet_27 N (m + 1) x' 4 μ' ∧ x'.toInt.natAbs = gq q 4 ∧ ((0 ≤ x.toInt ∨ 0 < j) → 0 ≤ x'.toInt) ∧ bnd big x'.toInt ∧ μ'.1 = μ.1 ∧ (∀ a b, a ≠ 46 → μ'.2 a b = μ.2 a b) ∧ (∀ i, i < 4 - j → μ'.2 46 i = μ.2 46 i) ∧ ∀ i, 4 - j ≤ i → i < 4 → μ'.2 46 i = JJ (q i) := by
  intro j
  induction j with
  | zero =>
    intro m μ x _ hL hk hx hbx
    exact ⟨x, μ, rfl, hx, fun h => by omega, hbx, rfl, fun _ _ _ => rfl, fun _ _ => rfl, fun i h1 h2 => absurd h1 (by omega)⟩
  | succ j ih =>
    intro m μ x hj hL hk hx hbx
    have n4 : ¬ (4 : Int32) ≤ nI (4 - (j + 1)) := nI_ge (a := 4 - (j + 1)) (b := 4) (by omega) (by omega)
    have hbi := hb (4 - (j + 1)) (by omega)
    have qi : (JJ (q (4 - (j + 1)))).toInt = q (4 - (j + 1)) := JJ_bnd hbi (by decide)
    unfold bnd big at hbi hbx
    obtain ⟨g, g1, g2⟩ := s_common (N := N) hN (a := JJ (q (4 - (j + 1)))) (b := x) (by rw [qi]; omega) (by omega)
    have e1 : 4 - (j + 1) + 1 = 4 - j := by omega
    have hg : g.toInt = (gq q (4 - j) : Nat) := by
      rw [g2, qi, hx, ← e1]; rfl
    have hgle : gq q (4 - j) ≤ gq q (4 - (j + 1)) ∨ gq q (4 - (j + 1)) = 0 := by
      by_cases z : gq q (4 - (j + 1)) = 0
      · exact Or.inr z
      · left
        rw [← e1]
        exact Nat.gcd_le_right _ (by omega)
    have hgb : bnd big g.toInt := by
      unfold bnd big
      rw [hg]
      rcases hgle with z | z
      · omega
      · rw [← e1]
        have : gq q (4 - (j + 1) + 1) = (q (4 - (j + 1))).natAbs := by
          show Nat.gcd _ (gq q (4 - (j + 1))) = _
          rw [z, Nat.gcd_zero_right]
        rw [this]
        omega
    obtain ⟨x', μ', a1, a2, a3, a4, a5, a6, a7, a8⟩ := ih m (μ.1, upJ μ.2 46 (4 - (j + 1)) (JJ (q (4 - (j + 1))))) g (by omega) hL hk (by rw [hg]; omega) hgb
    refine ⟨x', μ', ?_, a2, fun _ => a3 (Or.inl (by rw [hg]; omega)), a4, a5, fun a b h => (a6 a b h).trans (upJ_ne h b), fun i hi => (a7 i (by omega)).trans (upJ_pl (by omega)), fun i h1 h2 => ?_⟩
    · rw [show m + (j + 1) + 1 = (m + j + 1) + 1 by omega, M_Mo_meet_27, if_neg n4, s_det hL hk (by omega), bs2, hq _ (by omega), stJ_n (by decide) (by decide) (by show 4 - (j + 1) < 4; omega) (by decide), bs, ldJ_n (by decide) (by decide) (by show 4 - (j + 1) < 4; omega) (by decide), bs]
      dsimp only
      rw [upJ_at, g1, bs, nI_1, e1]
      exact a1
    · by_cases e : i = 4 - (j + 1)
      · rw [a7 i (by omega), e]; exact upJ_at ..
      · exact a8 i (by omega) h2
theorem meet_div {N : Nat} {q p : Nat → Int} {x : Int64} (hx : x.toInt ≠ 0) (hp : ∀ j, j < 5 → q j = x.toInt * p j) (hbq : ∀ j, j < 5 → bnd big (q j)) (hb : ∀ j, j < 5 → bnd big (p j)) : ∀ (j m : Nat) (μ : Mem), j ≤ 4 → μ.2 7 22 = JJ (q 4) → (∀ i, i < 4 - j → μ.2 46 i = JJ (p i)) → (∀ i, 4 - j ≤ i → i < 4 → μ.2 46 i = JJ (q i)) →
    ∃ μ', M_Mo_meet_78 N (m + j + 1) x (nI (4 - j)) μ = some (1, μ') ∧ μ'.1 = μ.1 ∧ (∀ a b, a ≠ 46 → ¬ (a = 7 ∧ b = 22) → μ'.2 a b = μ.2 a b) ∧ (∀ i, i < 4 → μ'.2 46 i = JJ (p i)) ∧ μ'.2 7 22 = JJ (p 4) := by
  have dv : ∀ i, i < 5 → JJ (q i) / x = JJ (p i) := fun i hi => by
    refine J_eq (exact_div' hx ?_ (hb i hi))
    rw [JJ_bnd (hbq i hi) (by decide)]
    exact hp i hi
  intro j
  induction j with
  | zero =>
    intro m μ _ h7 h1 h2
    refine ⟨(μ.1, upJ μ.2 7 22 (JJ (p 4))), ?_, rfl, fun a b h h' => ?_, fun i hi => ?_, upJ_at μ.2 7 22 _⟩
    · rw [M_Mo_meet_78, if_pos (by decide), dvJ_some hx, bs, h7, dv 4 (by omega), pJ, bs, reZ_1]
    · dsimp only
      by_cases e : a = 7
      · exact upJ_pl (fun z => h' ⟨e, z⟩)
      · exact upJ_ne e b
    · dsimp only
      rw [upJ_ne (by omega)]
      exact h1 i (by omega)
  | succ j ih =>
    intro m μ hj h7 h1 h2
    have n4 : ¬ (4 : Int32) ≤ nI (4 - (j + 1)) := nI_ge (a := 4 - (j + 1)) (b := 4) (by omega) (by omega)
    have f1 : ∀ i, i < 4 - j → upJ μ.2 46 (4 - (j + 1)) (JJ (p (4 - (j + 1)))) 46 i = JJ (p i) := fun i hi => by
      by_cases e : i = 4 - (j + 1)
      · rw [e]; exact upJ_at ..
      · rw [upJ_pl e]; exact h1 i (by omega)
    have f2 : ∀ i, 4 - j ≤ i → i < 4 → upJ μ.2 46 (4 - (j + 1)) (JJ (p (4 - (j + 1)))) 46 i = JJ (q i) := fun i hi hi' => by
      rw [upJ_pl (by omega)]
      exact h2 i (by omega) hi'
    obtain ⟨μ', a1, a2, a3, a4, a5⟩ := ih m (μ.1, upJ μ.2 46 (4 - (j + 1)) (JJ (p (4 - (j + 1))))) (by omega) (by dsimp only; rw [upJ_ne (by omega)]; exact h7) f1 f2
    refine ⟨μ', ?_, a2, fun a b h h' => (a3 a b h h').trans (upJ_ne h b), a4, a5⟩
    rw [show m + (j + 1) + 1 = (m + j + 1) + 1 by omega, M_Mo_meet_78, if_neg n4, ldJ_n (by decide) (by decide) (by show 4 - (j + 1) < 4; omega) (by decide), bs, dvJ_some hx, bs, h2 _ (by omega) (by omega), dv _ (by omega), stJ_n (by decide) (by decide) (by show 4 - (j + 1) < 4; omega) (by decide), bs, nI_1, show 4 - (j + 1) + 1 = 4 - j by omega]
    exact a1
def ChgP (μ μ' : Mem) : Prop := μ'.1 = μ.1 ∧ ∀ a b, a ≠ 46 → ¬ (a = 7 ∧ b = 22) → μ'.2 a b = μ.2 a b
theorem s_meet {N : Nat} (hN : 200 ≤ N) {rr : Nat → Nat → Int} {ky : Nat → Nat} {μ : Mem} (hL : LimsIn μ rr) (hk : ∀ i, i < 4 → μ.1 39 i = nI (ky i) ∧ ky i < 24) (hb : ∀ j, j < 5 → bnd big (qv (mn (r4 rr ky)) z0 15 j)) :
    ∃ μ', ChgP μ μ' ∧ ((mn (r4 rr ky) 15 = 0 ∧ M_Mo_meet N μ = some (0, μ')) ∨ (mn (r4 rr ky) 15 ≠ 0 ∧ M_Mo_meet N μ = some (1, μ') ∧ ∃ p s, (∀ j, j < 5 → qv (mn (r4 rr ky)) z0 15 j = s * p j) ∧ 0 < p 4 ∧ LowT p ∧ (∀ j, j < 5 → bnd big (p j)) ∧ (∀ j, j < 4 → μ'.2 46 j = JJ (p j)) ∧ μ'.2 7 22 = JJ (p 4))) := by
  have hq := det_mn rr ky
  generalize hqe : qv (mn (r4 rr ky)) z0 15 = q at *
  have e4 : mn (r4 rr ky) 15 = q 4 := by rw [← hqe]; rfl
  have d4 := s_det (N := N) hL hk (j := 4) (by omega)
  rw [hq 4 (by omega)] at d4
  have v4 : (JJ (q 4)).toInt = q 4 := JJ_bnd (hb 4 (by omega)) (by decide)
  have up : M_Mo_meet N μ = if lg_cmp (JJ (q 4)) 0 = 0 then reZ 0 (μ.1, upJ μ.2 7 22 (JJ (q 4))) else M_Mo_meet_27 N N (JJ (q 4)) 0 (μ.1, upJ μ.2 7 22 (JJ (q 4))) := by
    unfold M_Mo_meet
    have d4' : M_Mo_determinant N 4 μ = some (JJ (q 4), μ) := d4
    rw [d4', bs2, pJ, bs, nm_eq]
    dsimp only
    simp only [upJ_at]
  rw [up]
  by_cases hz : q 4 = 0
  · refine ⟨(μ.1, upJ μ.2 7 22 (JJ (q 4))), ⟨rfl, fun a b h h' => ?_⟩, Or.inl ⟨e4.trans hz, ?_⟩⟩
    · dsimp only
      by_cases e : a = 7
      · exact upJ_pl (fun z => h' ⟨e, z⟩)
      · exact upJ_ne e b
    · rw [if_pos ((cmp_eq _ _).2 (by rw [hz]; rfl)), reZ_0]
  · have c0 : ¬ lg_cmp (JJ (q 4)) 0 = 0 := fun h => hz (by
      have := (cmp_eq _ _).1 h
      rw [this] at v4
      exact v4.symm)
    rw [if_neg c0]
    obtain ⟨m, rfl⟩ : ∃ m, N = m + 5 := ⟨N - 5, by omega⟩
    obtain ⟨x', μ1, a1, a2, a3, a4, a5, a6, a7, a8⟩ := meet_gcd (N := m + 5) hN hq hb 4 m (μ.1, upJ μ.2 7 22 (JJ (q 4))) (JJ (q 4)) (by omega) hL hk (by rw [v4]; rfl) (by rw [v4]; exact hb 4 (by omega))
    have gp := gq_pos hz 4
    have x0 : 0 < x'.toInt := by
      have := a3 (Or.inr (by omega))
      omega
    have m7 : μ1.2 7 22 = JJ (q 4) := (a6 7 22 (by omega)).trans (upJ_at μ.2 7 22 _)
    have div : ∀ j, j < 5 → ∃ z, q j = x'.toInt * z := fun j hj => by
      have hd : gq q 4 ∣ (q j).natAbs := by
        by_cases e : j = 4
        · rw [e]; exact (gq_dvd q 4).1
        · exact (gq_dvd q 4).2 j (by omega)
      rw [← a2, Int.natAbs_dvd_natAbs] at hd
      exact hd
    -- the sign goes with the divisor
    obtain ⟨y, y1, y2⟩ : ∃ y : Int64, (M_Mo_meet_27 (m + 5) (m + 1) x' 4 μ1 = M_Mo_meet_78 (m + 5) (m + 5) y 0 μ1) ∧ y.toInt = if 0 ≤ q 4 then x'.toInt else -x'.toInt := by
      by_cases hs : 0 ≤ q 4
      · refine ⟨x', ?_, by rw [if_pos hs]⟩
        rw [M_Mo_meet_27, if_pos (by decide), m7, if_pos ((cmp_z _).2 (by rw [v4]; exact hs))]
        rfl
      · refine ⟨-x', ?_, by rw [if_neg hs, neg64 (by omega)]⟩
        rw [M_Mo_meet_27, if_pos (by decide), m7, if_neg (fun h => hs (by have := (cmp_z _).1 h; rw [v4] at this; exact this))]
        rfl
    have yn : y.toInt.natAbs = gq q 4 := by
      rw [y2, ← a2]
      by_cases hs : 0 ≤ q 4
      · rw [if_pos hs]
      · rw [if_neg hs, Int.natAbs_neg]
    have y0 : y.toInt ≠ 0 := by omega
    have div' : ∀ j, j < 5 → q j = y.toInt * (q j / y.toInt) := fun j hj => by
      have hd : gq q 4 ∣ (q j).natAbs := by
        by_cases e : j = 4
        · rw [e]; exact (gq_dvd q 4).1
        · exact (gq_dvd q 4).2 j (by omega)
      rw [← yn, Int.natAbs_dvd_natAbs] at hd
      exact (Int.mul_ediv_cancel' hd).symm
    have pb : ∀ j, j < 5 → bnd big (q j / y.toInt) := fun j hj => by
      have e := div' j hj
      have hbj := hb j hj
      have : (q j / y.toInt).natAbs ≤ (q j).natAbs := by
        have e2 : (q j).natAbs = y.toInt.natAbs * (q j / y.toInt).natAbs := by rw [← Int.natAbs_mul, ← e]
        rw [e2]
        exact Nat.le_mul_of_pos_left _ (by omega)
      unfold bnd big at *
      omega
    obtain ⟨μ2, b1, b2, b3, b4, b5⟩ := meet_div (N := m + 5) (q := q) (p := fun j => q j / y.toInt) y0 div' hb pb 4 m μ1 (by omega) m7 (fun i hi => absurd hi (by omega)) (fun i h1 h2 => a8 i h1 h2)
    refine ⟨μ2, ⟨b2.trans a5, fun a b h h' => (b3 a b h h').trans ((a6 a b h).trans ?_)⟩, Or.inr ⟨by rw [e4]; exact hz, ?_, fun j => q j / y.toInt, y.toInt, div', ?_, low_of yn hz div', pb, b4, b5⟩⟩
    · dsimp only
      by_cases e : a = 7
      · exact upJ_pl (fun z => h' ⟨e, z⟩)
      · exact upJ_ne e b
    · have a1' : M_Mo_meet_27 (m + 5) (m + 5) (JJ (q 4)) 0 (μ.1, upJ μ.2 7 22 (JJ (q 4))) = M_Mo_meet_27 (m + 5) (m + 1) x' 4 μ1 := a1
      rw [a1', y1]
      exact b1
    · dsimp only
      have e := div' 4 (by omega)
      by_cases hs : 0 ≤ q 4
      · rw [if_pos hs] at y2
        refine Int.lt_of_not_ge (fun hle => ?_)
        have := Int.mul_nonneg (a := y.toInt) (b := -(q 4 / y.toInt)) (by omega) (by omega)
        rw [Int.mul_neg, ← e] at this
        omega
      · rw [if_neg hs] at y2
        refine Int.lt_of_not_ge (fun hle => ?_)
        have := Int.mul_nonneg (a := -y.toInt) (b := -(q 4 / y.toInt)) (by omega) (by omega)
        rw [Int.neg_mul_neg, ← e] at this
        omega
