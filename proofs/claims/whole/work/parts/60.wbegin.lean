/-! PURE: WholeSearch.begin. -/
def mxI0 (z : Int) : Int := if 0 ≤ z then z else 0
def mnI0 (z : Int) : Int := if z ≤ 0 then z else 0
/-- the most that the lots from l on can add to a side; the least that they cost -/
def rch (μ : Mem) (row : Nat → Int) : Nat → Int
  | 0 => 0
  | j + 1 => rch μ row j + mxI0 (row (3 - j) * stk μ (3 - j))
def lst (μ : Mem) : Nat → Int
  | 0 => 0
  | j + 1 => lst μ j + mnI0 (cts μ (3 - j) * stk μ (3 - j))
theorem s_max (N : Nat) {z : Int} (h : bnd 1000000000000000000 z) : M_Ma_max N 0 (JJ z) = some (JJ (mxI0 z)) := by
  have e : (JJ z).toInt = z := JJ_bnd h (by decide)
  have z0 : (0 : Int64).toInt = 0 := rfl
  unfold M_Ma_max mxI0
  by_cases q : 0 ≤ z
  · by_cases q' : z = 0
    · rw [if_neg (by rw [cmp_lt, Int64.lt_iff_toInt_lt, e, z0]; omega), if_pos q, q']; rfl
    · rw [if_pos (by rw [cmp_lt, Int64.lt_iff_toInt_lt, e, z0]; omega), if_pos q]
  · rw [if_neg (by rw [cmp_lt, Int64.lt_iff_toInt_lt, e, z0]; omega), if_neg q]; rfl
theorem s_min (N : Nat) {z : Int} (h : bnd 1000000000000000000 z) : M_Ma_min N 0 (JJ z) = some (JJ (mnI0 z)) := by
  have e : (JJ z).toInt = z := JJ_bnd h (by decide)
  have z0 : (0 : Int64).toInt = 0 := rfl
  unfold M_Ma_min mnI0
  by_cases q : z ≤ 0
  · by_cases q' : z = 0
    · rw [if_neg (by rw [cmp_gt, Int64.lt_iff_toInt_lt, e, z0]; omega), if_pos q, q']; rfl
    · rw [if_pos (by rw [cmp_gt, Int64.lt_iff_toInt_lt, e, z0]; omega), if_pos q]
  · rw [if_neg (by rw [cmp_gt, Int64.lt_iff_toInt_lt, e, z0]; omega), if_neg q]; rfl
/-- the sides' rows and lots as WholeSearch reads them -/
def Wsc (μ0 : Mem) (m : Nat) (rl : Nat → Nat) (μ : Mem) : Prop := m ≤ 8 ∧ μ.1 3 0 = nI m ∧ (∀ k, k < 2 * m → ∀ c, c < 5 → μ.2 (54 + k) c = JJ (rS μ0 rl k c)) ∧ (∀ i, i < 4 → μ.1 17 i = μ0.1 17 i) ∧ (∀ i, i < 4 → μ.2 42 i = JJ (cts μ0 i)) ∧
  (∀ k, k < 2 * m → ∀ c, c < 4 → bnd 20000 (rS μ0 rl k c)) ∧ (∀ k, k < 2 * m → bnd 100000 (rS μ0 rl k 4)) ∧ (∀ i, i < 4 → 0 ≤ stk μ0 i ∧ stk μ0 i ≤ 9) ∧ ∀ i, i < 4 → bnd 1000 (cts μ0 i)
theorem lnJ_v {l : Nat} (h : l < 5) : lnJ (75 + l) = 16 ∧ lnJ (80 + l) = 16 := by
  constructor
  · unfold lnJ
    rw [if_neg (by omega), if_neg (by omega), if_neg (by omega), if_neg (by omega), if_neg (by omega), if_neg (by omega), if_neg (by omega), if_neg (by omega), if_neg (by omega)]
  · unfold lnJ
    rw [if_neg (by omega), if_neg (by omega), if_neg (by omega), if_neg (by omega), if_neg (by omega), if_neg (by omega), if_neg (by omega), if_neg (by omega), if_neg (by omega)]
def WIv (k : Nat) : Prop := False ∧ k = k
def WJw (k : Nat) : Prop := k = 45 ∨ (75 ≤ k ∧ k < 84)
theorem two_nI (m : Nat) : (2 : Int32) * nI m = nI (2 * m) := (Int32.ofNat_mul 2 m).symm
theorem wb_val {N m : Nat} {rl : Nat → Nat} {μ0 : Mem} : ∀ (j f : Nat) (μ : Mem), j ≤ 2 * m → Wsc μ0 m rl μ → (∀ k, k < 2 * m - j → μ.2 75 k = JJ (rS μ0 rl k 4)) →
    ∃ μ', M_WS_begin_2 N (f + j + 1) (nI (2 * m - j)) μ = M_WS_begin_42 N N 3 μ' ∧ μ'.1 = μ.1 ∧ (∀ a b, a ≠ 75 → μ'.2 a b = μ.2 a b) ∧ ∀ k, k < 2 * m → μ'.2 75 k = JJ (rS μ0 rl k 4) := by
  intro j
  induction j with
  | zero =>
    intro f μ _ hc hv
    obtain ⟨c1, c2, c3, -⟩ := hc
    refine ⟨μ, ?_, rfl, fun _ _ _ => rfl, fun k hk => hv k (by omega)⟩
    rw [M_WS_begin_2, if_pos (by rw [c2, two_nI]; exact nI_le (by omega) (by omega))]
  | succ j ih =>
    intro f μ hj hc hv
    obtain ⟨c1, c2, c3, c4, c5, c6⟩ := id hc
    have lt : ¬ nI (2 * m) ≤ nI (2 * m - (j + 1)) := nI_ge (a := 2 * m - (j + 1)) (b := 2 * m) (by omega) (by omega)
    have l9 : lnJ (54 + (2 * m - (j + 1))) = 5 := lnJ_side (by omega)
    obtain ⟨μ', a1, a2, a3, a4⟩ := ih f (μ.1, upJ μ.2 75 (2 * m - (j + 1)) (JJ (rS μ0 rl (2 * m - (j + 1)) 4))) (by omega) ⟨c1, c2, fun k hk c hc' => by dsimp only; rw [upJ_ne (by omega)]; exact c3 k hk c hc', c4, fun i hi => by dsimp only; rw [upJ_ne (by omega)]; exact c5 i hi, c6⟩ (fun k hk => by
      dsimp only
      by_cases e : k = 2 * m - (j + 1)
      · rw [e, upJ_at]
      · rw [upJ_pl e]; exact hv k (by omega))
    refine ⟨μ', ?_, a2, fun a b h => (a3 a b h).trans (upJ_ne h b), a4⟩
    have l0 := ldA_n (k := 11) (j := 0) (by decide) (by decide) (by decide) (by decide)
    have n0 : nI 0 = 0 := rfl
    rw [n0] at l0
    have l1 := ldA_n (k := 9) (j := 2 * m - (j + 1)) (by decide) (by decide) (by show 2 * m - (j + 1) < 16; omega) (by decide)
    have eo9 : outB 9 = 54 := rfl
    have eo11 : outB 11 + 0 = 75 := rfl
    rw [eo9] at l1
    rw [eo11] at l0
    have l2 : ldJ μ (54 + (2 * m - (j + 1))) 4 = some (μ.2 (54 + (2 * m - (j + 1))) 4) := ldJ_n (j := 4) (by omega) (by omega) (by omega) (by omega)
    rw [show f + (j + 1) + 1 = (f + j + 1) + 1 by omega, M_WS_begin_2, if_neg (by rw [c2, two_nI]; exact lt), l0, bs, l1, bs, l2, bs, c3 _ (by omega) 4 (by omega), stJ_n (by decide) (by decide) (by show 2 * m - (j + 1) < 16; omega) (by decide), bs, nI_1, show 2 * m - (j + 1) + 1 = 2 * m - j by omega]
    exact a1
theorem wb_side {N m l : Nat} {rl : Nat → Nat} {μ0 : Mem} {K42 : Int32 → Mem → Option Mem} (hl : l < 4) : ∀ (j f : Nat) (μ : Mem), j ≤ 2 * m → Wsc μ0 m rl μ → (∀ k, k < 2 * m → μ.2 (80 + (l + 1)) k = JJ (rch μ0 (rS μ0 rl k) (3 - l))) → (∀ k, k < 2 * m - j → μ.2 (80 + l) k = JJ (rch μ0 (rS μ0 rl k) (4 - l))) →
    ∃ μ', M_WS_begin_87 N K42 (f + j + 1) (nI l) (nI (2 * m - j)) μ = K42 (nI l + (-1)) μ' ∧ μ'.1 = μ.1 ∧ (∀ a b, a ≠ 80 + l → μ'.2 a b = μ.2 a b) ∧ ∀ k, k < 2 * m → μ'.2 (80 + l) k = JJ (rch μ0 (rS μ0 rl k) (4 - l)) := by
  intro j
  induction j with
  | zero =>
    intro f μ _ hc hr hv
    obtain ⟨c1, c2, c3, -⟩ := hc
    refine ⟨μ, ?_, rfl, fun _ _ _ => rfl, fun k hk => hv k (by omega)⟩
    rw [M_WS_begin_87, if_pos (by rw [c2, two_nI]; exact nI_le (by omega) (by omega))]
  | succ j ih =>
    intro f μ hj hc hr hv
    obtain ⟨c1, c2, c3, c4, c5, c6, c7, c8, c9⟩ := id hc
    obtain ⟨K, hK⟩ : ∃ K, K = 2 * m - (j + 1) := ⟨_, rfl⟩
    have lt : ¬ nI (2 * m) ≤ nI K := nI_ge (a := K) (b := 2 * m) (by omega) (by omega)
    have l9 : lnJ (54 + K) = 5 := lnJ_side (by omega)
    have lv := lnJ_v (l := l) (by omega)
    have lv' := lnJ_v (l := l + 1) (by omega)
    have er : rch μ0 (rS μ0 rl K) (4 - l) = rch μ0 (rS μ0 rl K) (3 - l) + mxI0 (rS μ0 rl K l * stk μ0 l) := by
      rw [show 4 - l = (3 - l) + 1 by omega]
      show rch μ0 (rS μ0 rl K) (3 - l) + mxI0 (rS μ0 rl K (3 - (3 - l)) * stk μ0 (3 - (3 - l))) = _
      rw [show 3 - (3 - l) = l by omega]
    obtain ⟨μ', a1, a2, a3, a4⟩ := ih f (μ.1, upJ μ.2 (80 + l) K (JJ (rch μ0 (rS μ0 rl K) (4 - l)))) (by omega) ⟨c1, c2, fun k hk c hc' => by dsimp only; rw [upJ_ne (by omega)]; exact c3 k hk c hc', c4, fun i hi => by dsimp only; rw [upJ_ne (by omega)]; exact c5 i hi, c6, c7, c8, c9⟩ (fun k hk => by dsimp only; rw [upJ_ne (by omega)]; exact hr k hk) (fun k hk => by
      dsimp only
      by_cases e : k = K
      · rw [e, upJ_at]
      · rw [upJ_pl e]; exact hv k (by omega))
    refine ⟨μ', ?_, a2, fun a b h => (a3 a b h).trans (upJ_ne h b), a4⟩
    have l0 := ldA_n (k := 12) (j := l) (by decide) (by decide) (by show l < 5; omega) (by decide)
    have l0' := ldA_n (k := 12) (j := l + 1) (by decide) (by decide) (by show l + 1 < 5; omega) (by decide)
    have l1 := ldA_n (k := 9) (j := K) (by decide) (by decide) (by show K < 16; omega) (by decide)
    have eo9 : outB 9 = 54 := rfl
    have eo12 : outB 12 = 80 := rfl
    rw [eo9] at l1
    rw [eo12] at l0 l0'
    have hb := bd_mul (c6 K (by omega) l hl) (show bnd 9 (stk μ0 l) by have := c8 l hl; unfold bnd; omega)
    rw [← hK, show f + (j + 1) + 1 = (f + j + 1) + 1 by omega, M_WS_begin_87, if_neg (by rw [c2, two_nI]; exact lt), l0, bs, nI_1, l0', bs, ldJ_n (by omega) (by omega) (by omega) (by omega), bs, l1, bs, ldJ_n (by omega) (by omega) (by omega) (by omega), bs, ldI_n (by decide) (by decide) (by show l < 4; omega) (by decide), bs, c3 K (by omega) l (by omega), c4 l hl, i2l_J, JJ_mul]
    rw [show rS μ0 rl K l * (μ0.1 17 l).toInt = rS μ0 rl K l * stk μ0 l from rfl, s_max N (by unfold bnd at *; omega), bs, hr K (by omega), JJ_add, ← er, stJ_n (by omega) (by omega) (by omega) (by omega), bs, nI_1, show K + 1 = 2 * m - j by omega]
    exact a1
theorem wb_lot {N m : Nat} {rl : Nat → Nat} {μ0 : Mem} (hN : 20 ≤ N) : ∀ (j f : Nat) (μ : Mem), j ≤ 4 → Wsc μ0 m rl μ → (∀ l, j ≤ l → l ≤ 4 → (∀ k, k < 2 * m → μ.2 (80 + l) k = JJ (rch μ0 (rS μ0 rl k) (4 - l))) ∧ μ.2 45 l = JJ (lst μ0 (4 - l))) →
    ∃ μ', M_WS_begin_42 N (f + j + 1) (nI j + (-1)) μ = some μ' ∧ μ'.1 = μ.1 ∧ (∀ a b, a ≠ 45 → ¬ (80 ≤ a ∧ a < 84) → μ'.2 a b = μ.2 a b) ∧ μ'.2 45 4 = μ.2 45 4 ∧ (∀ l, l ≤ 4 → (∀ k, k < 2 * m → μ'.2 (80 + l) k = JJ (rch μ0 (rS μ0 rl k) (4 - l))) ∧ μ'.2 45 l = JJ (lst μ0 (4 - l))) := by
  intro j
  induction j with
  | zero =>
    intro f μ _ hc hv
    refine ⟨μ, ?_, rfl, fun _ _ _ _ => rfl, rfl, fun l hl => hv l (by omega) hl⟩
    rw [M_WS_begin_42, if_pos (by decide)]
  | succ j ih =>
    intro f μ hj hc hv
    obtain ⟨c1, c2, c3, c4, c5, c6, c7, c8, c9⟩ := id hc
    have el : lst μ0 (4 - j) = lst μ0 (3 - j) + mnI0 (cts μ0 j * stk μ0 j) := by
      rw [show 4 - j = (3 - j) + 1 by omega]
      show lst μ0 (3 - j) + mnI0 (cts μ0 (3 - (3 - j)) * stk μ0 (3 - (3 - j))) = _
      rw [show 3 - (3 - j) = j by omega]
    obtain ⟨hv1, hv2⟩ := hv (j + 1) (by omega) (by omega)
    rw [show 4 - (j + 1) = 3 - j by omega] at hv1 hv2
    have hc1 : Wsc μ0 m rl (μ.1, upJ μ.2 45 j (JJ (lst μ0 (4 - j)))) := ⟨c1, c2, fun k hk c hc' => by dsimp only; rw [upJ_ne (by omega)]; exact c3 k hk c hc', c4, fun i hi => by dsimp only; rw [upJ_ne (by omega)]; exact c5 i hi, c6, c7, c8, c9⟩
    obtain ⟨μ1, s1, s2, s3, s4⟩ := wb_side (N := N) (K42 := M_WS_begin_42 N (f + j + 1)) (l := j) (by omega) (2 * m) (N - 2 * m - 1) (μ.1, upJ μ.2 45 j (JJ (lst μ0 (4 - j)))) (Nat.le_refl _) hc1 (fun k hk => by dsimp only; rw [upJ_ne (by omega)]; exact hv1 k hk) (fun k hk => absurd hk (by omega))
    rw [show N - 2 * m - 1 + 2 * m + 1 = N by omega, Nat.sub_self] at s1
    have hc2 : Wsc μ0 m rl μ1 := by
      obtain ⟨d1, d2, d3, d4, d5, d6⟩ := hc1
      exact ⟨d1, by rw [s2]; exact d2, fun k hk c hc' => by rw [s3 _ _ (by omega)]; exact d3 k hk c hc', fun i hi => by rw [s2]; exact d4 i hi, fun i hi => by rw [s3 _ _ (by omega)]; exact d5 i hi, d6⟩
    obtain ⟨μ', a1, a2, a3, a4, a5⟩ := ih f μ1 (by omega) hc2 (fun l h1 h2 => by
      by_cases e : l = j
      · subst e
        refine ⟨s4, ?_⟩
        rw [s3 _ _ (by omega)]
        exact upJ_at μ.2 45 _ _
      · obtain ⟨w1, w2⟩ := hv l (by omega) h2
        refine ⟨fun k hk => ?_, ?_⟩
        · rw [s3 _ _ (by omega)]
          dsimp only
          rw [upJ_ne (by omega)]
          exact w1 k hk
        · rw [s3 _ _ (by omega)]
          dsimp only
          rw [upJ_pl e]
          exact w2)
    refine ⟨μ', ?_, a2.trans s2, fun a b h1 h2 => (a3 a b h1 h2).trans ((s3 a b (by omega)).trans (upJ_ne h1 b)), a4.trans ((s3 _ _ (by omega)).trans (upJ_pl (by omega))), a5⟩
    have pos : ¬ nI j < 0 := nI_pos (by omega)
    have hb := bd_mul (c9 j (by omega)) (show bnd 9 (stk μ0 j) by have := c8 j (by omega); unfold bnd; omega)
    rw [nI_dec, show f + (j + 1) + 1 = (f + j + 1) + 1 by omega, M_WS_begin_42, if_neg pos, nI_1, ldJ_n (by decide) (by decide) (by show j + 1 < 5; omega) (by decide), bs, ldJ_n (by decide) (by decide) (by show j < 4; omega) (by decide), bs, ldI_n (by decide) (by decide) (by show j < 4; omega) (by decide), bs, c5 j (by omega), c4 j (by omega), i2l_J, JJ_mul]
    rw [show cts μ0 j * (μ0.1 17 j).toInt = cts μ0 j * stk μ0 j from rfl, s_min N (by unfold bnd at *; omega), bs, hv2, JJ_add, ← el, stJ_n (by decide) (by decide) (by show j < 5; omega) (by decide), bs]
    have s1' : M_WS_begin_87 N (M_WS_begin_42 N (f + j + 1)) N (nI j) 0 (μ.1, upJ μ.2 45 j (JJ (lst μ0 (4 - j)))) = M_WS_begin_42 N (f + j + 1) (nI j + (-1)) μ1 := s1
    rw [s1']
    exact a1
def WIn (k : Nat) : Prop := False ∧ k = k
/-- after begin -/
def Wb (μ0 : Mem) (m : Nat) (rl : Nat → Nat) (μ : Mem) : Prop := Wsc μ0 m rl μ ∧ ∀ l, l ≤ 4 → (∀ k, k < 2 * m → μ.2 (80 + l) k = JJ (rch μ0 (rS μ0 rl k) (4 - l))) ∧ μ.2 45 l = JJ (lst μ0 (4 - l))
theorem s_wbegin {N m : Nat} {rl : Nat → Nat} {μ0 μ : Mem} (hN : 20 ≤ N) (hc : Wsc μ0 m rl μ) (h84 : ∀ j, j < 16 → μ.2 84 j = 0) (h45 : μ.2 45 4 = 0) :
    ∃ μ', M_WS_begin N μ = some μ' ∧ eqO WIn WJw μ μ' ∧ μ'.2 45 4 = 0 ∧ Wb μ0 m rl μ' ∧ ∀ k, k < 2 * m → μ'.2 75 k = JJ (rS μ0 rl k 4) := by
  obtain ⟨c1, c2, c3, c4, c5, c6⟩ := id hc
  obtain ⟨μ1, a1, a2, a3, a4⟩ := wb_val (N := N) (2 * m) (N - 2 * m - 1) μ (Nat.le_refl _) hc (fun k hk => absurd hk (by omega))
  rw [show N - 2 * m - 1 + 2 * m + 1 = N by omega, Nat.sub_self] at a1
  have hc1 : Wsc μ0 m rl μ1 := ⟨c1, by rw [a2]; exact c2, fun k hk c hc' => by rw [a3 _ _ (by omega)]; exact c3 k hk c hc', fun i hi => by rw [a2]; exact c4 i hi, fun i hi => by rw [a3 _ _ (by omega)]; exact c5 i hi, c6⟩
  obtain ⟨μ2, b1, b2, b3, b4, b5⟩ := wb_lot (N := N) hN 4 (N - 5) μ1 (Nat.le_refl 4) hc1 (fun l h1 h2 => by
    have e : l = 4 := by omega
    subst e
    refine ⟨fun k hk => ?_, ?_⟩
    · rw [a3 _ _ (by omega)]; exact h84 k (by omega)
    · rw [a3 _ _ (by omega)]; exact h45)
  rw [show N - 5 + 4 + 1 = N by omega] at b1
  have n3 : nI 4 + (-1) = (3 : Int32) := by decide
  rw [n3] at b1
  refine ⟨μ2, a1.trans b1, ⟨fun k j _ => by rw [b2, a2], fun k j q => ?_⟩, ?_, ⟨⟨c1, by rw [b2, a2]; exact c2, fun k hk c hc' => by rw [b3 _ _ (by omega) (by omega), a3 _ _ (by omega)]; exact c3 k hk c hc', fun i hi => by rw [b2, a2]; exact c4 i hi, fun i hi => by rw [b3 _ _ (by omega) (by omega), a3 _ _ (by omega)]; exact c5 i hi, c6⟩, b5⟩, fun k hk => by rw [b3 _ _ (by omega) (by omega)]; exact a4 k hk⟩
  · unfold WJw at q
    rw [b3 k j (by omega) (by omega), a3 k j (by omega)]
  · rw [b4, a3 _ _ (by omega)]; exact h45
