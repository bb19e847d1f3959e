/-! PURE: keptRules. -/
def kpt (μ : Mem) (p : Nat → Int) : Nat := uf (fun r => !bad μ p r) 8
theorem kpt_lt (μ : Mem) (p : Nat → Int) : kpt μ p < 256 := uf_lt _
theorem kpt_bit (μ : Mem) (p : Nat → Int) {r : Nat} (hr : r < 8) : (kpt μ p).testBit r = !(unk μ p).testBit r := by
  rw [unk_bit μ p hr]
  unfold kpt
  rw [uf_bit]
  simp [hr]
theorem kpt_unk (μ : Mem) (p : Nat → Int) : kpt μ p = 255 ^^^ unk μ p := by
  have x8 : ∀ a, a < 256 → 255 ^^^ a < 256 := by decide +kernel
  refine eq8 (kpt_lt μ p) (x8 _ (uf_lt _)) (fun r hr => ?_)
  have t : ∀ r, r < 8 → Nat.testBit 255 r = true := by decide
  rw [kpt_bit μ p hr, Nat.testBit_xor, t r hr]
  simp
theorem kpt_feas (μ : Mem) (p : Nat → Int) : kpt μ p = 255 ↔ Feas μ p := by
  rw [feas_unk, kpt_unk]
  have x8 : ∀ a, a < 256 → (255 ^^^ a = 255 ↔ a = 0) := by decide +kernel
  exact x8 _ (uf_lt _)
theorem rM_small {μ : Mem} {n k : Nat} (h : Rx μ n) (hk : isL μ n k ∨ (16 ≤ k ∧ k < 24)) : ∀ c, c < 5 → bnd 100000 (rM μ n k c) := by
  intro c hc
  by_cases hL : isL μ n k
  · obtain ⟨m, o, hmo, b1, b2⟩ := rM_bd h hL
    by_cases h4 : c < 4
    · have := b1 c h4
      unfold kind at hmo
      unfold bnd at *
      omega
    · rw [show c = 4 by omega]
      unfold kind at hmo
      unfold bnd at *
      omega
  · rcases hk with hk | ⟨h1, h2⟩
    · exact absurd hk hL
    · obtain ⟨r1, r2⟩ := rM_box h.1 h.2.2.2 h.2.2.1 h1 h2
      have := stk_bd h.1 ((k - 16) / 2) (by omega)
      by_cases h4 : c < 4
      · rw [r1 c h4]
        by_cases q : c = (k - 16) / 2
        · rw [if_pos q]
          by_cases q' : k % 2 = 0
          · rw [if_pos q']; unfold bnd; decide
          · rw [if_neg q']; unfold bnd; decide
        · rw [if_neg q]; unfold bnd; decide
      · rw [show c = 4 by omega, r2]
        by_cases q' : k % 2 = 0
        · rw [if_pos q']; unfold bnd; decide
        · rw [if_neg q']; unfold bnd; omega
theorem kept_box {N n : Nat} (hN : 30 ≤ N) {μ μ' : Mem} {p : Nat → Int} (h : Rx μ n) (hL : LimsIn μ' (rM μ n)) (hp : PtIn μ' p) : ∀ (k m : Nat), k ≤ 8 →
    ((∀ x, 24 - k ≤ x → x < 24 → 0 ≤ dot5i (rM μ n x) p) ∧ M_Mo_keptRules_3 N (m + k + 1) (nI (24 - k)) μ' = M_Mo_keptRules_29 N N 0 0 μ') ∨ (¬ (∀ x, 24 - k ≤ x → x < 24 → 0 ≤ dot5i (rM μ n x) p) ∧ M_Mo_keptRules_3 N (m + k + 1) (nI (24 - k)) μ' = some (-1, μ')) := by
  intro k
  induction k with
  | zero =>
    intro m _
    left
    refine ⟨fun x h1 h2 => absurd h1 (by omega), ?_⟩
    rw [M_Mo_keptRules_3, if_pos (by decide)]
  | succ k ih =>
    intro m hk
    have n24 : ¬ (24 : Int32) ≤ nI (24 - (k + 1)) := nI_ge (a := 24 - (k + 1)) (b := 24) (by omega) (by omega)
    rw [show m + (k + 1) + 1 = (m + k + 1) + 1 by omega, M_Mo_keptRules_3, if_neg n24, s_isKept (by omega) hL hp (by omega) (rM_small h (Or.inr ⟨by omega, by omega⟩)), bs2]
    by_cases hx : 0 ≤ dot5i (rM μ n (24 - (k + 1))) p
    · rw [if_neg (by rw [b01_0]; exact fun q => q hx), nI_1, show 24 - (k + 1) + 1 = 24 - k by omega]
      rcases ih m (by omega) with ⟨hy, e⟩ | ⟨hy, e⟩
      · left
        refine ⟨fun x h1 h2 => ?_, e⟩
        by_cases e : x = 24 - (k + 1)
        · rw [e]; exact hx
        · exact hy x (by omega) h2
      · right
        exact ⟨fun q => hy (fun x h1 h2 => q x (by omega) h2), e⟩
    · right
      exact ⟨fun q => hx (q _ (by omega) (by omega)), by rw [if_pos ((b01_0 _).2 hx)]⟩
theorem box_iff {μ : Mem} {n : Nat} (h : Rx μ n) {p : Nat → Int} (hp : 0 < p 4) : (∀ x, 16 ≤ x → x < 24 → 0 ≤ dot5i (rM μ n x) p) ↔ InBox μ p := by
  constructor
  · intro q
    refine ⟨hp, fun j hj => ?_⟩
    have a := q (16 + 2 * j + 0) (by omega) (by omega)
    have b := q (16 + 2 * j + 1) (by omega) (by omega)
    rw [h.b5 hj (by omega), if_pos rfl] at a
    rw [h.b5 hj (by omega), if_neg (by omega)] at b
    omega
  · intro q x h1 h2
    obtain ⟨j, s, hj, hs, rfl⟩ : ∃ j s, j < 4 ∧ s < 2 ∧ x = 16 + 2 * j + s := ⟨(x - 16) / 2, x % 2, by omega, by omega, by omega⟩
    have := q.2 j hj
    rw [h.b5 hj hs]
    by_cases s0 : s = 0
    · rw [if_pos s0]; omega
    · rw [if_neg s0]; omega
theorem kept_bits {N n : Nat} (hN : 30 ≤ N) {μ μ' : Mem} {p : Nat → Int} (h : Rx μ n) (hI : ∀ i, μ'.1 14 i = μ.1 14 i) (hL : LimsIn μ' (rM μ n)) (hp : PtIn μ' p) (hb : InBox μ p) : ∀ (k m : Nat), k ≤ 8 →
    M_Mo_keptRules_29 N (m + k + 1) (nI (uf (fun r => !bad μ p r) (8 - k))) (nI (8 - k)) μ' = some (nI (kpt μ p), μ') := by
  intro k
  induction k with
  | zero =>
    intro m _
    rw [M_Mo_keptRules_29, if_pos (by decide)]
    rfl
  | succ k ih =>
    intro m hk
    obtain ⟨j, hj⟩ : ∃ j, j = 8 - (k + 1) := ⟨_, rfl⟩
    have hn : 8 - k = j + 1 := by omega
    have n8 : ¬ (8 : Int32) ≤ nI j := nI_ge (a := j) (b := 8) (by omega) (by decide)
    have hlt : uf (fun r => !bad μ p r) j < 256 := Nat.lt_of_lt_of_le (uf_lt' _ j) (Nat.le_trans (Nat.pow_le_pow_right (by omega) (show j ≤ 8 by omega)) (by decide))
    have ih' := ih m (by omega)
    rw [hn] at ih'
    have eu : uf (fun r => !bad μ p r) (j + 1) = if (!bad μ p j) = true then uf (fun r => !bad μ p r) j ||| 2 ^ j else uf (fun r => !bad μ p r) j := rfl
    have yes : bad μ p j = false → M_Mo_keptRules_67 N (M_Mo_keptRules_29 N (m + k + 1)) (nI j) (nI (uf (fun r => !bad μ p r) j)) μ' = some (nI (kpt μ p), μ') := by
      intro hq
      unfold M_Mo_keptRules_67 M_Mo_keptRules_74
      rw [nm_eq, (or8 _ hlt j (by omega)).1, nI_1]
      rw [eu, if_pos (by rw [hq]; rfl)] at ih'
      exact ih'
    have no : bad μ p j = true → M_Mo_keptRules_73 N (M_Mo_keptRules_29 N (m + k + 1)) (nI j) (nI (uf (fun r => !bad μ p r) j)) μ' = some (nI (kpt μ p), μ') := by
      intro hq
      unfold M_Mo_keptRules_73 M_Mo_keptRules_74
      rw [nm_eq, Int32.or_zero, nI_1]
      rw [eu, if_neg (by rw [hq]; decide)] at ih'
      exact ih'
    rw [← hj, show m + (k + 1) + 1 = (m + k + 1) + 1 by omega, M_Mo_keptRules_29, if_neg n8, ldZ_n (by decide) (by decide) (by show j < 8; omega) (by decide), bs, hI]
    have hT := Tn_bit h.2.1 (r := j) (by omega)
    rcases told01 h.2.1 (r := j) (by omega) with t0 | t1
    · rw [t0, if_pos rfl]
      refine yes ?_
      unfold bad
      have : (Tn μ).testBit j = false := by
        cases q : (Tn μ).testBit j with
        | false => rfl
        | true =>
          have := hT.1 q
          rw [t0] at this
          exact absurd this (by decide)
      rw [this]; rfl
    · have ht : (Tn μ).testBit j = true := hT.2 t1
      have t2 : (2 : Int32) * nI j = nI (2 * j) := (Int32.ofNat_mul 2 _).symm
      have e1 : (2 * j) / 2 = j := by omega
      have e2 : (2 * j + 1) / 2 = j := by omega
      have d0 : dot5i (rM μ n (2 * j)) p = dot5i (rwL μ j) p := by
        rw [h.d5 (by omega) (by rw [e1]; exact ht) (fun i hi hn => h.out hb hi hn)]
        unfold rwK
        rw [if_pos (by omega), e1]
      have d1 : dot5i (rM μ n (2 * j + 1)) p = dot5i (rwH μ j) p := by
        rw [h.d5 (by omega) (by rw [e2]; exact ht) (fun i hi hn => h.out hb hi hn)]
        unfold rwK
        rw [if_neg (by omega), e2]
      obtain ⟨hf, hg, -⟩ := told_fg h.2.1 (r := j) (by omega) ht
      have hkp := kp_rows h.1 hf hg p
      have hbad : ∀ b : Bool, (b = false ↔ kp μ j p (p 4)) → bad μ p j = b := by
        intro b hb'
        unfold bad
        rw [ht]
        cases b with
        | false => simp [hb'.1 rfl]
        | true =>
          have : ¬ kp μ j p (p 4) := fun q => absurd (hb'.2 q) (by decide)
          simp [this]
      rw [t1, if_neg (by decide), t2, s_isKept (by omega) hL hp (by omega) (rM_small h (Or.inl (Or.inl ⟨by omega, by rw [e1]; exact ht⟩))), bs2, d0]
      by_cases k0 : 0 ≤ dot5i (rwL μ j) p
      · rw [if_neg (by rw [b01_0]; exact fun q => q k0), nI_1, s_isKept (by omega) hL hp (by omega) (rM_small h (Or.inl (Or.inl ⟨by omega, by rw [e2]; exact ht⟩))), bs2, d1]
        by_cases k1 : 0 ≤ dot5i (rwH μ j) p
        · rw [if_neg (by rw [b01_0]; exact fun q => q k1)]
          exact yes (hbad false ⟨fun _ => hkp.2 ⟨k0, k1⟩, fun _ => rfl⟩)
        · rw [if_pos ((b01_0 _).2 k1)]
          exact no (hbad true ⟨fun q => absurd q (by decide), fun q => absurd (hkp.1 q).2 k1⟩)
      · rw [if_pos ((b01_0 _).2 k0)]
        exact no (hbad true ⟨fun q => absurd q (by decide), fun q => absurd (hkp.1 q).1 k0⟩)
theorem s_keptRules {N n : Nat} (hN : 30 ≤ N) {μ μ' : Mem} {p : Nat → Int} (h : Rx μ n) (hI : ∀ i, μ'.1 14 i = μ.1 14 i) (hL : LimsIn μ' (rM μ n)) (hp : PtIn μ' p) (h4 : 0 < p 4) :
    (InBox μ p ∧ M_Mo_keptRules N μ' = some (nI (kpt μ p), μ')) ∨ (¬ InBox μ p ∧ M_Mo_keptRules N μ' = some (-1, μ')) := by
  obtain ⟨m, rfl⟩ : ∃ m, N = m + 9 := ⟨N - 9, by omega⟩
  rcases kept_box hN h hL hp 8 m (by omega) with ⟨a, e⟩ | ⟨a, e⟩
  · have hb := (box_iff h h4).1 a
    left
    refine ⟨hb, e.trans ?_⟩
    exact kept_bits hN h hI hL hp hb 8 m (by omega)
  · exact Or.inr ⟨fun q => a ((box_iff h h4).2 q), e⟩
