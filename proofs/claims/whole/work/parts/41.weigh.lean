/-! PURE: CutSearch.begin and weigh. -/
theorem uf_k : ∀ x, x < 16 → ∀ j, j < 4 → x ||| 2 ^ j < 16 := by decide +kernel
theorem inStock_k {N : Nat} {μ : Mem} : ∀ (k n : Nat), k ≤ 4 → M_Lo_inStock_4 N (n + k + 1) (nI (uf (fun j => decide (0 < stk μ j)) (4 - k))) (nI (4 - k)) μ = some (nI (uf (fun j => decide (0 < stk μ j)) 4), μ) := by
  intro k
  induction k with
  | zero =>
    intro n _
    rw [M_Lo_inStock_4, if_pos (by decide)]
  | succ k ih =>
    intro n hk
    obtain ⟨j, hj⟩ : ∃ j, j = 4 - (k + 1) := ⟨_, rfl⟩
    have hn : 4 - k = j + 1 := by omega
    have h4n : ¬ (4 : Int32) ≤ nI j := nI_ge (a := j) (b := 4) (by omega) (by decide)
    have hlt : uf (fun j => decide (0 < stk μ j)) j < 256 := Nat.lt_of_lt_of_le (uf_lt' _ j) (Nat.le_trans (Nat.pow_le_pow_right (by omega) (show j ≤ 8 by omega)) (by decide))
    rw [← hj, show n + (k + 1) + 1 = (n + k + 1) + 1 by omega, M_Lo_inStock_4, if_neg h4n, ldI_n (by decide) (by decide) (by show j < 4; omega) (by decide), bs, nI_1]
    have ih' := ih n (by omega)
    rw [hn] at ih'
    have hq : (μ.1 17 j ≤ 0) ↔ ¬ 0 < stk μ j := by
      rw [Int32.le_iff_toInt_le]
      unfold stk
      show _ ≤ (0 : Int) ↔ _
      omega
    have eu : uf (fun j => decide (0 < stk μ j)) (j + 1) = if decide (0 < stk μ j) = true then uf (fun j => decide (0 < stk μ j)) j ||| 2 ^ j else uf (fun j => decide (0 < stk μ j)) j := rfl
    by_cases h : 0 < stk μ j
    · rw [if_neg (fun q => hq.mp q h), nm_eq, (or8 _ hlt j (by omega)).1]
      rw [eu, if_pos (by simpa using h)] at ih'
      exact ih'
    · rw [if_pos (hq.mpr h)]
      rw [eu, if_neg (by simpa using h)] at ih'
      exact ih'
def opn (μ : Mem) : Nat := uf (fun j => decide (0 < stk μ j)) 4
theorem opn_congr {μ μ' : Mem} (h : ∀ j, stk μ' j = stk μ j) : opn μ' = opn μ := by
  have : stk μ' = stk μ := funext h
  unfold opn
  rw [this]
theorem opn_lt (μ : Mem) : opn μ < 16 := uf_lt' _ 4
theorem opn_bit (μ : Mem) {j : Nat} (hj : j < 4) : (opn μ).testBit j = true ↔ 0 < stk μ j := by
  unfold opn
  rw [uf_bit]
  simp [hj]
theorem s_inStock {N : Nat} {μ : Mem} (hN : 5 ≤ N) : M_Lo_inStock N μ = some (nI (opn μ), μ) := by
  have := inStock_k (N := N) (μ := μ) 4 (N - 5) (by omega)
  rw [show N - 5 + 4 + 1 = N by omega] at this
  exact this
def cn (f : Nat → Int32) : Nat → Nat
  | 0 => 0
  | n + 1 => cn f n + if f n = 1 then 1 else 0
theorem cn_zero {f : Nat → Int32} : ∀ n, (∀ b, b < n → f b = 0) → cn f n = 0
  | 0, _ => rfl
  | n + 1, h => by
    unfold cn
    rw [cn_zero n (fun b hb => h b (by omega)), h n (by omega)]
    rfl
theorem cn_le (f : Nat → Int32) : ∀ n, cn f n ≤ n
  | 0 => Nat.le_refl _
  | n + 1 => by
    unfold cn
    have := cn_le f n
    by_cases h : f n = 1
    · rw [if_pos h]; omega
    · rw [if_neg h]; omega
theorem cn_lt {f : Nat → Int32} (h0 : f 0 ≠ 1) : ∀ n, cn f (n + 1) ≤ n
  | 0 => by
    unfold cn cn
    rw [if_neg h0]
    exact Nat.le_refl _
  | n + 1 => by
    have := cn_lt h0 n
    have e : cn f (n + 1 + 1) = cn f (n + 1) + if f (n + 1) = 1 then 1 else 0 := rfl
    rw [e]
    by_cases h : f (n + 1) = 1
    · rw [if_pos h]; omega
    · rw [if_neg h]; omega
theorem cn_up {f g : Nat → Int32} {u : Nat} (hu : f u ≠ 1) (hg : g u = 1) (ho : ∀ b, b ≠ u → g b = f b) : ∀ n, cn g n = cn f n + if u < n then 1 else 0
  | 0 => by
    unfold cn
    rw [if_neg (by omega)]
  | n + 1 => by
    have ih := cn_up hu hg ho n
    unfold cn
    rw [ih]
    by_cases e : n = u
    · subst e
      rw [if_neg (by omega), if_pos hg, if_neg hu, if_pos (by omega)]
    · rw [ho n e]
      by_cases l : u < n
      · rw [if_pos l, if_pos (show u < n + 1 by omega)]; omega
      · rw [if_neg l, if_neg (show ¬ u < n + 1 by omega)]; omega
def SS (μ0 μ : Mem) : Prop :=
  (∃ bc : Nat, bc < 256 ∧ μ.1 4 8 = nI bc ∧ cn (μ.1 13) 256 = bc ∧ μ.1 13 0 = 0 ∧ (∀ i, i < bc → ∃ b, 0 < b ∧ b < 256 ∧ μ.1 24 i = nI b ∧ ∃ p, Corner μ0 p ∧ unk μ0 p = b) ∧ ∀ b, b < 256 → μ.1 13 b = 0 ∨ (μ.1 13 b = 1 ∧ ∃ i, i < bc ∧ μ.1 24 i = nI b)) ∧
  ((μ.1 4 10 = 0 ∧ μ.2 4 11 = 0 ∧ μ.2 4 12 = 1) ∨ (μ.1 4 10 = 1 ∧ ∃ p, Corner μ0 p ∧ Feas μ0 p ∧ (μ.2 4 11).toInt = price μ0 p ∧ (μ.2 4 12).toInt = p 4 ∧ p 4 ≤ 100000000000000))
def Cov (μ0 μ : Mem) (p : Nat → Int) : Prop := (μ.1 4 10 = 1 → Feas μ0 p → ¬ price μ0 p * (μ.2 4 12).toInt < (μ.2 4 11).toInt * p 4) ∧ (μ.1 4 10 = 0 → ∃ i bc, μ.1 4 8 = nI bc ∧ bc < 256 ∧ i < bc ∧ μ.1 24 i = nI (unk μ0 p))
theorem begin_k {N : Nat} {μ0 : Mem} {bc : Nat} (hN : 5 ≤ N) (hbc : bc ≤ 256) (h8 : μ0.1 4 8 = nI bc) (hb : ∀ i, i < bc → ∃ b : Nat, b < 256 ∧ μ0.1 24 i = nI b) :
    ∀ (k n : Nat) (μ : Mem), k ≤ bc → (∀ a b, a ≠ 13 → μ.1 a b = μ0.1 a b) → μ.2 = μ0.2 → (∀ x, x < 256 → μ.1 13 x = 0 ∨ ∃ i, bc - k ≤ i ∧ i < bc ∧ μ0.1 24 i = nI x) →
      ∃ μ', M_CS_begin_2 N (n + k + 1) (nI (bc - k)) μ = some μ' ∧ (∀ a b, a ≠ 13 → a ≠ 4 → μ'.1 a b = μ0.1 a b) ∧ (∀ a b, a ≠ 4 → a ≠ 70 → μ'.2 a b = μ0.2 a b) ∧ (∀ x, x < 256 → μ'.1 13 x = 0) ∧ μ'.1 4 8 = 0 ∧ μ'.1 4 10 = 0 ∧ μ'.2 4 11 = 0 ∧ μ'.2 4 12 = 1 ∧ μ'.1 4 9 = nI (opn μ0) ∧ μ'.2 70 0 = 1 := by
  intro k
  induction k with
  | zero =>
    intro n μ _ e1 e2 e3
    have h4 : μ.1 4 8 = nI bc := by rw [e1 4 8 (by decide), h8]
    rw [M_CS_begin_2, if_pos (by rw [h4]; exact nI_le (by omega) (by omega)), pI, bs, pZ, if_pos (.inl rfl), bs, pJ, bs, pJ, bs, s_inStock hN, bs2, pI, bs]
    rw [show (0 : Int32) = nI 0 from nI_0.symm, ldA_n (by decide) (by decide) (by decide) (by decide), bs, stJ_n (by decide) (by decide) (by decide) (by decide), bs]
    have eo : opn (upI (upI μ.1 4 8 (nI 0)) 4 10 (nI 0), upJ (upJ μ.2 4 11 0) 4 12 1) = opn μ0 := by
      refine opn_congr (fun j => ?_)
      unfold stk
      dsimp only
      rw [upI_ne (by decide), upI_ne (by decide), e1 17 j (by decide)]
    refine ⟨_, rfl, fun a b h13 h4 => ?_, fun a b h4 h70 => ?_, fun x hx => ?_, ?_, ?_, ?_, ?_, ?_, ?_⟩
    · dsimp only
      rw [upI_ne h4, upI_ne h4, upI_ne h4, e1 a b h13]
    · dsimp only
      rw [upJ_ne (show a ≠ outB 10 + 0 from h70), upJ_ne h4, upJ_ne h4, e2]
    · dsimp only
      rw [upI_ne (by decide), upI_ne (by decide), upI_ne (by decide)]
      rcases e3 x hx with h | ⟨i, h1, h2, -⟩
      · exact h
      · omega
    · dsimp only
      rw [upI_pl (by decide), upI_pl (by decide), upI_at, nI_0]
    · dsimp only
      rw [upI_pl (by decide), upI_at, nI_0]
    · dsimp only
      rw [upJ_ne (by decide), upJ_pl (by decide), upJ_at]
    · dsimp only
      rw [upJ_ne (by decide), upJ_at]
    · dsimp only
      rw [upI_at, eo]
    · dsimp only
      show upJ _ 70 0 1 70 0 = 1
      rw [upJ_at]
  | succ k ih =>
    intro n μ hk e1 e2 e3
    have h4 : μ.1 4 8 = nI bc := by rw [e1 4 8 (by decide), h8]
    obtain ⟨j, hj⟩ : ∃ j, j = bc - (k + 1) := ⟨_, rfl⟩
    obtain ⟨b, hb1, hb2⟩ := hb j (by omega)
    rw [← hj] at e3 ⊢
    rw [show n + (k + 1) + 1 = (n + k + 1) + 1 by omega, M_CS_begin_2, if_neg (by rw [h4]; exact nI_ge (by omega) (by omega)), ldI_n (by decide) (by decide) (by show j < 256; omega) (by decide), bs, e1 24 j (by decide), hb2, stZ_n (by decide) (by decide) (.inl rfl) (by show b < 256; omega) (by decide), bs, nI_1, show j + 1 = bc - k by omega]
    refine ih n (upI μ.1 13 b 0, μ.2) (by omega) (fun a c h => by dsimp only; rw [upI_ne h, e1 a c h]) e2 (fun x hx => ?_)
    dsimp only
    by_cases hxb : x = b
    · left; rw [hxb, upI_at]
    · rw [upI_pl hxb]
      rcases e3 x hx with h | ⟨i, h1, h2, h3⟩
      · exact .inl h
      · right
        refine ⟨i, ?_, h2, h3⟩
        have : i ≠ j := fun e => hxb (by
          rw [e, hb2] at h3
          exact ((nI_eq (by omega) (by omega)).mp h3).symm)
        omega
theorem s_begin {N : Nat} {μ : Mem} (hN : 258 ≤ N) (hS : InvS μ) : ∃ μ', M_CS_begin N μ = some μ' ∧ (∀ a b, a ≠ 13 → a ≠ 4 → μ'.1 a b = μ.1 a b) ∧ (∀ a b, a ≠ 4 → a ≠ 70 → μ'.2 a b = μ.2 a b) ∧ (∀ x, x < 256 → μ'.1 13 x = 0) ∧ μ'.1 4 8 = 0 ∧ μ'.1 4 10 = 0 ∧ μ'.2 4 11 = 0 ∧ μ'.2 4 12 = 1 ∧ μ'.1 4 9 = nI (opn μ) ∧ μ'.2 70 0 = 1 := by
  obtain ⟨⟨bc, h1, h2, h3, h4⟩, -⟩ := hS
  have := begin_k (N := N) (by omega) h1 h2 h3 bc (N - bc - 1) μ (Nat.le_refl _) (fun _ _ _ => rfl) rfl (fun x hx => by
    rcases h4 x hx with h | ⟨i, h, h'⟩
    · exact .inl h
    · exact .inr ⟨i, by omega, h, h'⟩)
  rw [show N - bc - 1 + bc + 1 = N by omega, show bc - bc = 0 by omega, nI_0] at this
  exact this
theorem s_price {N : Nat} {μ : Mem} {p : Nat → Int} (hN : 5 ≤ N) (hc : ∀ i, i < 4 → μ.2 42 i = JJ (cts μ i)) (hp : ∀ i, i < 4 → μ.2 43 i = JJ (p i)) : M_Lo_price N 43 μ = some (JJ (price μ p), μ) := by
  obtain ⟨n, rfl⟩ : ∃ n, N = n + 5 := ⟨N - 5, by omega⟩
  have step : ∀ (n j : Nat) (acc : Int), j < 4 → M_Lo_price_5 (N := 0) (n + 1) 43 (JJ acc) (nI j) μ = M_Lo_price_5 (N := 0) n 43 (JJ (acc + cts μ j * p j)) (nI (j + 1)) μ := by
    intro n j acc hj
    have h4n : ¬ (4 : Int32) ≤ nI j := nI_ge (a := j) (b := 4) (by omega) (by decide)
    rw [M_Lo_price_5, if_neg h4n, ldJ_n (by decide) (by decide) (by show j < 4; omega) (by decide), bs, ldJ_n (by decide) (by decide) (by show j < 5; omega) (by decide), bs, nm_eq, hc j hj, hp j hj, JJ_mul, JJ_add, nI_1]
  have fu : ∀ (N' : Nat) n (a : Int64) (x : Int32) (μ : Mem), M_Lo_price_5 N' n 43 a x μ = M_Lo_price_5 0 n 43 a x μ := by
    intro N' n
    induction n with
    | zero => intro a x μ; rfl
    | succ n ih =>
      intro a x μ
      rw [M_Lo_price_5, M_Lo_price_5]
      simp only [ih]
  rw [M_Lo_price, fu]
  show M_Lo_price_5 0 (n + 4 + 1) 43 (JJ 0) (nI 0) μ = _
  rw [step _ 0 _ (by decide), show n + 4 = n + 3 + 1 from rfl, step _ 1 _ (by decide), show n + 3 = n + 2 + 1 from rfl, step _ 2 _ (by decide), show n + 2 = n + 1 + 1 from rfl, step _ 3 _ (by decide), M_Lo_price_5, if_pos (by decide)]
  unfold price
  rw [Int.zero_add]
def uS (μ0 : Mem) (rl : Nat → Nat) (p : Nat → Int) : Nat → Nat
  | 0 => 0
  | i + 1 => if kp μ0 (rl i) p (p 4) then uS μ0 rl p i else uS μ0 rl p i ||| 2 ^ rl i
theorem uS_lt {μ0 : Mem} {rl : Nat → Nat} {p : Nat → Int} : ∀ i, (∀ i', i' < i → rl i' < 8) → uS μ0 rl p i < 256
  | 0, _ => by show 0 < 256; decide
  | i + 1, h => by
    have ih := uS_lt (μ0 := μ0) (p := p) i (fun i' hi => h i' (by omega))
    unfold uS
    by_cases q : kp μ0 (rl i) p (p 4)
    · rw [if_pos q]; exact ih
    · rw [if_neg q]; exact (or8 _ ih _ (h i (by omega))).2
theorem uS_bit {μ0 : Mem} {rl : Nat → Nat} {p : Nat → Int} (r : Nat) : ∀ i, (uS μ0 rl p i).testBit r = true ↔ ∃ i', i' < i ∧ rl i' = r ∧ ¬ kp μ0 r p (p 4)
  | 0 => by
    unfold uS
    rw [Nat.zero_testBit]
    constructor
    · intro h; cases h
    · rintro ⟨i', h, -⟩; omega
  | i + 1 => by
    have ih := uS_bit (μ0 := μ0) (p := p) (rl := rl) r i
    unfold uS
    by_cases q : kp μ0 (rl i) p (p 4)
    · rw [if_pos q, ih]
      constructor
      · rintro ⟨i', h, h'⟩; exact ⟨i', by omega, h'⟩
      · rintro ⟨i', h, h1, h2⟩
        refine ⟨i', ?_, h1, h2⟩
        have : i' ≠ i := fun e => h2 (by rw [← h1, e]; exact q)
        omega
    · rw [if_neg q, Nat.testBit_or, Nat.testBit_two_pow, Bool.or_eq_true, ih]
      constructor
      · rintro (⟨i', h, h'⟩ | h)
        · exact ⟨i', by omega, h'⟩
        · have e : rl i = r := by simpa using h
          exact ⟨i, by omega, e, by rw [← e]; exact q⟩
      · rintro ⟨i', h, h1, h2⟩
        by_cases e : i' = i
        · right; rw [← h1, e]; simp
        · left; exact ⟨i', by omega, h1, h2⟩
theorem uS_unk {μ0 : Mem} {rl : Nat → Nat} {m : Nat} {p : Nat → Int} (hl : RlOK μ0 rl m) (hs : ∀ r, r < 8 → (Tn μ0).testBit r = true → ∃ i, i < m ∧ rl i = r) : uS μ0 rl p m = unk μ0 p := by
  refine eq8 (uS_lt m (fun i hi => (hl i hi).1)) (uf_lt _) (fun r hr => ?_)
  rw [unk_bit μ0 p hr]
  have h := uS_bit (μ0 := μ0) (p := p) (rl := rl) r m
  have hb : bad μ0 p r = true ↔ ∃ i', i' < m ∧ rl i' = r ∧ ¬ kp μ0 r p (p 4) := by
    unfold bad
    rw [Bool.and_eq_true, Bool.not_eq_true', decide_eq_false_iff_not]
    constructor
    · rintro ⟨h1, h2⟩
      obtain ⟨i, hi, e⟩ := hs r hr h1
      exact ⟨i, hi, e, h2⟩
    · rintro ⟨i, hi, e, h2⟩
      exact ⟨by rw [← e]; exact (hl i hi).2, h2⟩
  cases h1 : (uS μ0 rl p m).testBit r <;> cases h2 : bad μ0 p r
  · rfl
  · rw [h.mpr (hb.mp h2)] at h1; cases h1
  · rw [hb.mpr (h.mp h1)] at h2; cases h2
  · rfl
