/-! PURE: where some point suits, a corner does. -/
theorem min_at (D : Nat → Prop) [DecidablePred D] (a b : Nat → Int) (hb : ∀ k, D k → 0 < b k) : ∀ N, (∃ k, k < N ∧ D k) → ∃ k, k < N ∧ D k ∧ ∀ i, i < N → D i → a k * b i ≤ a i * b k := by
  intro N
  induction N with
  | zero => rintro ⟨k, hk, -⟩; exact absurd hk (by omega)
  | succ N ih =>
    rintro ⟨k, hk, hD⟩
    by_cases hex : ∃ k, k < N ∧ D k
    · obtain ⟨m, m1, m2, m3⟩ := ih hex
      by_cases hN : D N
      · by_cases hle : a m * b N ≤ a N * b m
        · refine ⟨m, by omega, m2, fun i hi hDi => ?_⟩
          by_cases e : i = N
          · rw [e]; exact hle
          · exact m3 i (by omega) hDi
        · refine ⟨N, by omega, hN, fun i hi hDi => ?_⟩
          by_cases e : i = N
          · rw [e]; exact Int.le_refl _
          · have h1 := m3 i (by omega) hDi
            have bm := hb m m2
            have bN := hb N hN
            have bi := hb i hDi
            -- aN bm < am bN, am bi ≤ ai bm
            have x1 : a N * b m * b i ≤ a m * b N * b i := Int.mul_le_mul_of_nonneg_right (by omega) (by omega)
            have x2 : a m * b i * b N ≤ a i * b m * b N := Int.mul_le_mul_of_nonneg_right h1 (by omega)
            have x3 : (a N * b i) * b m ≤ (a i * b N) * b m := by
              have e1 : a N * b i * b m = a N * b m * b i := Int.mul_right_comm ..
              have e2 : a m * b N * b i = a m * b i * b N := Int.mul_right_comm ..
              have e3 : a i * b N * b m = a i * b m * b N := Int.mul_right_comm ..
              omega
            exact Int.le_of_mul_le_mul_right x3 bm
      · refine ⟨m, by omega, m2, fun i hi hDi => ?_⟩
        by_cases e : i = N
        · rw [e] at hDi; exact absurd hDi hN
        · exact m3 i (by omega) hDi
    · have e : k = N := Decidable.byContradiction (fun h => hex ⟨k, by omega, hD⟩)
      subst e
      refine ⟨k, by omega, hD, fun i hi hDi => ?_⟩
      have : i = k := Decidable.byContradiction (fun h => hex ⟨i, by omega, hDi⟩)
      rw [this]
      exact Int.le_refl _
def cnt (P : Nat → Bool) : Nat → Nat
  | 0 => 0
  | k + 1 => cnt P k + if P k then 1 else 0
theorem cnt_le {P Q : Nat → Bool} : ∀ N, (∀ k, k < N → P k = true → Q k = true) → cnt P N ≤ cnt Q N := by
  intro N
  induction N with
  | zero => exact fun _ => Nat.le_refl _
  | succ N ih =>
    intro h
    have := ih (fun k hk => h k (by omega))
    unfold cnt
    by_cases q : P N = true
    · rw [if_pos q, if_pos (h N (by omega) q)]; omega
    · rw [if_neg q]; omega
theorem cnt_lt {P Q : Nat → Bool} {x : Nat} : ∀ N, x < N → (∀ k, k < N → P k = true → Q k = true) → ¬ P x = true → Q x = true → cnt P N < cnt Q N := by
  intro N
  induction N with
  | zero => intro h; exact absurd h (by omega)
  | succ N ih =>
    intro hx h hp hq
    unfold cnt
    by_cases e : x = N
    · subst e
      have := cnt_le x (fun k hk => h k (by omega))
      rw [if_neg hp, if_pos hq]; omega
    · have := ih (by omega) (fun k hk => h k (by omega)) hp hq
      by_cases q : P N = true
      · rw [if_pos q, if_pos (h N (by omega) q)]; omega
      · rw [if_neg q]; omega
def inK (μ : Mem) (k : Nat) : Bool := decide (k < 24) && (decide (16 ≤ k) || (Tn μ).testBit (k / 2))
theorem inK_iff (μ : Mem) (k : Nat) : inK μ k = true ↔ (k < 16 ∧ (Tn μ).testBit (k / 2) = true) ∨ (16 ≤ k ∧ k < 24) := by
  unfold inK
  by_cases h : 16 ≤ k
  · by_cases h2 : k < 24
    · simp [h, h2]
    · simp [h, h2]; omega
  · have h2 : k < 24 := by omega
    have h3 : k < 16 := by omega
    simp [h, h2, h3]
theorem ref_tight' {μ : Mem} {n k : Nat} (h : Rx μ n) (hk : inK μ k = true) {p v : Nat → Int} (hb : InBox μ p) (hv : Kern μ p v) (ht : dot5i (rM μ n k) p = 0) : dot4 (rM μ n k) v = 0 := by
  rcases (inK_iff μ k).1 hk with ⟨h16, ht'⟩ | ⟨h16, h24⟩
  · exact ref_tight h (Or.inl ⟨h16, ht'⟩) hb hv ht
  · obtain ⟨j, s, hj, hs, rfl⟩ : ∃ j s, j < 4 ∧ s < 2 ∧ k = 16 + 2 * j + s := ⟨(k - 16) / 2, k % 2, by omega, by omega, by omega⟩
    rw [h.b5 hj hs] at ht
    rw [h.b4 hj hs]
    by_cases s0 : s = 0
    · rw [if_pos s0] at ht ⊢
      exact hv.1 j hj (Or.inl ht)
    · rw [if_neg s0] at ht ⊢
      have := hv.1 j hj (Or.inr (by omega))
      omega
/-- a point keeps all: in the box, and all told sides -/
def Okp (μ : Mem) (n : Nat) (p : Nat → Int) : Prop := 0 < p 4 ∧ ∀ k, inK μ k = true → 0 ≤ dot5i (rM μ n k) p
theorem okp_iff {μ : Mem} {n : Nat} (h : Rx μ n) (p : Nat → Int) : Okp μ n p ↔ InBox μ p ∧ Feas μ p := by
  have rule : InBox μ p → ∀ r, r < 8 → (Tn μ).testBit r = true → (kp μ r p (p 4) ↔ 0 ≤ dot5i (rM μ n (2 * r)) p ∧ 0 ≤ dot5i (rM μ n (2 * r + 1)) p) := by
    intro hb r hr ht
    obtain ⟨hf, hg, -⟩ := told_fg h.2.1 hr ht
    have e1 : (2 * r) / 2 = r := by omega
    have e2 : (2 * r + 1) / 2 = r := by omega
    rw [kp_rows h.1 hf hg p, h.d5 (by omega) (by rw [e1]; exact ht) (fun i hi hn => h.out hb hi hn), h.d5 (by omega) (by rw [e2]; exact ht) (fun i hi hn => h.out hb hi hn)]
    unfold rwK
    rw [if_pos (by omega), if_neg (by omega), e1, e2]
  constructor
  · intro ⟨h4, hk⟩
    have hb : InBox μ p := (box_iff h h4).1 (fun x h1 h2 => hk x ((inK_iff μ x).2 (Or.inr ⟨h1, h2⟩)))
    refine ⟨hb, fun r hr ht => (rule hb r hr ht).2 ⟨hk _ ((inK_iff μ _).2 (Or.inl ⟨by omega, ?_⟩)), hk _ ((inK_iff μ _).2 (Or.inl ⟨by omega, ?_⟩))⟩⟩
    · rw [show 2 * r / 2 = r by omega]; exact ht
    · rw [show (2 * r + 1) / 2 = r by omega]; exact ht
  · intro ⟨hb, hf⟩
    refine ⟨hb.1, fun k hk => ?_⟩
    rcases (inK_iff μ k).1 hk with ⟨h16, ht⟩ | ⟨h16, h24⟩
    · have := (rule hb (k / 2) (by omega) ht).1 (hf _ (by omega) ht)
      rcases (by omega : k = 2 * (k / 2) ∨ k = 2 * (k / 2) + 1) with e | e
      · rw [e]; exact this.1
      · rw [e]; exact this.2
    · exact (box_iff h hb.1).2 hb k h16 h24
def nt (μ : Mem) (n : Nat) (p : Nat → Int) : Nat := cnt (fun k => inK μ k && decide (dot5i (rM μ n k) p ≠ 0)) 24
theorem exist_corner {μ : Mem} {n : Nat} (h : Rx μ n) : ∀ (N : Nat) (p : Nat → Int), nt μ n p < N → Okp μ n p → ∃ q, Corner μ q ∧ Feas μ q := by
  intro N
  induction N with
  | zero => intro p hp; exact absurd hp (by omega)
  | succ N ih =>
    intro p hp hok
    obtain ⟨hb, hf⟩ := (okp_iff h p).1 hok
    by_cases hc : Corner μ p
    · exact ⟨p, hc, hf⟩
    · obtain ⟨v, hv, j0, hj0, hvj⟩ : ∃ v, Kern μ p v ∧ ∃ j, j < 4 ∧ v j ≠ 0 := by
        refine Classical.byContradiction (fun hno => hc ⟨hb, fun v hv j hj => Classical.byContradiction (fun hz => hno ⟨v, hv, j, hj, hz⟩)⟩)
      -- a side that the direction leaves
      have hD : ∃ k, k < 24 ∧ (inK μ k = true ∧ dot4 (rM μ n k) v < 0) := by
        by_cases hs : v j0 < 0
        · exact ⟨16 + 2 * j0 + 0, by omega, (inK_iff μ _).2 (Or.inr ⟨by omega, by omega⟩), by rw [h.b4 hj0 (by omega), if_pos rfl]; exact hs⟩
        · exact ⟨16 + 2 * j0 + 1, by omega, (inK_iff μ _).2 (Or.inr ⟨by omega, by omega⟩), by rw [h.b4 hj0 (by omega), if_neg (by omega)]; omega⟩
      obtain ⟨x, x1, ⟨x2, x3⟩, x4⟩ := min_at (fun k => inK μ k = true ∧ dot4 (rM μ n k) v < 0) (fun k => dot5i (rM μ n k) p) (fun k => -dot4 (rM μ n k) v) (fun k hk => by have := hk.2; omega) 24 hD
      obtain ⟨s, hs⟩ : ∃ s, s = -dot4 (rM μ n x) v := ⟨_, rfl⟩
      obtain ⟨e, he⟩ : ∃ e, e = dot5i (rM μ n x) p := ⟨_, rfl⟩
      have s0 : 0 < s := by omega
      have e0 : 0 ≤ e := by rw [he]; exact hok.2 x x2
      have lin : ∀ k, dot5i (rM μ n k) (fun j => if j = 4 then s * p 4 else s * p j + e * v j) = s * dot5i (rM μ n k) p + e * dot4 (rM μ n k) v := by
        intro k
        unfold dot5i dot4
        simp only [if_true, show ¬ (0 : Nat) = 4 by decide, show ¬ (1 : Nat) = 4 by decide, show ¬ (2 : Nat) = 4 by decide, show ¬ (3 : Nat) = 4 by decide, if_false]
        grind
      have okq : Okp μ n (fun j => if j = 4 then s * p 4 else s * p j + e * v j) := by
        refine ⟨by show 0 < s * p 4; exact Int.mul_pos s0 hok.1, fun k hk => ?_⟩
        rw [lin k]
        have a0 := hok.2 k hk
        by_cases hneg : dot4 (rM μ n k) v < 0
        · have k24 : k < 24 := by rcases (inK_iff μ k).1 hk with q | q <;> omega
          have := x4 k k24 ⟨hk, hneg⟩
          rw [← he, ← hs] at this
          rw [Int.mul_neg, Int.mul_comm (dot5i (rM μ n k) p) s] at this
          omega
        · have m1 := Int.mul_nonneg (Int.le_of_lt s0) a0
          have m2 : 0 ≤ e * dot4 (rM μ n k) v := Int.mul_nonneg e0 (by omega)
          omega
      have ex : e ≠ 0 := fun z => by
        have := ref_tight' h x2 hb hv (by rw [← he]; exact z)
        omega
      have zx : dot5i (rM μ n x) (fun j => if j = 4 then s * p 4 else s * p j + e * v j) = 0 := by
        rw [lin x, ← he, show dot4 (rM μ n x) v = -s by omega]
        rw [Int.mul_neg, Int.mul_comm s e]
        omega
      refine ih _ ?_ okq
      have : nt μ n (fun j => if j = 4 then s * p 4 else s * p j + e * v j) < nt μ n p := by
        unfold nt
        refine cnt_lt (x := x) 24 x1 (fun k hk hq => ?_) (fun q => ?_) ?_
        · simp only [Bool.and_eq_true, decide_eq_true_eq] at hq ⊢
          refine ⟨hq.1, fun z => hq.2 ?_⟩
          rw [lin k, z, ref_tight' h hq.1 hb hv z]
          omega
        · simp only [Bool.and_eq_true, decide_eq_true_eq] at q
          exact q.2 zx
        · simp only [Bool.and_eq_true, decide_eq_true_eq]
          exact ⟨x2, by rw [← he]; exact ex⟩
      omega
theorem some_corner {μ : Mem} {n : Nat} (h : Rx μ n) {p : Nat → Int} (hb : InBox μ p) (hf : Feas μ p) : ∃ q, Corner μ q ∧ Feas μ q :=
  exist_corner h (nt μ n p + 1) p (by omega) ((okp_iff h p).2 ⟨hb, hf⟩)
