/-! PURE: the points that the reference looks at are the corners. -/
def isL (μ : Mem) (n k : Nat) : Prop := (k < 16 ∧ (Tn μ).testBit (k / 2) = true) ∨ (16 ≤ k ∧ k < 24 ∧ ((k - 16) / 2 < n ∨ k % 2 = 0))
theorem Tn_bit {μ : Mem} (hR : InvR μ) {r : Nat} (hr : r < 8) : (Tn μ).testBit r = true ↔ μ.1 14 r = 1 := by
  obtain ⟨T, hT, h2, h14, -⟩ := hR
  have e : Tn μ = T := by unfold Tn; rw [h2, nI_clamp (by omega)]
  rw [e, h14 r hr]
  by_cases h : T.testBit r = true
  · rw [if_pos h]; exact ⟨fun _ => rfl, fun _ => h⟩
  · rw [if_neg h]; exact ⟨fun q => absurd q h, fun q => absurd q (by decide)⟩
theorem LB_iff {μ : Mem} (hR : InvR μ) {n k : Nat} (hk : k < 24) : LB μ n k = 1 ↔ isL μ n k := by
  unfold LB isL
  by_cases h : k < 16
  · rw [if_pos h, ← Tn_bit hR (by omega)]
    constructor
    · exact fun q => Or.inl ⟨h, q⟩
    · rintro (⟨-, q⟩ | ⟨q, -⟩)
      · exact q
      · omega
  · rw [if_neg h]
    by_cases q : (k - 16) / 2 < n ∨ k % 2 = 0
    · rw [if_pos q]; exact ⟨fun _ => Or.inr ⟨by omega, hk, q⟩, fun _ => rfl⟩
    · rw [if_neg q]
      constructor
      · intro z; exact absurd z (by decide)
      · rintro (⟨z, -⟩ | ⟨-, -, z⟩)
        · omega
        · exact absurd z q
theorem LB_01 {μ : Mem} (hR : InvR μ) {n k : Nat} (hk : k < 24) : LB μ n k = 0 ∨ LB μ n k = 1 := by
  unfold LB
  by_cases h : k < 16
  · rw [if_pos h]; exact told01 hR (by omega)
  · rw [if_neg h]
    by_cases q : (k - 16) / 2 < n ∨ k % 2 = 0
    · rw [if_pos q]; exact Or.inr rfl
    · rw [if_neg q]; exact Or.inl rfl
/-- what the reference's side needs to know of the inputs -/
def Rx (μ : Mem) (n : Nat) : Prop := InvA μ ∧ InvR μ ∧ n ≤ 4 ∧ μ.1 7 0 = nI n
theorem Rx.stk0 {μ : Mem} {n : Nat} (h : Rx μ n) {j : Nat} (hj : j < 4) (hn : n ≤ j) : stk μ j = 0 := by
  obtain ⟨⟨n', hn', -, h7, hst, -⟩, -, h4, e7⟩ := h
  have en : n' = n := by rw [e7] at h7; exact ((nI_eq (by omega) (by omega)).1 h7).symm
  unfold stk
  rw [(hst j hj).2.2.2 (by omega)]
  rfl
theorem Rx.out {μ : Mem} {n : Nat} (h : Rx μ n) {p : Nat → Int} (hb : InBox μ p) {j : Nat} (hj : j < 4) (hn : n ≤ j) : p j = 0 := by
  have := hb.2 j hj
  rw [h.stk0 hj hn] at this
  omega
theorem Rx.row {μ : Mem} {n k : Nat} (h : Rx μ n) (hk : k < 16) (ht : (Tn μ).testBit (k / 2) = true) : (∀ c, c < 4 → rM μ n k c = if c < n then rwK μ k c else 0) ∧ rM μ n k 4 = rwK μ k 4 :=
  rM_rule h.1 h.2.2.2 hk (told_lt h.2.1 (by omega) ht)
theorem mul_ite0 {c n : Nat} {x y : Int} (h : n ≤ c → y = 0) : (if c < n then x else 0) * y = x * y := by
  by_cases q : c < n
  · rw [if_pos q]
  · rw [if_neg q, h (by omega), Int.mul_zero, Int.mul_zero]
theorem Rx.d4 {μ : Mem} {n k : Nat} (h : Rx μ n) (hk : k < 16) (ht : (Tn μ).testBit (k / 2) = true) {v : Nat → Int} (hv : ∀ j, j < 4 → n ≤ j → v j = 0) : dot4 (rM μ n k) v = dot4 (rwK μ k) v := by
  have r := (h.row hk ht).1
  unfold dot4
  rw [r 0 (by omega), r 1 (by omega), r 2 (by omega), r 3 (by omega), mul_ite0 (hv 0 (by omega)), mul_ite0 (hv 1 (by omega)), mul_ite0 (hv 2 (by omega)), mul_ite0 (hv 3 (by omega))]
theorem Rx.d5 {μ : Mem} {n k : Nat} (h : Rx μ n) (hk : k < 16) (ht : (Tn μ).testBit (k / 2) = true) {p : Nat → Int} (hv : ∀ j, j < 4 → n ≤ j → p j = 0) : dot5i (rM μ n k) p = dot5i (rwK μ k) p := by
  have e := h.d4 hk ht hv
  unfold dot4 at e
  unfold dot5i
  rw [e, (h.row hk ht).2]
theorem Rx.b5 {μ : Mem} {n j s : Nat} (h : Rx μ n) (hj : j < 4) (hs : s < 2) (p : Nat → Int) : dot5i (rM μ n (16 + 2 * j + s)) p = if s = 0 then p j else stk μ j * p 4 - p j := by
  obtain ⟨r1, r2⟩ := rM_box (k := 16 + 2 * j + s) h.1 h.2.2.2 h.2.2.1 (by omega) (by omega)
  have e1 : (16 + 2 * j + s - 16) / 2 = j := by omega
  have e2 : (16 + 2 * j + s) % 2 = s := by omega
  rw [e1, e2] at r2
  rw [e1, e2] at r1
  unfold dot5i
  rw [r1 0 (by omega), r1 1 (by omega), r1 2 (by omega), r1 3 (by omega), r2]
  rcases (by omega : s = 0 ∨ s = 1) with rfl | rfl <;> rcases (by omega : j = 0 ∨ j = 1 ∨ j = 2 ∨ j = 3) with rfl | rfl | rfl | rfl <;> simp <;> omega
theorem Rx.b4 {μ : Mem} {n j s : Nat} (h : Rx μ n) (hj : j < 4) (hs : s < 2) (v : Nat → Int) : dot4 (rM μ n (16 + 2 * j + s)) v = if s = 0 then v j else -v j := by
  obtain ⟨r1, r2⟩ := rM_box (k := 16 + 2 * j + s) h.1 h.2.2.2 h.2.2.1 (by omega) (by omega)
  have e1 : (16 + 2 * j + s - 16) / 2 = j := by omega
  have e2 : (16 + 2 * j + s) % 2 = s := by omega
  rw [e1, e2] at r1
  unfold dot4
  rw [r1 0 (by omega), r1 1 (by omega), r1 2 (by omega), r1 3 (by omega)]
  rcases (by omega : s = 0 ∨ s = 1) with rfl | rfl <;> rcases (by omega : j = 0 ∨ j = 1 ∨ j = 2 ∨ j = 3) with rfl | rfl | rfl | rfl <;> simp
theorem isL_lt {μ : Mem} {n k : Nat} (h : isL μ n k) : k < 24 := by
  rcases h with ⟨h, -⟩ | ⟨-, h, -⟩ <;> omega
/-- a tight limit keeps every direction that the point's tight rows keep -/
theorem ref_tight {μ : Mem} {n k : Nat} (h : Rx μ n) (hk : isL μ n k) {p v : Nat → Int} (hb : InBox μ p) (hv : Kern μ p v) (ht : dot5i (rM μ n k) p = 0) : dot4 (rM μ n k) v = 0 := by
  have v0 : ∀ j, j < 4 → n ≤ j → v j = 0 := fun j hj hn => hv.1 j hj (Or.inl (h.out hb hj hn))
  rcases hk with ⟨h16, ht'⟩ | ⟨h16, h24, hl⟩
  · rw [h.d5 h16 ht' (fun j hj hn => h.out hb hj hn)] at ht
    rw [h.d4 h16 ht' v0]
    exact hv.2 k h16 ht' ht
  · obtain ⟨j, s, hj, hs, rfl⟩ : ∃ j s, j < 4 ∧ s < 2 ∧ k = 16 + 2 * j + s := ⟨(k - 16) / 2, k % 2, by omega, by omega, by omega⟩
    rw [h.b5 hj hs] at ht
    rw [h.b4 hj hs]
    by_cases s0 : s = 0
    · rw [if_pos s0] at ht ⊢
      exact hv.1 j hj (Or.inl ht)
    · rw [if_neg s0] at ht ⊢
      have := hv.1 j hj (Or.inr (by omega))
      omega
theorem ref_sound {μ : Mem} {n : Nat} (h : Rx μ n) {ky : Nat → Nat} (hk : ∀ i, i < 4 → isL μ n (ky i)) (hz : mn (r4 (rM μ n) ky) 15 ≠ 0) {p : Nat → Int} (hb : InBox μ p) (hp : ∀ i, i < 4 → dot5i (rM μ n (ky i)) p = 0) : Corner μ p := by
  refine ⟨hb, fun v hv j hj => ?_⟩
  have := mn_ker (R := r4 (rM μ n) ky) (v := v) (fun r hr => ?_) 15 (by omega) (fun i hi hf => ?_) j hj ?_
  · rcases Int.mul_eq_zero.1 this with q | q
    · exact absurd q hz
    · exact q
  · have hr' : r = rM μ n (ky 3) ∨ r = rM μ n (ky 2) ∨ r = rM μ n (ky 1) ∨ r = rM μ n (ky 0) := by
      unfold r4 at hr
      simpa using hr
    rcases hr' with rfl | rfl | rfl | rfl
    · exact ref_tight h (hk 3 (by omega)) hb hv (hp 3 (by omega))
    · exact ref_tight h (hk 2 (by omega)) hb hv (hp 2 (by omega))
    · exact ref_tight h (hk 1 (by omega)) hb hv (hp 1 (by omega))
    · exact ref_tight h (hk 0 (by omega)) hb hv (hp 0 (by omega))
  · exact absurd hf (by rcases (by omega : i = 0 ∨ i = 1 ∨ i = 2 ∨ i = 3) with rfl | rfl | rfl | rfl <;> decide)
  · rcases (by omega : j = 0 ∨ j = 1 ∨ j = 2 ∨ j = 3) with rfl | rfl | rfl | rfl <;> decide
def ky4 (a b c d i : Nat) : Nat := if i = 0 then a else if i = 1 then b else if i = 2 then c else d
theorem ref_complete {μ : Mem} {n : Nat} (h : Rx μ n) {p : Nat → Int} (hp : Corner μ p) :
    ∃ a b c d, a < b ∧ b < c ∧ c < d ∧ d < 24 ∧ isL μ n a ∧ isL μ n b ∧ isL μ n c ∧ isL μ n d ∧ mn (r4 (rM μ n) (ky4 a b c d)) 15 ≠ 0 ∧ ∀ i, i < 4 → dot5i (rM μ n (ky4 a b c d i)) p = 0 := by
  obtain ⟨hb, hc⟩ := hp
  obtain ⟨ks, k1, k2, k3⟩ := pick (row := rM μ n) (T := fun k => isL μ n k ∧ dot5i (rM μ n k) p = 0) (B := 15) (by omega) (fun v _ hv => by
    have v1 : ∀ j, j < 4 → p j = 0 → v j = 0 := fun j hj h0 => by
      have := hv (16 + 2 * j + 0) ⟨Or.inr ⟨by omega, by omega, by omega⟩, by rw [h.b5 hj (by omega), if_pos rfl]; exact h0⟩
      rw [h.b4 hj (by omega), if_pos rfl] at this
      exact this
    refine hc v ⟨fun j hj hq => ?_, fun k hk ht hd => ?_⟩
    · rcases hq with h0 | h1
      · exact v1 j hj h0
      · by_cases hn : j < n
        · have := hv (16 + 2 * j + 1) ⟨Or.inr ⟨by omega, by omega, Or.inl (by omega)⟩, by rw [h.b5 hj (by omega), if_neg (by omega)]; omega⟩
          rw [h.b4 hj (by omega), if_neg (by omega)] at this
          omega
        · exact v1 j hj (h.out hb hj (by omega))
    · have := hv k ⟨Or.inl ⟨hk, ht⟩, by rw [h.d5 hk ht (fun j hj hn => h.out hb hj hn)]; exact hd⟩
      rw [h.d4 hk ht (fun j hj hn => v1 j hj (h.out hb hj hn))] at this
      exact this)
  have hl := mn_len _ (by omega) k3
  rw [List.length_map] at hl
  have hl4 : ks.length = 4 := by rw [← hl]; decide
  match ks, hl4 with
  | [d, c, b, a], _ =>
    have g1 := k2 a (by simp)
    have g2 := k2 b (by simp)
    have g3 := k2 c (by simp)
    have g4 := k2 d (by simp)
    simp only [List.pairwise_cons, List.mem_cons, List.not_mem_nil, or_false] at k1
    refine ⟨a, b, c, d, k1.2.2.1 a rfl, k1.2.1 b (Or.inl rfl), k1.1 c (Or.inl rfl), isL_lt g4.1, g1.1, g2.1, g3.1, g4.1, k3, fun i hi => ?_⟩
    rcases (by omega : i = 0 ∨ i = 1 ∨ i = 2 ∨ i = 3) with rfl | rfl | rfl | rfl
    · exact g1.2
    · exact g2.2
    · exact g3.2
    · exact g4.2
