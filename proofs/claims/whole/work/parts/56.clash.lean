/-! PURE: which rules clash, by both. -/
theorem and_nI (a b : Nat) : nI a &&& nI b = nI (a &&& b) := by
  apply Int32.toBitVec_inj.1
  show BitVec.ofNat 32 a &&& BitVec.ofNat 32 b = BitVec.ofNat 32 (a &&& b)
  exact (BitVec.ofNat_and).symm
theorem xor_nI (a b : Nat) : nI a ^^^ nI b = nI (a ^^^ b) := by
  apply Int32.toBitVec_inj.1
  show BitVec.ofNat 32 a ^^^ BitVec.ofNat 32 b = BitVec.ofNat 32 (a ^^^ b)
  exact (BitVec.ofNat_xor).symm
theorem and_lt {S T : Nat} (hS : S < 256) : S &&& T < 256 := Nat.lt_of_le_of_lt Nat.and_le_left hS
theorem sub8 {S T : Nat} (hS : S < 256) : (nI S &&& (nI T ^^^ (-1))) = 0 ↔ S &&& T = S := by
  have m1 : (-1 : Int32) = nI (2 ^ 32 - 1) := by decide +kernel
  rw [m1, xor_nI, and_nI]
  have hlt : S &&& (T ^^^ (2 ^ 32 - 1)) < 256 := and_lt hS
  have z : nI (S &&& (T ^^^ (2 ^ 32 - 1))) = 0 ↔ S &&& (T ^^^ (2 ^ 32 - 1)) = 0 := by
    have := nI_eq (a := S &&& (T ^^^ (2 ^ 32 - 1))) (b := 0) (by omega) (by omega)
    exact this
  rw [z]
  have sb : ∀ i, 32 ≤ i → S.testBit i = false := fun i hi => Nat.testBit_lt_two_pow (Nat.lt_of_lt_of_le hS (Nat.le_trans (by decide : 256 ≤ 2 ^ 32) (Nat.pow_le_pow_right (by omega) hi)))
  constructor
  · intro h
    apply Nat.eq_of_testBit_eq
    intro i
    have := congrArg (fun x => x.testBit i) h
    simp only [Nat.testBit_and, Nat.testBit_xor, Nat.testBit_two_pow_sub_one, Nat.zero_testBit] at this
    rw [Nat.testBit_and]
    by_cases hi : i < 32
    · rw [decide_eq_true hi] at this
      cases h1 : S.testBit i <;> cases h2 : T.testBit i <;> simp_all
    · rw [sb i (by omega)]; rfl
  · intro h
    apply Nat.eq_of_testBit_eq
    intro i
    have := congrArg (fun x => x.testBit i) h
    simp only [Nat.testBit_and] at this
    rw [Nat.testBit_and, Nat.testBit_xor, Nat.testBit_two_pow_sub_one, Nat.zero_testBit]
    by_cases hi : i < 32
    · rw [decide_eq_true hi]
      cases h1 : S.testBit i <;> cases h2 : T.testBit i <;> simp_all
    · rw [sb i (by omega)]; rfl
/-- the loop of both: the first of the smallest sets within T that P holds of -/
def cl (P : Nat → Bool) (T : Nat) : Nat → Nat × Nat
  | 0 => (0, 9)
  | S + 1 => if S ≠ 0 ∧ S &&& T = S ∧ pop8 S < (cl P T S).2 ∧ P S = true then (S, pop8 S) else cl P T S
theorem pop_9 : ∀ S, S < 256 → pop8 S < 9 := by decide +kernel
theorem cl_ok (P : Nat → Bool) (T : Nat) : ∀ k, k ≤ 256 → (cl P T k).1 < 256 ∧ (cl P T k).2 ≤ 9 ∧ ((cl P T k).1 = 0 → (cl P T k).2 = 9) := by
  intro k
  induction k with
  | zero => exact fun _ => ⟨by show 0 < 256; decide, by show 9 ≤ 9; decide, fun _ => rfl⟩
  | succ k ih =>
    intro hk
    have h9 := pop_9 k (by omega)
    unfold cl
    by_cases h : k ≠ 0 ∧ k &&& T = k ∧ pop8 k < (cl P T k).2 ∧ P k = true
    · rw [if_pos h]; exact ⟨by show k < 256; omega, by show pop8 k ≤ 9; omega, fun q => absurd q h.1⟩
    · rw [if_neg h]; exact ih (by omega)
theorem cl_ne (P : Nat → Bool) (T S : Nat) (h0 : S ≠ 0) (hS : S < 256) (hT : S &&& T = S) (hP : P S = true) : ∀ k, k ≤ 256 → S < k → (cl P T k).1 ≠ 0 := by
  intro k
  induction k with
  | zero => intro _ h; exact absurd h (by omega)
  | succ k ih =>
    intro hk hSk
    unfold cl
    by_cases h : k ≠ 0 ∧ k &&& T = k ∧ pop8 k < (cl P T k).2 ∧ P k = true
    · rw [if_pos h]; exact h.1
    · rw [if_neg h]
      by_cases e : S = k
      · subst e
        intro q
        have z := (cl_ok P T S (by omega)).2.2 q
        exact h ⟨h0, hT, by rw [z]; exact pop_9 S hS, hP⟩
      · exact ih (by omega) (by omega)
theorem cl_congr (P Q : Nat → Bool) (T : Nat) (h : ∀ S, S < 256 → S &&& T = S → P S = Q S) : ∀ k, k ≤ 256 → cl P T k = cl Q T k := by
  intro k
  induction k with
  | zero => intro _; rfl
  | succ k ih =>
    intro hk
    have e := ih (by omega)
    unfold cl
    rw [e]
    by_cases q : k ≠ 0 ∧ k &&& T = k ∧ pop8 k < (cl Q T k).2 ∧ P k = true
    · rw [if_pos q, if_pos ⟨q.1, q.2.1, q.2.2.1, by rw [← h k (by omega) q.2.1]; exact q.2.2.2⟩]
    · rw [if_neg q, if_neg (fun w => q ⟨w.1, w.2.1, w.2.2.1, by rw [h k (by omega) w.2.1]; exact w.2.2.2⟩)]
/-- the class: each break meets S -/
def allB (μ : Mem) (bc S : Nat) : Bool := decide (∀ i, i < bc → ¬ (μ.1 24 i &&& nI S) = 0)
theorem s_allBreak_k {N bc S : Nat} {μ : Mem} (h8 : μ.1 4 8 = nI bc) (hbc : bc ≤ 256) : ∀ (k m : Nat), k ≤ bc → ∃ v : Int32, M_CS_allBreak_2 N (m + k + 1) (nI S) (nI (bc - k)) μ = some (v, μ) ∧ ((v = 0 ∧ ∃ i, bc - k ≤ i ∧ i < bc ∧ (μ.1 24 i &&& nI S) = 0) ∨ (v = 1 ∧ ∀ i, bc - k ≤ i → i < bc → ¬ (μ.1 24 i &&& nI S) = 0)) := by
  intro k
  induction k with
  | zero =>
    intro m _
    refine ⟨1, ?_, Or.inr ⟨rfl, fun i h1 h2 => absurd h1 (by omega)⟩⟩
    rw [M_CS_allBreak_2, if_pos (by rw [h8]; exact nI_le (by omega) (by omega)), reZ_1]
  | succ k ih =>
    intro m hk
    have hlt : ¬ nI bc ≤ nI (bc - (k + 1)) := nI_ge (a := bc - (k + 1)) (b := bc) (by omega) (by omega)
    rw [show m + (k + 1) + 1 = (m + k + 1) + 1 by omega, M_CS_allBreak_2, if_neg (by rw [h8]; exact hlt), ldI_n (by decide) (by decide) (by show bc - (k + 1) < 256; omega) (by decide), bs]
    by_cases h : (μ.1 24 (bc - (k + 1)) &&& nI S) = 0
    · rw [if_pos h, reZ_0]
      exact ⟨0, rfl, Or.inl ⟨rfl, bc - (k + 1), by omega, by omega, h⟩⟩
    · rw [if_neg h, nI_1, show bc - (k + 1) + 1 = bc - k by omega]
      obtain ⟨v, v1, v2⟩ := ih m (by omega)
      refine ⟨v, v1, ?_⟩
      rcases v2 with ⟨e, i, i1, i2, i3⟩ | ⟨e, q⟩
      · exact Or.inl ⟨e, i, by omega, i2, i3⟩
      · refine Or.inr ⟨e, fun i h1 h2 => ?_⟩
        by_cases e : i = bc - (k + 1)
        · rw [e]; exact h
        · exact q i (by omega) h2
theorem s_allBreak {N bc S : Nat} {μ : Mem} (hN : 300 ≤ N) (h8 : μ.1 4 8 = nI bc) (hbc : bc ≤ 256) : M_CS_allBreak N (nI S) μ = some (if allB μ bc S then 1 else 0, μ) := by
  obtain ⟨v, v1, v2⟩ := s_allBreak_k (N := N) (S := S) h8 hbc bc (N - bc - 1) (Nat.le_refl bc)
  rw [show N - bc - 1 + bc + 1 = N by omega, Nat.sub_self] at v1
  have v1' : M_CS_allBreak N (nI S) μ = some (v, μ) := v1
  rw [v1']
  rcases v2 with ⟨e, i, -, i2, i3⟩ | ⟨e, q⟩
  · have : allB μ bc S = false := decide_eq_false (fun z => z i i2 i3)
    rw [this, e]; rfl
  · have : allB μ bc S = true := decide_eq_true (fun i hi => q i (by omega) hi)
    rw [this, e]; rfl
theorem s_fewest {N bc T : Nat} {μ : Mem} (hN : 300 ≤ N) (h8 : μ.1 4 8 = nI bc) (hbc : bc ≤ 256) (h2 : μ.1 2 0 = nI T) : M_CS_fewestClashing N μ = some (nI (cl (allB μ bc) T 256).1, μ) := by
  have step : ∀ (k m : Nat), k ≤ 255 → M_CS_fewestClashing_7 N (m + k + 1) (nI (cl (allB μ bc) T (256 - k)).1) (nI (cl (allB μ bc) T (256 - k)).2) (nI (256 - k)) μ = some (nI (cl (allB μ bc) T 256).1, μ) := by
    intro k
    induction k with
    | zero =>
      intro m _
      rw [M_CS_fewestClashing_7, if_pos (by decide +kernel)]
    | succ k ih =>
      intro m hk
      obtain ⟨S, hS⟩ : ∃ S, S = 256 - (k + 1) := ⟨_, rfl⟩
      have n256 : ¬ (256 : Int32) ≤ nI S := nI_ge (a := S) (b := 256) (by omega) (by omega)
      have ih' := ih m (by omega)
      rw [show 256 - k = S + 1 by omega] at ih'
      obtain ⟨o1, o2, -⟩ := cl_ok (allB μ bc) T S (by omega)
      have p9 := pop_9 S (by omega)
      have s8 := sub8 (S := S) (T := T) (by omega)
      rw [← hS, show m + (k + 1) + 1 = (m + k + 1) + 1 by omega, M_CS_fewestClashing_7, if_neg n256, h2]
      unfold cl at ih'
      by_cases c1 : S &&& T = S
      · rw [if_pos (s8.2 c1), s_bitCount N (by omega), bs]
        by_cases c2 : pop8 S < (cl (allB μ bc) T S).2
        · rw [if_neg (nI_ge c2 (by omega)), s_allBreak hN h8 hbc, bs2]
          by_cases c3 : allB μ bc S = true
          · rw [if_pos ⟨by omega, c1, c2, c3⟩] at ih'
            rw [c3, if_pos rfl, if_neg (by decide), bs, nI_1]
            exact ih'
          · rw [if_neg (fun q => c3 q.2.2.2)] at ih'
            rw [if_neg c3, if_pos rfl, nI_1]
            exact ih'
        · rw [if_neg (fun q => c2 q.2.2.1)] at ih'
          rw [if_pos (nI_le (by omega) (by omega)), nI_1]
          exact ih'
      · rw [if_neg (fun q => c1 q.2.1)] at ih'
        rw [if_neg (fun q => c1 (s8.1 q)), nI_1]
        exact ih'
  have := step 255 (N - 256) (by omega)
  rw [show N - 256 + 255 + 1 = N by omega] at this
  have e1 : cl (allB μ bc) T (256 - 255) = (0, 9) := by
    show cl (allB μ bc) T 1 = (0, 9)
    unfold cl
    rw [if_neg (fun q => q.1 rfl)]
    rfl
  rw [e1] at this
  exact this
/-- the reference: no kept set holds S -/
def noKn (μ : Mem) (M S : Nat) : Bool := decide (∀ b, b < M → μ.1 16 b = 0 ∨ ¬ (b &&& S) = S)
theorem noKn_iff (μ : Mem) (M S : Nat) : noKn μ M S = true ↔ ∀ b, b < M → μ.1 16 b = 0 ∨ ¬ (b &&& S) = S := decide_eq_true_iff
def noK (μ : Mem) (S : Nat) : Bool := noKn μ 256 S
theorem noK_iff (μ : Mem) (S : Nat) : noK μ S = true ↔ ∀ b, b < 256 → μ.1 16 b = 0 ∨ ¬ (b &&& S) = S := noKn_iff μ 256 S
theorem s_canK {N S : Nat} {μ : Mem} (hS : S < 256) : ∀ (k m : Nat), k ≤ 256 → ∃ v : Int32, M_Mo_canBeKept_2 N (m + k + 1) (nI S) (nI (256 - k)) μ = some (v, μ) ∧ ((v = 1 ∧ ∃ b, 256 - k ≤ b ∧ b < 256 ∧ μ.1 16 b ≠ 0 ∧ b &&& S = S) ∨ (v = 0 ∧ ∀ b, 256 - k ≤ b → b < 256 → μ.1 16 b ≠ 0 → ¬ b &&& S = S)) := by
  intro k
  induction k with
  | zero =>
    intro m _
    refine ⟨0, ?_, Or.inr ⟨rfl, fun i h1 h2 => absurd h1 (by omega)⟩⟩
    rw [M_Mo_canBeKept_2, if_pos (by decide +kernel), reZ_0]
  | succ k ih =>
    intro m hk
    have n256 : ¬ (256 : Int32) ≤ nI (256 - (k + 1)) := nI_ge (a := 256 - (k + 1)) (b := 256) (by omega) (by omega)
    rw [show m + (k + 1) + 1 = (m + k + 1) + 1 by omega, M_Mo_canBeKept_2, if_neg n256, ldZ_n (by decide) (by decide) (by show 256 - (k + 1) < 256; omega) (by decide), bs, and_nI, nI_1, show 256 - (k + 1) + 1 = 256 - k by omega]
    obtain ⟨v, v1, v2⟩ := ih m (by omega)
    have more : (μ.1 16 (256 - (k + 1)) ≠ 0 → ¬ (256 - (k + 1)) &&& S = S) → (v = 1 ∧ ∃ b, 256 - (k + 1) ≤ b ∧ b < 256 ∧ μ.1 16 b ≠ 0 ∧ b &&& S = S) ∨ (v = 0 ∧ ∀ b, 256 - (k + 1) ≤ b → b < 256 → μ.1 16 b ≠ 0 → ¬ b &&& S = S) := by
      intro hno
      rcases v2 with ⟨e, i, i1, i2, i3⟩ | ⟨e, q⟩
      · exact Or.inl ⟨e, i, by omega, i2, i3⟩
      · refine Or.inr ⟨e, fun i h1 h2 => ?_⟩
        by_cases e : i = 256 - (k + 1)
        · rw [e]; exact hno
        · exact q i (by omega) h2
    by_cases z : μ.1 16 (256 - (k + 1)) = 0
    · rw [if_pos z]
      exact ⟨v, v1, more (fun q => absurd z q)⟩
    · rw [if_neg z]
      by_cases y : (256 - (k + 1)) &&& S = S
      · rw [y, if_pos rfl, reZ_1]
        exact ⟨1, rfl, Or.inl ⟨rfl, 256 - (k + 1), by omega, by omega, z, y⟩⟩
      · have hlt : (256 - (k + 1)) &&& S < 256 := and_lt (by omega)
        rw [if_neg (fun q => y ((nI_eq (by omega) (by omega)).1 q))]
        exact ⟨v, v1, more (fun _ => y)⟩
theorem s_canBeKept {N S : Nat} {μ : Mem} (hN : 300 ≤ N) (hS : S < 256) : M_Mo_canBeKept N (nI S) μ = some (if noK μ S then 0 else 1, μ) := by
  obtain ⟨v, v1, v2⟩ := s_canK (N := N) (μ := μ) hS 256 (N - 257) (Nat.le_refl _)
  rw [show N - 257 + 256 + 1 = N by omega] at v1
  have v1' : M_Mo_canBeKept N (nI S) μ = some (v, μ) := v1
  rw [v1']
  rcases v2 with ⟨e, i, -, i2, i3, i4⟩ | ⟨e, q⟩
  · have : ¬ noK μ S = true := fun z => ((noK_iff μ S).1 z i i2).elim i3 (fun w => w i4)
    rw [if_neg this, e]
  · have : noK μ S = true := (noK_iff μ S).2 (fun i hi => (Decidable.em (μ.1 16 i = 0)).elim Or.inl (fun h1 => Or.inr (q i (by omega) hi h1)))
    rw [this, e]; rfl
theorem noK_up {μ : Mem} {j : Nat} {v : Int32} (S : Nat) : noK (upI μ.1 7 j v, μ.2) S = noK μ S := by
  have : ∀ b, (upI μ.1 7 j v, μ.2).1 16 b = μ.1 16 b := fun b => by dsimp only; rw [upI_ne (by omega)]
  have h : noK (upI μ.1 7 j v, μ.2) S = true ↔ noK μ S = true := by
    rw [noK_iff, noK_iff]
    constructor
    · exact fun q b hb => by rw [← this b]; exact q b hb
    · exact fun q b hb => by rw [this b]; exact q b hb
  cases e1 : noK (upI μ.1 7 j v, μ.2) S <;> cases e2 : noK μ S <;> simp_all
theorem s_findClash {N T : Nat} {μ : Mem} (hN : 300 ≤ N) (hT : T < 256) (h14 : ∀ r, r < 8 → μ.1 14 r = if T.testBit r then 1 else 0) : M_Mo_findClash N μ = some (upI μ.1 7 16 (nI (cl (noK μ) T 256).1), μ.2) := by
  have upup : ∀ (f : Nat → Nat → Int32) (v w : Int32), upI (upI f 7 16 v) 7 16 w = upI f 7 16 w := fun f v w => by
    funext a b
    unfold upI
    by_cases h : a = 7 ∧ b = 16
    · rw [if_pos h, if_pos h]
    · rw [if_neg h, if_neg h, if_neg h]
  have step : ∀ (k m : Nat), k ≤ 255 → M_Mo_findClash_45 N (m + k + 1) (nI (cl (noK μ) T (256 - k)).2) (nI T) (nI (256 - k)) (upI μ.1 7 16 (nI (cl (noK μ) T (256 - k)).1), μ.2) = some (upI μ.1 7 16 (nI (cl (noK μ) T 256).1), μ.2) := by
    intro k
    induction k with
    | zero =>
      intro m _
      rw [M_Mo_findClash_45, if_pos (by decide +kernel)]
    | succ k ih =>
      intro m hk
      obtain ⟨S, hS⟩ : ∃ S, S = 256 - (k + 1) := ⟨_, rfl⟩
      have n256 : ¬ (256 : Int32) ≤ nI S := nI_ge (a := S) (b := 256) (by omega) (by omega)
      have ih' := ih m (by omega)
      rw [show 256 - k = S + 1 by omega] at ih'
      obtain ⟨o1, o2, -⟩ := cl_ok (noK μ) T S (by omega)
      have p9 := pop_9 S (by omega)
      have hlt : S &&& T < 256 := and_lt (by omega)
      rw [← hS, show m + (k + 1) + 1 = (m + k + 1) + 1 by omega, M_Mo_findClash_45, if_neg n256, and_nI]
      unfold cl at ih'
      by_cases c1 : S &&& T = S
      · rw [c1, if_pos rfl, s_sizeOf (by omega) (by omega), bs]
        by_cases c2 : pop8 S < (cl (noK μ) T S).2
        · rw [if_neg (nI_ge c2 (by omega)), s_canBeKept hN (by omega), bs2, noK_up]
          by_cases c3 : noK μ S = true
          · rw [if_pos ⟨by omega, c1, c2, c3⟩] at ih'
            rw [c3, if_pos rfl, if_pos rfl, pI, bs, bs, nI_1]
            dsimp only
            rw [upup]
            exact ih'
          · rw [if_neg (fun q => c3 q.2.2.2)] at ih'
            rw [if_neg c3, if_neg (by decide), nI_1]
            exact ih'
        · rw [if_neg (fun q => c2 q.2.2.1)] at ih'
          rw [if_pos (nI_le (by omega) (by omega)), nI_1]
          exact ih'
      · rw [if_neg (fun q => c1 q.2.1)] at ih'
        rw [if_neg (fun q => c1 ((nI_eq (by omega) (by omega)).1 q)), nI_1]
        exact ih'
  have told : ∀ (k m : Nat), k ≤ 8 → M_Mo_findClash_12 N (m + k + 1) 9 (nI (uf (fun r => T.testBit r) (8 - k))) (nI (8 - k)) (upI μ.1 7 16 0, μ.2) = M_Mo_findClash_45 N N 9 (nI (uf (fun r => T.testBit r) 8)) 1 (upI μ.1 7 16 0, μ.2) := by
    intro k
    induction k with
    | zero =>
      intro m _
      rw [M_Mo_findClash_12, if_pos (by decide)]
    | succ k ih =>
      intro m hk
      obtain ⟨j, hj⟩ : ∃ j, j = 8 - (k + 1) := ⟨_, rfl⟩
      have n8 : ¬ (8 : Int32) ≤ nI j := nI_ge (a := j) (b := 8) (by omega) (by decide)
      have hlt : uf (fun r => T.testBit r) j < 256 := Nat.lt_of_lt_of_le (uf_lt' _ j) (Nat.le_trans (Nat.pow_le_pow_right (by omega) (show j ≤ 8 by omega)) (by decide))
      have ih' := ih m (by omega)
      rw [show 8 - k = j + 1 by omega] at ih'
      rw [← hj, show m + (k + 1) + 1 = (m + k + 1) + 1 by omega, M_Mo_findClash_12, if_neg n8, ldZ_n (by decide) (by decide) (by show j < 8; omega) (by decide), bs]
      unfold M_Mo_findClash_35
      have t14 : (upI μ.1 7 16 0) 14 j = if T.testBit j = true then 1 else 0 := by rw [upI_ne (by omega)]; exact h14 j (by omega)
      have eu : uf (fun r => T.testBit r) (j + 1) = if T.testBit j = true then uf (fun r => T.testBit r) j ||| 2 ^ j else uf (fun r => T.testBit r) j := rfl
      by_cases q : T.testBit j = true
      · rw [eu, if_pos q] at ih'
        rw [if_neg (by dsimp only; rw [t14, if_pos q]; decide), nm_eq, (or8 _ hlt j (by omega)).1, nI_1]
        exact ih'
      · rw [eu, if_neg q] at ih'
        rw [if_pos (by dsimp only; rw [t14, if_neg q]), nm_eq, Int32.or_zero, nI_1]
        exact ih'
  have eT : uf (fun r => T.testBit r) 8 = T := eq8 (uf_lt _) hT (fun r hr => by rw [uf_bit]; simp [hr])
  have t := told 8 (N - 9) (by omega)
  rw [show N - 9 + 8 + 1 = N by omega, eT] at t
  have s := step 255 (N - 256) (by omega)
  rw [show N - 256 + 255 + 1 = N by omega] at s
  have e1 : cl (noK μ) T (256 - 255) = (0, 9) := by
    show cl (noK μ) T 1 = (0, 9)
    unfold cl
    rw [if_neg (fun q => q.1 rfl)]
    rfl
  rw [e1] at s
  unfold M_Mo_findClash
  rw [pI, bs]
  exact t.trans s
