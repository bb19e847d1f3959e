/-! PURE: which limits and rules a point keeps, by the reference. -/
def HH : Int := 2147483648
theorem HJ : (2147483648 : Int64).toInt = HH := by decide
theorem lowpart {y : Int64} : ∃ v : Int64, rmJ y 2147483648 = some v ∧ (∀ (α : Type) (K : Int64 → α), (if (0 : Int32) ≤ lg_cmp v 0 then K v else K (v + 2147483648)) = K (JJ (y.toInt % HH))) := by
  obtain ⟨v, v1, v2⟩ := rmJ_some (x := y) (y := 2147483648) (by decide)
  rw [HJ] at v2
  obtain ⟨t1, t2⟩ := tmod_emod (a := y.toInt) (b := HH) (by decide)
  have b1 := Int.emod_nonneg y.toInt (b := HH) (by decide)
  have b2 := Int.emod_lt_of_pos y.toInt (b := HH) (by decide)
  refine ⟨v, v1, fun α K => ?_⟩
  by_cases h : 0 ≤ y.toInt.tmod HH
  · rw [if_pos ((cmp_z v).2 (by rw [v2]; exact h)), ← t1 h, ← v2, JJ_self]
  · rw [if_neg (fun q => h (by have := (cmp_z v).1 q; rw [v2] at this; exact this))]
    have e := t2 h
    have : (v + 2147483648).toInt = y.toInt % HH := by
      unfold HH at *
      rw [add64 (by rw [HJ, v2]; unfold HH; omega) (by rw [HJ, v2]; unfold HH; omega), HJ, v2]
      unfold HH
      omega
    rw [← this, JJ_self]
theorem hipart {y : Int64} : dvJ (y - JJ (y.toInt % HH)) 2147483648 = some (JJ (y.toInt / HH)) := by
  have b1 := Int.emod_nonneg y.toInt (b := HH) (by decide)
  have b2 := Int.emod_lt_of_pos y.toInt (b := HH) (by decide)
  have h1 := Int64.le_toInt y
  have h2 := Int64.toInt_lt y
  have e := Int.mul_ediv_add_emod y.toInt HH
  have j : (JJ (y.toInt % HH)).toInt = y.toInt % HH := JJ_int (by omega) (by unfold HH at *; omega)
  rw [dvJ_some (by decide)]
  refine congrArg some (J_eq (exact_div (by decide) ?_))
  have fl : -9223372036854775808 ≤ y.toInt - y.toInt % HH := by
    have := Int.emod_nonneg y.toInt (b := HH) (by decide)
    have e3 : y.toInt - y.toInt % HH = HH * (y.toInt / HH) := by omega
    rw [e3]
    have : -4294967296 ≤ y.toInt / HH := by
      unfold HH
      omega
    unfold HH at *
    omega
  rw [sub64 (by rw [j]; exact fl) (by rw [j]; unfold HH at *; omega), j, HJ]
  omega
theorem kept_step {N x1 c : Nat} {K8 : Int32 → Int64 → Int64 → Int32 → Mem → Option (Int32 × Mem)} {μ : Mem} {A B l : Int} {y0 : Int64} (hk : x1 < 24) (hc : c < 5) (hl : (μ.1 38 (5 * x1 + c)).toInt = l) :
    M_Mo_isKept_35 N K8 (nI x1) (JJ A) (JJ B) (nI c) y0 μ = K8 (nI x1) (JJ (A + l * (y0.toInt / HH))) (JJ (B + l * (y0.toInt % HH))) (nI (c + 1)) μ := by
  obtain ⟨v, v1, v2⟩ := lowpart (y := y0)
  unfold M_Mo_isKept_35
  rw [five_nI, ldI_n (by decide) (by decide) (by show 5 * x1 + c < 120; omega) (by decide), bs, nm_eq, v1, bs, v2 _ (fun z => M_Mo_isKept_77 N K8 (nI x1) (JJ A) (JJ B) (nI c) y0 (μ.1 38 (5 * x1 + c)).toInt64 z μ)]
  unfold M_Mo_isKept_77
  rw [hipart, bs, nm_eq, nm_eq, i2l_J, hl, JJ_mul, JJ_mul, JJ_add, JJ_add, nI_1]
theorem floor_sum {A B : Int} : 0 ≤ A + B / HH ↔ 0 ≤ HH * A + B := by
  have b1 := Int.emod_nonneg B (b := HH) (by decide)
  have b2 := Int.emod_lt_of_pos B (b := HH) (by decide)
  have e := Int.mul_ediv_add_emod B HH
  unfold HH at *
  omega
theorem kept_end {N : Nat} {μ : Mem} {x1 : Int32} {m : Nat} {A B : Int} (hA : bnd 2000000000000000000 A) (hB : bnd 2000000000000000000 B) : M_Mo_isKept_8 N (m + 1) x1 (JJ A) (JJ B) (nI 5) μ = some (b01 (0 ≤ HH * A + B), μ) := by
  have eA : (JJ A).toInt = A := JJ_bnd hA (by decide)
  have eB : (JJ B).toInt = B := JJ_bnd hB (by decide)
  obtain ⟨v, v1, v2⟩ := lowpart (y := JJ B)
  rw [M_Mo_isKept_8, if_pos (by decide), v1, bs, v2 _ (fun z => M_Mo_isKept_136 N (JJ A) (JJ B) z μ)]
  unfold M_Mo_isKept_136
  rw [hipart, bs, eB, JJ_add]
  have eS : (JJ (A + B / HH)).toInt = A + B / HH := by
    unfold bnd at hA hB
    refine JJ_int ?_ ?_ <;> (unfold HH; omega)
  by_cases h : 0 ≤ HH * A + B
  · rw [if_neg (fun q => ?_), reZ_1]
    · unfold b01; rw [if_pos h]
    · have := (cmp_lt _ _).1 q
      rw [Int64.lt_iff_toInt_lt, eS] at this
      have h2 := floor_sum.2 h
      have z : (0 : Int64).toInt = 0 := rfl
      omega
  · rw [if_pos ?_, reZ_0]
    · unfold b01; rw [if_neg h]
    · rw [cmp_lt, Int64.lt_iff_toInt_lt, eS]
      have z : (0 : Int64).toInt = 0 := rfl
      have h2 : ¬ 0 ≤ A + B / HH := fun q => h (floor_sum.1 q)
      omega
def PtIn (μ : Mem) (p : Nat → Int) : Prop := (∀ j, j < 4 → μ.2 46 j = JJ (p j)) ∧ μ.2 7 22 = JJ (p 4) ∧ ∀ j, j < 5 → bnd big (p j)
theorem s_isKept {N k : Nat} (hN : 6 ≤ N) {μ : Mem} {rr : Nat → Nat → Int} {p : Nat → Int} (hL : LimsIn μ rr) (hp : PtIn μ p) (hk : k < 24) (hb : ∀ c, c < 5 → bnd 100000 (rr k c)) : M_Mo_isKept N (nI k) μ = some (b01 (0 ≤ dot5i (rr k) p), μ) := by
  obtain ⟨p1, p2, p3⟩ := hp
  obtain ⟨m, rfl⟩ : ∃ m, N = m + 1 + 1 + 1 + 1 + 1 + 1 := ⟨N - 6, by omega⟩
  have jp : ∀ j, j < 5 → (JJ (p j)).toInt = p j := fun j hj => JJ_bnd (p3 j hj) (by decide)
  have st : ∀ c, c < 4 → ∀ f A B, M_Mo_isKept_8 (m + 1 + 1 + 1 + 1 + 1 + 1) (f + 1) (nI k) (JJ A) (JJ B) (nI c) μ = M_Mo_isKept_8 (m + 1 + 1 + 1 + 1 + 1 + 1) f (nI k) (JJ (A + rr k c * (p c / HH))) (JJ (B + rr k c * (p c % HH))) (nI (c + 1)) μ := by
    intro c hc f A B
    have n5 : ¬ (5 : Int32) ≤ nI c := nI_ge (a := c) (b := 5) (by omega) (by omega)
    have n4 : ¬ (4 : Int32) ≤ nI c := nI_ge (a := c) (b := 4) (by omega) (by omega)
    rw [M_Mo_isKept_8, if_neg n5, if_neg n4, ldJ_n (by decide) (by decide) (by show c < 4; omega) (by decide), bs, p1 c hc, kept_step hk (by omega) (hL k hk c (by omega)), jp c (by omega), if_pos hc]
  have s4 : ∀ f A B, M_Mo_isKept_8 (m + 1 + 1 + 1 + 1 + 1 + 1) (f + 1) (nI k) (JJ A) (JJ B) (nI 4) μ = M_Mo_isKept_8 (m + 1 + 1 + 1 + 1 + 1 + 1) f (nI k) (JJ (A + -rr k 4 * (-p 4 / HH))) (JJ (B + -rr k 4 * (-p 4 % HH))) (nI 5) μ := by
    intro f A B
    have e4 : (JJ (-p 4)).toInt = -p 4 := by
      have := p3 4 (by omega)
      unfold bnd big at this
      exact JJ_int (by omega) (by omega)
    rw [M_Mo_isKept_8, if_neg (by decide), if_pos (by decide), p2, JJ_neg, kept_step hk (by omega) (hL k hk 4 (by omega)), e4, if_neg (by omega)]
  unfold M_Mo_isKept
  have z0' : (0 : Int64) = JJ 0 := rfl
  have i0' : (0 : Int32) = nI 0 := rfl
  rw [z0', i0', st 0 (by omega), st 1 (by omega), st 2 (by omega), st 3 (by omega), s4]
  have bb : ∀ c, c < 5 → ∀ y : Int, bnd big y → bnd 300000000000000 (rr k c * (y / HH)) ∧ bnd 300000000000000 (rr k c * (y % HH)) := by
    intro c hc y hy
    have m1 := Int.emod_nonneg y (b := HH) (by decide)
    have m2 := Int.emod_lt_of_pos y (b := HH) (by decide)
    have d1 : bnd 3000000000 (y / HH) := by
      unfold bnd big HH at *
      omega
    have d2 : bnd 3000000000 (y % HH) := by
      unfold bnd HH at *
      omega
    exact ⟨bd_mul (hb c hc) d1, bd_mul (hb c hc) d2⟩
  have q0 := bb 0 (by omega) _ (p3 0 (by omega))
  have q1 := bb 1 (by omega) _ (p3 1 (by omega))
  have q2 := bb 2 (by omega) _ (p3 2 (by omega))
  have q3 := bb 3 (by omega) _ (p3 3 (by omega))
  have q4 := bb 4 (by omega) (-p 4) (by have := p3 4 (by omega); unfold bnd at *; omega)
  rw [kept_end (by unfold bnd at *; rw [Int.neg_mul]; omega) (by unfold bnd at *; rw [Int.neg_mul]; omega)]
  have e : ∀ j, HH * (p j / HH) = p j - p j % HH := fun j => by have := Int.mul_ediv_add_emod (p j) HH; omega
  have e4 : HH * (-p 4 / HH) = -p 4 - -p 4 % HH := by have := Int.mul_ediv_add_emod (-p 4) HH; omega
  have tot : HH * (0 + rr k 0 * (p 0 / HH) + rr k 1 * (p 1 / HH) + rr k 2 * (p 2 / HH) + rr k 3 * (p 3 / HH) + -rr k 4 * (-p 4 / HH)) + (0 + rr k 0 * (p 0 % HH) + rr k 1 * (p 1 % HH) + rr k 2 * (p 2 % HH) + rr k 3 * (p 3 % HH) + -rr k 4 * (-p 4 % HH)) = dot5i (rr k) p := by
    have e0 := e 0
    have e1 := e 1
    have e2 := e 2
    have e3 := e 3
    unfold dot5i
    generalize p 0 / HH = a0 at *
    generalize p 1 / HH = a1 at *
    generalize p 2 / HH = a2 at *
    generalize p 3 / HH = a3 at *
    generalize -p 4 / HH = a4 at *
    generalize p 0 % HH = b0 at *
    generalize p 1 % HH = b1 at *
    generalize p 2 % HH = b2 at *
    generalize p 3 % HH = b3 at *
    generalize -p 4 % HH = b4 at *
    generalize HH = h at *
    grind
  rw [tot]
