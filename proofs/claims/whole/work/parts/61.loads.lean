/-! PURE: mostLoads and fewestLoads. -/
theorem s_min2 (N : Nat) (a b : Int64) : ∃ v : Int64, M_Ma_min N a b = some v ∧ v.toInt ≤ a.toInt ∧ v.toInt ≤ b.toInt ∧ (v.toInt = a.toInt ∨ v.toInt = b.toInt) := by
  unfold M_Ma_min
  by_cases h : (0 : Int32) < lg_cmp a b
  · rw [if_pos h]
    rw [cmp_gt, Int64.lt_iff_toInt_lt] at h
    exact ⟨b, rfl, by omega, by omega, Or.inr rfl⟩
  · rw [if_neg h]
    rw [cmp_gt, Int64.lt_iff_toInt_lt] at h
    exact ⟨a, rfl, by omega, by omega, Or.inl rfl⟩
theorem s_max2 (N : Nat) (a b : Int64) : ∃ v : Int64, M_Ma_max N a b = some v ∧ a.toInt ≤ v.toInt ∧ b.toInt ≤ v.toInt ∧ (v.toInt = a.toInt ∨ v.toInt = b.toInt) := by
  unfold M_Ma_max
  by_cases h : lg_cmp a b < (0 : Int32)
  · rw [if_pos h]
    rw [cmp_lt, Int64.lt_iff_toInt_lt] at h
    exact ⟨b, rfl, by omega, by omega, Or.inr rfl⟩
  · rw [if_neg h]
    rw [cmp_lt, Int64.lt_iff_toInt_lt] at h
    exact ⟨a, rfl, by omega, by omega, Or.inl rfl⟩
theorem l2i_int {z : Int64} (h1 : -1000 ≤ z.toInt) (h2 : z.toInt ≤ 1000) : z.toInt32.toInt = z.toInt := by
  rw [Int64.toInt_toInt32]
  exact bm32 (by omega) (by omega)
/-- what the search reads at a lot: sides' values so far, V, and what the later lots can add, R -/
def WL1 (μ0 : Mem) (m : Nat) (rl : Nat → Nat) (l : Nat) (V R : Nat → Int) (μ : Mem) : Prop := Wsc μ0 m rl μ ∧ (∀ k, k < 2 * m → μ.2 (75 + l) k = JJ (V k) ∧ bnd 1000000000 (V k)) ∧ ∀ k, k < 2 * m → μ.2 (80 + (l + 1)) k = JJ (R k) ∧ bnd 1000000000 (R k)
theorem s_most {N m l : Nat} {rl : Nat → Nat} {V R : Nat → Int} {μ0 μ : Mem} (hN : 20 ≤ N) (hl : l < 4) (hw : WL1 μ0 m rl l V R μ) :
    ∃ v : Int32, M_WS_mostLoads N (nI l) μ = some (v, μ) ∧ -1 ≤ v.toInt ∧ v.toInt ≤ 9 ∧ ∀ x : Int, 0 ≤ x → (x ≤ v.toInt ↔ x ≤ stk μ0 l ∧ ∀ k, k < 2 * m → rS μ0 rl k l ≤ 0 → 0 ≤ V k + R k + rS μ0 rl k l * x) := by
  obtain ⟨⟨c1, c2, c3, c4, c5, c6, c7, c8, c9⟩, hV, hR⟩ := hw
  have lv := lnJ_v (l := l) (by omega)
  have lv' := lnJ_v (l := l + 1) (by omega)
  have step : ∀ (j f : Nat) (X : Int64), j ≤ 2 * m → X.toInt ≤ 9 → ∃ v : Int32, M_WS_mostLoads_14 N (f + j + 1) (nI l) X (nI (2 * m - j)) μ = some (v, μ) ∧ -1 ≤ v.toInt ∧ v.toInt ≤ 9 ∧ ∀ x : Int, 0 ≤ x → (x ≤ v.toInt ↔ x ≤ X.toInt ∧ ∀ k, 2 * m - j ≤ k → k < 2 * m → rS μ0 rl k l ≤ 0 → 0 ≤ V k + R k + rS μ0 rl k l * x) := by
    intro j
    induction j with
    | zero =>
      intro f X _ h9
      obtain ⟨v, v1, v2, v3, v4⟩ := s_max2 N X (-1)
      have m1 : (-1 : Int64).toInt = -1 := by decide
      rw [m1] at v3 v4
      have e := l2i_int (z := v) (by omega) (by omega)
      refine ⟨v.toInt32, ?_, by omega, by omega, fun x hx => ?_⟩
      · rw [M_WS_mostLoads_14, if_pos (by rw [c2, two_nI]; exact nI_le (by omega) (by omega)), v1, bs]
      · rw [e]
        constructor
        · exact fun q => ⟨by omega, fun k h1 h2 => absurd h1 (by omega)⟩
        · exact fun q => by have := q.1; omega
    | succ j ih =>
      intro f X hj h9
      obtain ⟨K, hK⟩ : ∃ K, K = 2 * m - (j + 1) := ⟨_, rfl⟩
      have lt : ¬ nI (2 * m) ≤ nI K := nI_ge (a := K) (b := 2 * m) (by omega) (by omega)
      have l9 : lnJ (54 + K) = 5 := lnJ_side (by omega)
      have l1 := ldA_n (k := 9) (j := K) (by decide) (by decide) (by show K < 16; omega) (by decide)
      have l2 := ldA_n (k := 11) (j := l) (by decide) (by decide) (by show l < 5; omega) (by decide)
      have l3 := ldA_n (k := 12) (j := l + 1) (by decide) (by decide) (by show l + 1 < 5; omega) (by decide)
      have eo9 : outB 9 = 54 := rfl
      have eo11 : outB 11 = 75 := rfl
      have eo12 : outB 12 = 80 := rfl
      rw [eo9] at l1
      rw [eo11] at l2
      rw [eo12] at l3
      obtain ⟨vK, vb⟩ := hV K (by omega)
      obtain ⟨rK, rb⟩ := hR K (by omega)
      have hbK := c6 K (by omega) l hl
      have eE : (JJ (rS μ0 rl K l)).toInt = rS μ0 rl K l := JJ_bnd hbK (by decide)
      have eR : (JJ (V K + R K)).toInt = V K + R K := by unfold bnd at vb rb; exact JJ_int (by omega) (by omega)
      have z0 : (0 : Int64).toInt = 0 := rfl
      rw [← hK, show f + (j + 1) + 1 = (f + j + 1) + 1 by omega, M_WS_mostLoads_14, if_neg (by rw [c2, two_nI]; exact lt), l1, bs, ldJ_n (by omega) (by omega) (by omega) (by omega), bs, l2, bs, ldJ_n (by omega) (by omega) (by omega) (by omega), bs, nI_1, l3, bs, ldJ_n (by omega) (by omega) (by omega) (by omega), bs, nm_eq, c3 K (by omega) l (by omega), vK, rK, JJ_add, nI_1, show K + 1 = 2 * m - j by omega]
      have more : ∀ (v : Int32) (X' : Int64), (∀ x : Int, 0 ≤ x → (x ≤ v.toInt ↔ x ≤ X'.toInt ∧ ∀ k, 2 * m - j ≤ k → k < 2 * m → rS μ0 rl k l ≤ 0 → 0 ≤ V k + R k + rS μ0 rl k l * x)) → (∀ x : Int, 0 ≤ x → (x ≤ X'.toInt ↔ x ≤ X.toInt ∧ (rS μ0 rl K l ≤ 0 → 0 ≤ V K + R K + rS μ0 rl K l * x))) → ∀ x : Int, 0 ≤ x → (x ≤ v.toInt ↔ x ≤ X.toInt ∧ ∀ k, K ≤ k → k < 2 * m → rS μ0 rl k l ≤ 0 → 0 ≤ V k + R k + rS μ0 rl k l * x) := by
        intro v X' h1 h2 x hx
        rw [h1 x hx, h2 x hx]
        constructor
        · rintro ⟨⟨a, b⟩, c⟩
          refine ⟨a, fun k q1 q2 => ?_⟩
          by_cases e : k = K
          · rw [e]; exact b
          · exact c k (by omega) q2
        · rintro ⟨a, b⟩
          exact ⟨⟨a, b K (by omega) (by omega)⟩, fun k q1 q2 => b k (by omega) q2⟩
      by_cases hs : 0 ≤ rS μ0 rl K l
      · rw [if_pos ((cmp_z _).2 (by rw [eE]; exact hs))]
        by_cases hz : rS μ0 rl K l = 0
        · rw [if_pos ((cmp_eq _ _).2 (by rw [hz]; rfl))]
          by_cases hr : 0 ≤ V K + R K
          · rw [if_pos ((cmp_z _).2 (by rw [eR]; exact hr))]
            obtain ⟨v, v1, v2, v3, v4⟩ := ih f X (by omega) h9
            refine ⟨v, v1, v2, v3, more v X v4 (fun x _ => ⟨fun q => ⟨q, fun _ => by rw [hz]; omega⟩, fun q => q.1⟩)⟩
          · rw [if_neg (fun q => hr (by have := (cmp_z _).1 q; rw [eR] at this; exact this))]
            refine ⟨-1, rfl, by decide, by decide, fun x hx => ?_⟩
            have m1 : (-1 : Int32).toInt = -1 := by decide
            rw [m1]
            constructor
            · intro q; omega
            · rintro ⟨-, b⟩
              have := b K (by omega) (by omega) (by omega)
              rw [hz] at this
              omega
        · rw [if_neg (fun q => hz (by have := (cmp_eq _ _).1 q; rw [← eE, this]; rfl))]
          obtain ⟨v, v1, v2, v3, v4⟩ := ih f X (by omega) h9
          exact ⟨v, v1, v2, v3, more v X v4 (fun x _ => ⟨fun q => ⟨q, fun h => by omega⟩, fun q => q.1⟩)⟩
      · rw [if_neg (fun q => hs (by have := (cmp_z _).1 q; rw [eE] at this; exact this)), JJ_neg]
        have eN : (JJ (-rS μ0 rl K l)).toInt = -rS μ0 rl K l := by unfold bnd at hbK; exact JJ_int (by omega) (by omega)
        obtain ⟨q, q1, q2⟩ := s_floorDiv N (x := JJ (V K + R K)) (y := JJ (-rS μ0 rl K l)) (by rw [eN]; omega)
        rw [eR, eN] at q2
        obtain ⟨X', x1, x2, x3, x4⟩ := s_min2 N X q
        rw [q1, bs, x1, bs]
        obtain ⟨v, v1, v2, v3, v4⟩ := ih f X' (by omega) (by omega)
        refine ⟨v, v1, v2, v3, more v X' v4 (fun x hx => ?_)⟩
        have hdiv : x ≤ q.toInt ↔ 0 ≤ V K + R K + rS μ0 rl K l * x := by
          rw [q2, Int.le_ediv_iff_mul_le (by omega), Int.mul_neg, Int.mul_comm x]
          omega
        constructor
        · intro w
          exact ⟨by omega, fun _ => hdiv.1 (by omega)⟩
        · rintro ⟨a, b⟩
          have := hdiv.2 (b (by omega))
          rcases x4 with e | e
          · omega
          · omega
  have hs : (μ0.1 17 l).toInt64.toInt = stk μ0 l := by rw [i2l_toInt]; rfl
  obtain ⟨v, v1, v2, v3, v4⟩ := step (2 * m) (N - 2 * m - 1) (μ0.1 17 l).toInt64 (Nat.le_refl _) (by rw [hs]; exact (c8 l hl).2)
  rw [show N - 2 * m - 1 + 2 * m + 1 = N by omega, Nat.sub_self] at v1
  refine ⟨v, ?_, v2, v3, fun x hx => ?_⟩
  · unfold M_WS_mostLoads
    rw [ldI_n (by decide) (by decide) (by show l < 4; omega) (by decide), bs, nm_eq, c4 l hl]
    exact v1
  · rw [v4 x hx, hs]
    exact ⟨fun q => ⟨q.1, fun k hk => q.2 k (by omega) hk⟩, fun q => ⟨q.1, fun k _ hk => q.2 k hk⟩⟩
theorem s_few {N m l : Nat} {rl : Nat → Nat} {V R : Nat → Int} {μ0 μ : Mem} (hN : 20 ≤ N) (hl : l < 4) (hw : WL1 μ0 m rl l V R μ) :
    ∃ v : Int32, M_WS_fewestLoads N (nI l) μ = some (v, μ) ∧ 0 ≤ v.toInt ∧ v.toInt ≤ 10 ∧ ∀ x : Int, 0 ≤ x → x ≤ 9 → (v.toInt ≤ x ↔ ∀ k, k < 2 * m → 0 < rS μ0 rl k l → 0 ≤ V k + R k + rS μ0 rl k l * x) := by
  obtain ⟨⟨c1, c2, c3, c4, c5, c6, c7, c8, c9⟩, hV, hR⟩ := hw
  have lv := lnJ_v (l := l) (by omega)
  have lv' := lnJ_v (l := l + 1) (by omega)
  have step : ∀ (j f : Nat) (X : Int64), j ≤ 2 * m → 0 ≤ X.toInt → ∃ v : Int32, M_WS_fewestLoads_5 N (f + j + 1) (nI l) X (nI (2 * m - j)) μ = some (v, μ) ∧ 0 ≤ v.toInt ∧ v.toInt ≤ 10 ∧ ∀ x : Int, 0 ≤ x → x ≤ 9 → (v.toInt ≤ x ↔ X.toInt ≤ x ∧ ∀ k, 2 * m - j ≤ k → k < 2 * m → 0 < rS μ0 rl k l → 0 ≤ V k + R k + rS μ0 rl k l * x) := by
    intro j
    induction j with
    | zero =>
      intro f X _ h0
      obtain ⟨v, v1, v2, v3, v4⟩ := s_min2 N X 10
      have m1 : (10 : Int64).toInt = 10 := by decide
      rw [m1] at v3 v4
      have e := l2i_int (z := v) (by omega) (by omega)
      refine ⟨v.toInt32, ?_, by omega, by omega, fun x hx hx9 => ?_⟩
      · rw [M_WS_fewestLoads_5, if_pos (by rw [c2, two_nI]; exact nI_le (by omega) (by omega)), v1, bs]
      · rw [e]
        constructor
        · exact fun q => ⟨by omega, fun k h1 h2 => absurd h1 (by omega)⟩
        · exact fun q => by have := q.1; omega
    | succ j ih =>
      intro f X hj h0
      obtain ⟨K, hK⟩ : ∃ K, K = 2 * m - (j + 1) := ⟨_, rfl⟩
      have lt : ¬ nI (2 * m) ≤ nI K := nI_ge (a := K) (b := 2 * m) (by omega) (by omega)
      have l9 : lnJ (54 + K) = 5 := lnJ_side (by omega)
      have l1 := ldA_n (k := 9) (j := K) (by decide) (by decide) (by show K < 16; omega) (by decide)
      have l2 := ldA_n (k := 11) (j := l) (by decide) (by decide) (by show l < 5; omega) (by decide)
      have l3 := ldA_n (k := 12) (j := l + 1) (by decide) (by decide) (by show l + 1 < 5; omega) (by decide)
      have eo9 : outB 9 = 54 := rfl
      have eo11 : outB 11 = 75 := rfl
      have eo12 : outB 12 = 80 := rfl
      rw [eo9] at l1
      rw [eo11] at l2
      rw [eo12] at l3
      obtain ⟨vK, vb⟩ := hV K (by omega)
      obtain ⟨rK, rb⟩ := hR K (by omega)
      have hbK := c6 K (by omega) l hl
      have eE : (JJ (rS μ0 rl K l)).toInt = rS μ0 rl K l := JJ_bnd hbK (by decide)
      have eR : (JJ (V K + R K)).toInt = V K + R K := by unfold bnd at vb rb; exact JJ_int (by omega) (by omega)
      have z0 : (0 : Int64).toInt = 0 := rfl
      rw [← hK, show f + (j + 1) + 1 = (f + j + 1) + 1 by omega, M_WS_fewestLoads_5, if_neg (by rw [c2, two_nI]; exact lt), l1, bs, ldJ_n (by omega) (by omega) (by omega) (by omega), bs, c3 K (by omega) l (by omega), nI_1, show K + 1 = 2 * m - j by omega]
      have more : ∀ (v : Int32) (X' : Int64), (∀ x : Int, 0 ≤ x → x ≤ 9 → (v.toInt ≤ x ↔ X'.toInt ≤ x ∧ ∀ k, 2 * m - j ≤ k → k < 2 * m → 0 < rS μ0 rl k l → 0 ≤ V k + R k + rS μ0 rl k l * x)) → (∀ x : Int, 0 ≤ x → (X'.toInt ≤ x ↔ X.toInt ≤ x ∧ (0 < rS μ0 rl K l → 0 ≤ V K + R K + rS μ0 rl K l * x))) → ∀ x : Int, 0 ≤ x → x ≤ 9 → (v.toInt ≤ x ↔ X.toInt ≤ x ∧ ∀ k, K ≤ k → k < 2 * m → 0 < rS μ0 rl k l → 0 ≤ V k + R k + rS μ0 rl k l * x) := by
        intro v X' h1 h2 x hx hx9
        rw [h1 x hx hx9, h2 x hx]
        constructor
        · rintro ⟨⟨a, b⟩, c⟩
          refine ⟨a, fun k q1 q2 => ?_⟩
          by_cases e : k = K
          · rw [e]; exact b
          · exact c k (by omega) q2
        · rintro ⟨a, b⟩
          exact ⟨⟨a, b K (by omega) (by omega)⟩, fun k q1 q2 => b k (by omega) q2⟩
      by_cases hs : rS μ0 rl K l ≤ 0
      · rw [if_pos ((cmp_le _ _).2 (by rw [Int64.le_iff_toInt_le, eE, z0]; exact hs))]
        obtain ⟨v, v1, v2, v3, v4⟩ := ih f X (by omega) h0
        exact ⟨v, v1, v2, v3, more v X v4 (fun x _ => ⟨fun q => ⟨q, fun h => by omega⟩, fun q => q.1⟩)⟩
      · rw [if_neg (fun q => hs (by have := (cmp_le _ _).1 q; rw [Int64.le_iff_toInt_le, eE, z0] at this; exact this)), l2, bs, ldJ_n (by omega) (by omega) (by omega) (by omega), bs, nI_1, l3, bs, ldJ_n (by omega) (by omega) (by omega) (by omega), bs, nm_eq, vK, rK, JJ_add]
        obtain ⟨q, q1, q2⟩ := s_floorDiv N (x := JJ (V K + R K)) (y := JJ (rS μ0 rl K l)) (by rw [eE]; omega)
        rw [eR, eE] at q2
        have qb : -2000000001 ≤ q.toInt := by
          rw [q2, Int.le_ediv_iff_mul_le (by omega)]
          unfold bnd at vb rb
          have : -2000000001 * rS μ0 rl K l ≤ -2000000001 * 1 := Int.mul_le_mul_of_nonpos_left (by omega) (by omega)
          omega
        have eQ : (-q).toInt = -q.toInt := neg64 (by omega)
        obtain ⟨X', x1, x2, x3, x4⟩ := s_max2 N X (-q)
        rw [eQ] at x3 x4
        rw [q1, bs, x1, bs]
        obtain ⟨v, v1, v2, v3, v4⟩ := ih f X' (by omega) (by omega)
        refine ⟨v, v1, v2, v3, more v X' v4 (fun x hx => ?_)⟩
        have hdiv : -q.toInt ≤ x ↔ 0 ≤ V K + R K + rS μ0 rl K l * x := by
          have h1 : -x ≤ q.toInt ↔ -x * rS μ0 rl K l ≤ V K + R K := by rw [q2, Int.le_ediv_iff_mul_le (by omega)]
          rw [Int.neg_mul, Int.mul_comm x] at h1
          omega
        constructor
        · intro w
          exact ⟨by omega, fun _ => hdiv.1 (by omega)⟩
        · rintro ⟨a, b⟩
          have := hdiv.2 (b (by omega))
          rcases x4 with e | e
          · omega
          · omega
  obtain ⟨v, v1, v2, v3, v4⟩ := step (2 * m) (N - 2 * m - 1) 0 (Nat.le_refl _) (by decide)
  rw [show N - 2 * m - 1 + 2 * m + 1 = N by omega, Nat.sub_self] at v1
  refine ⟨v, v1, v2, v3, fun x hx hx9 => ?_⟩
  rw [v4 x hx hx9]
  have z0 : (0 : Int64).toInt = 0 := rfl
  exact ⟨fun q k hk => q.2 k (by omega) hk, fun q => ⟨by omega, fun k _ hk => q k hk⟩⟩
