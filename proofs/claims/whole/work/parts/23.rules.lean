/-! span, ratio, loads, untell, lot, amount. -/
theorem bs {α β : Type} (a : α) (f : α → Option β) : (some a).bind f = f a := rfl
theorem bs2 {α β : Type} (a : α) (μ : Mem) (f : α → Mem → Option β) : bn2 (some (a, μ)) f = f a μ := rfl
theorem tell_inv {μ μ' : Mem} {r T : Nat} (hr : r < 8) (hA : InvA μ) (hS : InvS μ) (hF : InvF μ) (hT : T < 256) (h14 : ∀ i, i < 8 → μ.1 14 i = if T.testBit i then 1 else 0) (hro : ∀ i, i < 8 → T.testBit i = true → RuleOK μ i)
    (e2 : μ'.1 2 0 = nI (T ||| 2 ^ r)) (e14 : ∀ i, μ'.1 14 i = if i = r then 1 else μ.1 14 i) (ek : ∀ k, (18 ≤ k ∧ k < 23) ∨ (31 ≤ k ∧ k < 36) → ∀ i, i ≠ r → μ'.1 k i = μ.1 k i) (hR : RuleOK μ' r)
    (oI : ∀ k i, k ≠ 2 → k ≠ 14 → ¬ (18 ≤ k ∧ k < 23) → ¬ (31 ≤ k ∧ k < 36) → μ'.1 k i = μ.1 k i) (oJ : ∀ k i, μ'.2 k i = μ.2 k i) : Inv μ' := by
  refine ⟨hA.of (oI _ _ (by omega) (by omega) (by omega) (by omega)) (oI _ _ (by omega) (by omega) (by omega) (by omega)) (fun i => oI _ _ (by omega) (by omega) (by omega) (by omega)) (fun i => oI _ _ (by omega) (by omega) (by omega) (by omega)) (fun i => oI _ _ (by omega) (by omega) (by omega) (by omega)) (fun i => oI _ _ (by omega) (by omega) (by omega) (by omega)) (fun i => oJ _ _) (fun k _ _ i => oJ _ _), ?_,
    hS.of' (oI _ _ (by omega) (by omega) (by omega) (by omega)) (fun i => oI _ _ (by omega) (by omega) (by omega) (by omega)) (fun i => oI _ _ (by omega) (by omega) (by omega) (by omega)) (fun i => oJ _ _) (oJ _ _) ?_,
    hF.of (fun i => oI _ _ (by omega) (by omega) (by omega) (by omega)) (oI _ _ (by omega) (by omega) (by omega) (by omega)) (oI _ _ (by omega) (by omega) (by omega) (by omega)) (oI _ _ (by omega) (by omega) (by omega) (by omega)) (fun i => oI _ _ (by omega) (by omega) (by omega) (by omega)) (fun i => oI _ _ (by omega) (by omega) (by omega) (by omega)) (fun i => oJ _ _) (fun i => oJ _ _)⟩
  rotate_left
  · intro i hi
    by_cases h : i = r
    · subst h
      obtain ⟨⟨f, g, hf, hg, -, e1, -, e2⟩, -⟩ := hR.2.2.2.2.1 hi
      exact ⟨f, g, hf, hg, e1, e2⟩
    · rw [ek 34 (by omega) i h, ek 35 (by omega) i h]
      exact hS.2.2.2 i hi
  refine ⟨T ||| 2 ^ r, (or8 T hT r hr).2, e2, fun i hi => ?_, fun i hi ht => ?_⟩
  · rw [e14, Nat.testBit_or, Nat.testBit_two_pow]
    by_cases h : i = r
    · subst h
      simp
    · rw [if_neg h, h14 i hi]
      have : ¬ r = i := fun q => h q.symm
      simp [this]
  · by_cases h : i = r
    · subst h
      exact hR
    · rw [Nat.testBit_or, Nat.testBit_two_pow] at ht
      have h9 : ¬ r = i := fun q => h q.symm
      simp [h9] at ht
      exact (hro i hi ht).of (fun k hk => ek k hk i h)
def tellC (μ : Mem) (r T : Nat) (a b lo hi ov : Int32) : Mem := (upI (upI (upI (upI (upI (upI μ.1 18 r a) 19 r b) 20 r lo) 21 r hi) 22 r ov) 2 0 (nI (T ||| 2 ^ r)), μ.2)
theorem s_tell {N r T : Nat} {μ : Mem} (hr : r < 8) (hT : T < 256) (h2 : μ.1 2 0 = nI T) (a b lo hi ov : Int32) : M_Ru_tell N (nI r) a b lo hi ov μ = some (tellC μ r T a b lo hi ov) := by
  have e : (upI (upI (upI (upI (upI μ.1 18 r a) 19 r b) 20 r lo) 21 r hi) 22 r ov) 2 0 = nI T := by simp [upI, h2]
  rw [M_Ru_tell, stI_n (by decide) (by decide) (by show r < 8; omega) (by decide), bs, stI_n (by decide) (by decide) (by show r < 8; omega) (by decide), bs, stI_n (by decide) (by decide) (by show r < 8; omega) (by decide), bs, stI_n (by decide) (by decide) (by show r < 8; omega) (by decide), bs, stI_n (by decide) (by decide) (by show r < 8; omega) (by decide), bs]
  dsimp only
  rw [e, (or8 T hT r hr).1]
  rfl
def tellM (μ : Mem) (r : Nat) (lo hi : Int32) : Mem := (upI (upI (upI μ.1 14 r 1) 31 r lo) 32 r hi, μ.2)
theorem s_tellM {N r : Nat} {μ : Mem} (hr : r < 8) (lo hi : Int32) : M_Mo_tell N (nI r) lo hi μ = some (1, tellM μ r lo hi) := by
  rw [M_Mo_tell, stZ_n (by decide) (by decide) (Or.inr rfl) (by show r < 8; omega) (by decide), bs, stI_n (by decide) (by decide) (by show r < 8; omega) (by decide), bs, stI_n (by decide) (by decide) (by show r < 8; omega) (by decide), bs, reZ_1]
  rfl
theorem h_span (N : Nat) : H_span N Inv := by
  intro a lo hi μ hI
  obtain ⟨hA, ⟨T, hT, h2, h14, hro⟩, hS, hF⟩ := id hI
  by_cases hw : 0 ≤ a.toInt ∧ a.toInt < 5
  · by_cases hc : (-100000 : Int32) ≤ lo ∧ lo ≤ hi ∧ hi ≤ 100000
    · obtain ⟨j, hj, rfl⟩ : ∃ j : Nat, j < 5 ∧ a = nI j := vp_in_of (vp_in_iff.mpr hw) (by decide)
      refine ⟨1, tellC μ j T (nI j) 6 lo hi 1, tellM (tellC μ j T (nI j) 6 lo hi 1) j lo hi, ?_, ?_, ?_⟩
      · rw [M_RP_span, s_isWhat, bs, if_neg (by rw [b01_0]; exact fun h => h hw), s_isRange, bs, if_neg (by rw [b01_0]; exact fun h => h hc), s_tell (by omega) hT h2, bs, reZ_1]
      · have c1 : (-100000 : Int64) ≤ lo.toInt64 ∧ lo.toInt64 ≤ hi.toInt64 := by
          simp only [Int64.le_iff_toInt_le, i2l_toInt]
          simp only [Int32.le_iff_toInt_le] at hc
          exact ⟨hc.1, hc.2.1⟩
        have c2 : lo.toInt64 ≤ hi.toInt64 ∧ hi.toInt64 ≤ (100000 : Int64) := by
          simp only [Int64.le_iff_toInt_le, i2l_toInt]
          simp only [Int32.le_iff_toInt_le] at hc
          exact ⟨hc.2.1, hc.2.2⟩
        rw [M_Mo_span, s_isWhatM, bs, if_neg (by rw [b01_0]; exact fun h => h hw), s_isIn, bs, if_neg (by rw [b01_0]; exact fun h => h c1), s_isIn, bs, if_neg (by rw [b01_0]; exact fun h => h c2), s_tellM (by omega), bs2, if_neg (by decide), reZ_1]
      · refine tell_inv (r := j) (T := T) (by omega) hA hS hF hT h14 hro ?_ ?_ ?_ ?_ ?_ ?_
        · simp [tellM, tellC, upI]
        · intro i
          simp [tellM, tellC, upI]
        · intro k hk i hi9
          have hk2 : ¬ k = 2 := by omega
          simp [tellM, tellC, upI, hi9, hk2]
        · simp only [Int32.le_iff_toInt_le] at hc
          have hc1 : -100000 ≤ lo.toInt := hc.1
          have hc2 : hi.toInt ≤ 100000 := hc.2.2
          refine ⟨by simp [tellM, tellC, upI], by simp [tellM, tellC, upI], by simp [tellM, tellC, upI]; exact hc.2.1, fun _ => ⟨by simp [tellM, tellC, upI], by simp [tellM, tellC, upI], by simp [tellM, tellC, upI], by simp [tellM, tellC, upI]; omega, by simp [tellM, tellC, upI]; omega⟩, fun h => by omega, fun h => by omega⟩
        · intro k i h1 h3 h4 h5
          have : ¬ k = 18 ∧ ¬ k = 19 ∧ ¬ k = 20 ∧ ¬ k = 21 ∧ ¬ k = 22 ∧ ¬ k = 31 ∧ ¬ k = 32 := by omega
          simp [tellM, tellC, upI, h1, h3, this]
        · intro k i
          rfl
    · refine ⟨0, μ, μ, ?_, ?_, hI⟩
      · rw [M_RP_span, s_isWhat, bs, if_neg (by rw [b01_0]; exact fun h => h hw), s_isRange, bs, if_pos (by rw [b01_0]; exact hc), reZ_0]
      · rw [M_Mo_span, s_isWhatM, bs, if_neg (by rw [b01_0]; exact fun h => h hw), s_isIn, bs]
        by_cases c1 : (-100000 : Int64) ≤ lo.toInt64 ∧ lo.toInt64 ≤ hi.toInt64
        · rw [if_neg (by rw [b01_0]; exact fun h => h c1), s_isIn, bs, if_pos, reZ_0]
          rw [b01_0]
          intro c2
          refine hc ?_
          simp only [Int64.le_iff_toInt_le, i2l_toInt] at c1 c2
          simp only [Int32.le_iff_toInt_le]
          exact ⟨c1.1, c1.2, c2.2⟩
        · rw [if_pos (by rw [b01_0]; exact c1), reZ_0]
  · refine ⟨0, μ, μ, ?_, ?_, hI⟩
    · rw [M_RP_span, s_isWhat, bs, if_pos (by rw [b01_0]; exact hw), reZ_0]
    · rw [M_Mo_span, s_isWhatM, bs, if_pos (by rw [b01_0]; exact hw), reZ_0]
theorem h_loads (N : Nat) : H_loads N Inv := by
  intro lo hi μ hI
  obtain ⟨hA, ⟨T, hT, h2, h14, hro⟩, hS, hF⟩ := id hI
  by_cases hc : (0 : Int32) ≤ lo ∧ lo ≤ hi ∧ hi ≤ 36
  · refine ⟨1, tellC μ 7 T 5 6 lo hi 1, tellM (tellC μ 7 T 5 6 lo hi 1) 7 lo hi, ?_, ?_, ?_⟩
    · rw [M_RP_loads, s_isRange, bs, if_neg (by rw [b01_0]; exact fun h => h hc)]
      have e : M_Ru_tell N 7 5 6 lo hi 1 μ = some (tellC μ 7 T 5 6 lo hi 1) := s_tell (r := 7) (by decide) hT h2 5 6 lo hi 1
      rw [e, bs, reZ_1]
    · have c1 : (0 : Int64) ≤ lo.toInt64 ∧ lo.toInt64 ≤ hi.toInt64 := by
        simp only [Int64.le_iff_toInt_le, i2l_toInt]
        simp only [Int32.le_iff_toInt_le] at hc
        exact ⟨hc.1, hc.2.1⟩
      have c2 : lo.toInt64 ≤ hi.toInt64 ∧ hi.toInt64 ≤ (36 : Int64) := by
        simp only [Int64.le_iff_toInt_le, i2l_toInt]
        simp only [Int32.le_iff_toInt_le] at hc
        exact ⟨hc.2.1, hc.2.2⟩
      have e : M_Mo_tell N 7 lo hi (tellC μ 7 T 5 6 lo hi 1) = some (1, tellM (tellC μ 7 T 5 6 lo hi 1) 7 lo hi) := s_tellM (r := 7) (by decide) lo hi
      rw [M_Mo_loads, s_isIn, bs, if_neg (by rw [b01_0]; exact fun h => h c1), s_isIn, bs, if_neg (by rw [b01_0]; exact fun h => h c2), e, bs2, if_neg (by decide), reZ_1]
    · refine tell_inv (r := 7) (T := T) (by omega) hA hS hF hT h14 hro ?_ ?_ ?_ ?_ ?_ ?_
      · simp [tellM, tellC, upI]
      · intro i
        simp [tellM, tellC, upI]
      · intro k hk i hi9
        have hk2 : ¬ k = 2 := by omega
        simp [tellM, tellC, upI, hi9, hk2]
      · simp only [Int32.le_iff_toInt_le] at hc
        have hc1 : 0 ≤ lo.toInt := hc.1
        have hc2 : hi.toInt ≤ 36 := hc.2.2
        refine ⟨by simp [tellM, tellC, upI], by simp [tellM, tellC, upI], by simp [tellM, tellC, upI]; exact hc.2.1, fun h => by omega, fun h => by omega, fun _ => ⟨by simp [tellM, tellC, upI], by simp [tellM, tellC, upI], by simp [tellM, tellC, upI], by simp [tellM, tellC, upI]; omega, by simp [tellM, tellC, upI]; omega⟩⟩
      · intro k i h1 h3 h4 h5
        have : ¬ k = 18 ∧ ¬ k = 19 ∧ ¬ k = 20 ∧ ¬ k = 21 ∧ ¬ k = 22 ∧ ¬ k = 31 ∧ ¬ k = 32 := by omega
        simp [tellM, tellC, upI, h1, h3, this]
      · intro k i
        rfl
  · refine ⟨0, μ, μ, ?_, ?_, hI⟩
    · rw [M_RP_loads, s_isRange, bs, if_pos (by rw [b01_0]; exact hc), reZ_0]
    · rw [M_Mo_loads, s_isIn, bs]
      by_cases c1 : (0 : Int64) ≤ lo.toInt64 ∧ lo.toInt64 ≤ hi.toInt64
      · rw [if_neg (by rw [b01_0]; exact fun h => h c1), s_isIn, bs, if_pos, reZ_0]
        rw [b01_0]
        intro c2
        refine hc ?_
        simp only [Int64.le_iff_toInt_le, i2l_toInt] at c1 c2
        simp only [Int32.le_iff_toInt_le]
        exact ⟨c1.1, c1.2, c2.2⟩
      · rw [if_pos (by rw [b01_0]; exact c1), reZ_0]
def ratM (μ : Mem) (r : Nat) (f g ov : Int32) : Mem := (upI (upI (upI μ.1 34 r f) 35 r g) 33 r ov, μ.2)
theorem h_ratio (N : Nat) : H_ratio N Inv := by
  intro k f g lo hi ov μ hI
  obtain ⟨hA, ⟨T, hT, h2, h14, hro⟩, hS, hF⟩ := id hI
  have hkM : ∀ {X Y : Option (Int32 × Mem)}, ¬ (k = 0 ∨ k = 1) → (if k < 0 then X else if 1 < k then X else Y) = X := by
    intro X Y hn
    by_cases h0 : k < 0
    · rw [if_pos h0]
    · rw [if_neg h0, if_pos]
      simp only [← Int32.toInt_inj, Int32.lt_iff_toInt_lt] at *
      have e0 : (0 : Int32).toInt = 0 := rfl
      have e1 : (1 : Int32).toInt = 1 := rfl
      omega
  have hkP : ∀ {X Y : Option (Int32 × Mem)}, (k = 0 ∨ k = 1) → (if k < 0 then X else if 1 < k then X else Y) = Y := by
    intro X Y hn
    rcases hn with rfl | rfl
    · rw [if_neg (by decide), if_neg (by decide)]
    · rw [if_neg (by decide), if_neg (by decide)]
  by_cases hk : k = 0 ∨ k = 1
  · by_cases hf : 0 ≤ f.toInt ∧ f.toInt < 5
    · by_cases hg : 0 ≤ g.toInt ∧ g.toInt < 5
      · by_cases hc : (0 : Int32) ≤ lo ∧ lo ≤ hi ∧ hi ≤ 100
        · by_cases ho : (1 : Int64) ≤ ov.toInt64 ∧ ov.toInt64 ≤ 100
          · obtain ⟨r, hr, er⟩ : ∃ r : Nat, (r = 5 ∨ r = 6) ∧ (5 : Int32) + k = nI r := by
              rcases hk with rfl | rfl
              · exact ⟨5, Or.inl rfl, rfl⟩
              · exact ⟨6, Or.inr rfl, rfl⟩
            have hr8 : r < 8 := by omega
            refine ⟨1, tellC μ r T f g lo hi ov, tellM (ratM (tellC μ r T f g lo hi ov) r f g ov) r lo hi, ?_, ?_, ?_⟩
            · rw [M_RP_ratio, within01, bs, if_neg (by rw [b01_0]; exact fun h => h hk), s_isWhat, bs, if_neg (by rw [b01_0]; exact fun h => h hf), s_isWhat, bs, if_neg (by rw [b01_0]; exact fun h => h hg), s_isRange, bs, if_neg (by rw [b01_0]; exact fun h => h hc), s_within, bs, if_neg (by rw [b01_0]; exact fun h => h ho), er, s_tell hr8 hT h2, bs, reZ_1]
            · have c1 : (0 : Int64) ≤ lo.toInt64 ∧ lo.toInt64 ≤ hi.toInt64 := by
                simp only [Int64.le_iff_toInt_le, i2l_toInt]
                simp only [Int32.le_iff_toInt_le] at hc
                exact ⟨hc.1, hc.2.1⟩
              have c2 : lo.toInt64 ≤ hi.toInt64 ∧ hi.toInt64 ≤ (100 : Int64) := by
                simp only [Int64.le_iff_toInt_le, i2l_toInt]
                simp only [Int32.le_iff_toInt_le] at hc
                exact ⟨hc.2.1, hc.2.2⟩
              rw [M_Mo_ratio, hkP hk, s_isWhatM, bs, if_neg (by rw [b01_0]; exact fun h => h hf), s_isWhatM, bs, if_neg (by rw [b01_0]; exact fun h => h hg), s_isIn, bs, if_neg (by rw [b01_0]; exact fun h => h c1), s_isIn, bs, if_neg (by rw [b01_0]; exact fun h => h c2), s_isIn, bs, if_neg (by rw [b01_0]; exact fun h => h ho), er,
                stI_n (by decide) (by decide) (by show r < 8; omega) (by decide), bs, stI_n (by decide) (by decide) (by show r < 8; omega) (by decide), bs, stI_n (by decide) (by decide) (by show r < 8; omega) (by decide), bs]
              have e := s_tellM (N := N) (r := r) (μ := ratM (tellC μ r T f g lo hi ov) r f g ov) hr8 lo hi
              unfold ratM at e ⊢
              rw [e, bs2, reZ_1]
            · obtain ⟨a, ha, rfl⟩ : ∃ j : Nat, j < 5 ∧ f = nI j := vp_in_of (vp_in_iff.mpr hf) (by decide)
              obtain ⟨b, hb, rfl⟩ : ∃ j : Nat, j < 5 ∧ g = nI j := vp_in_of (vp_in_iff.mpr hg) (by decide)
              refine tell_inv (r := r) (T := T) hr8 hA hS hF hT h14 hro ?_ ?_ ?_ ?_ ?_ ?_
              · simp [tellM, ratM, tellC, upI]
              · intro i
                simp [tellM, ratM, tellC, upI]
              · intro k hk i hi9
                have hk2 : ¬ k = 2 := by omega
                simp [tellM, ratM, tellC, upI, hi9, hk2]
              · simp only [Int32.le_iff_toInt_le] at hc
                simp only [Int64.le_iff_toInt_le, i2l_toInt] at ho
                have hc1 : 0 ≤ lo.toInt := hc.1
                have hc2 : hi.toInt ≤ 100 := hc.2.2
                have ho1 : 1 ≤ ov.toInt := ho.1
                have ho2 : ov.toInt ≤ 100 := ho.2
                refine ⟨by simp [tellM, ratM, tellC, upI], by simp [tellM, ratM, tellC, upI], by simp [tellM, ratM, tellC, upI]; exact hc.2.1, fun h => by omega, fun _ => ⟨⟨a, b, ha, hb, by simp [tellM, ratM, tellC, upI], by simp [tellM, ratM, tellC, upI], by simp [tellM, ratM, tellC, upI], by simp [tellM, ratM, tellC, upI]⟩, by simp [tellM, ratM, tellC, upI], by simp [tellM, ratM, tellC, upI]; omega, by simp [tellM, ratM, tellC, upI]; omega, by simp [tellM, ratM, tellC, upI]; omega, by simp [tellM, ratM, tellC, upI]; omega⟩, fun h => by omega⟩
              · intro k i h1 h3 h4 h5
                have : ¬ k = 18 ∧ ¬ k = 19 ∧ ¬ k = 20 ∧ ¬ k = 21 ∧ ¬ k = 22 ∧ ¬ k = 31 ∧ ¬ k = 32 ∧ ¬ k = 33 ∧ ¬ k = 34 ∧ ¬ k = 35 := by omega
                simp [tellM, ratM, tellC, upI, h1, h3, this]
              · intro k i
                rfl
          · refine ⟨0, μ, μ, ?_, ?_, hI⟩
            · rw [M_RP_ratio, within01, bs, if_neg (by rw [b01_0]; exact fun h => h hk), s_isWhat, bs, if_neg (by rw [b01_0]; exact fun h => h hf), s_isWhat, bs, if_neg (by rw [b01_0]; exact fun h => h hg), s_isRange, bs, if_neg (by rw [b01_0]; exact fun h => h hc), s_within, bs, if_pos (by rw [b01_0]; exact ho), reZ_0]
            · have c1 : (0 : Int64) ≤ lo.toInt64 ∧ lo.toInt64 ≤ hi.toInt64 := by
                simp only [Int64.le_iff_toInt_le, i2l_toInt]
                simp only [Int32.le_iff_toInt_le] at hc
                exact ⟨hc.1, hc.2.1⟩
              have c2 : lo.toInt64 ≤ hi.toInt64 ∧ hi.toInt64 ≤ (100 : Int64) := by
                simp only [Int64.le_iff_toInt_le, i2l_toInt]
                simp only [Int32.le_iff_toInt_le] at hc
                exact ⟨hc.2.1, hc.2.2⟩
              rw [M_Mo_ratio, hkP hk, s_isWhatM, bs, if_neg (by rw [b01_0]; exact fun h => h hf), s_isWhatM, bs, if_neg (by rw [b01_0]; exact fun h => h hg), s_isIn, bs, if_neg (by rw [b01_0]; exact fun h => h c1), s_isIn, bs, if_neg (by rw [b01_0]; exact fun h => h c2), s_isIn, bs, if_pos (by rw [b01_0]; exact ho), reZ_0]
        · refine ⟨0, μ, μ, ?_, ?_, hI⟩
          · rw [M_RP_ratio, within01, bs, if_neg (by rw [b01_0]; exact fun h => h hk), s_isWhat, bs, if_neg (by rw [b01_0]; exact fun h => h hf), s_isWhat, bs, if_neg (by rw [b01_0]; exact fun h => h hg), s_isRange, bs, if_pos (by rw [b01_0]; exact hc), reZ_0]
          · rw [M_Mo_ratio, hkP hk, s_isWhatM, bs, if_neg (by rw [b01_0]; exact fun h => h hf), s_isWhatM, bs, if_neg (by rw [b01_0]; exact fun h => h hg), s_isIn, bs]
            by_cases c1 : (0 : Int64) ≤ lo.toInt64 ∧ lo.toInt64 ≤ hi.toInt64
            · rw [if_neg (by rw [b01_0]; exact fun h => h c1), s_isIn, bs, if_pos, reZ_0]
              rw [b01_0]
              intro c2
              refine hc ?_
              simp only [Int64.le_iff_toInt_le, i2l_toInt] at c1 c2
              simp only [Int32.le_iff_toInt_le]
              exact ⟨c1.1, c1.2, c2.2⟩
            · rw [if_pos (by rw [b01_0]; exact c1), reZ_0]
      · refine ⟨0, μ, μ, ?_, ?_, hI⟩
        · rw [M_RP_ratio, within01, bs, if_neg (by rw [b01_0]; exact fun h => h hk), s_isWhat, bs, if_neg (by rw [b01_0]; exact fun h => h hf), s_isWhat, bs, if_pos (by rw [b01_0]; exact hg), reZ_0]
        · rw [M_Mo_ratio, hkP hk, s_isWhatM, bs, if_neg (by rw [b01_0]; exact fun h => h hf), s_isWhatM, bs, if_pos (by rw [b01_0]; exact hg), reZ_0]
    · refine ⟨0, μ, μ, ?_, ?_, hI⟩
      · rw [M_RP_ratio, within01, bs, if_neg (by rw [b01_0]; exact fun h => h hk), s_isWhat, bs, if_pos (by rw [b01_0]; exact hf), reZ_0]
      · rw [M_Mo_ratio, hkP hk, s_isWhatM, bs, if_pos (by rw [b01_0]; exact hf), reZ_0]
  · refine ⟨0, μ, μ, ?_, ?_, hI⟩
    · rw [M_RP_ratio, within01, bs, if_pos (by rw [b01_0]; exact hk), reZ_0]
    · rw [M_Mo_ratio, hkM hk, reZ_0]
theorem s_isTold {N r T : Nat} {μ : Mem} (hr : r < 8) (hT : T < 256) (h2 : μ.1 2 0 = nI T) : M_Ru_isTold N (nI r) μ = some (if T.testBit r then 1 else 0, μ) := by
  rw [M_Ru_isTold, h2, s_hasBit N hT hr, bs]
  by_cases h : T.testBit r = true <;> simp [h, reZ]
theorem h_untell (N : Nat) : H_untell N Inv := by
  intro a μ hI
  obtain ⟨hA, ⟨T, hT, h2, h14, hro⟩, hS, hF⟩ := id hI
  by_cases hw : 0 ≤ a.toInt ∧ a.toInt < 8
  · obtain ⟨r, hr, rfl⟩ : ∃ j : Nat, j < 8 ∧ a = nI j := vp_in_of (vp_in_iff.mpr hw) (by decide)
    have h8 : ¬ (8 : Int32) ≤ nI r := nI_ge (a := r) (b := 8) hr (by decide)
    by_cases ht : T.testBit r = true
    · refine ⟨1, (upI μ.1 2 0 (nI (T ^^^ 2 ^ r)), μ.2), (upI (upI μ.1 2 0 (nI (T ^^^ 2 ^ r))) 14 r 0, μ.2), ?_, ?_, ?_⟩
      · rw [M_RP_untell, within07, bs, if_neg (by rw [b01_0]; exact fun h => h hw), s_isTold hr hT h2, bs2, if_pos ht, if_neg (by decide), h2, (xor8 T hT r hr).1, pI, bs, reZ_1]
      · rw [M_Mo_untell, if_neg (nI_pos (by omega)), if_neg h8, ldZ_n (by decide) (by decide) (by show r < 8; omega) (by decide), bs]
        have e : (upI μ.1 2 0 (nI (T ^^^ 2 ^ r))) 14 r = 1 := by simp [upI, h14 r hr, ht]
        dsimp only
        rw [if_neg (by rw [e]; decide), stZ_n (by decide) (by decide) (Or.inl rfl) (by show r < 8; omega) (by decide), bs, reZ_1]
      · refine ⟨hA.of (by simp [upI]) (by simp [upI]) (fun i => by simp [upI]) (fun i => by simp [upI]) (fun i => by simp [upI]) (fun i => by simp [upI]) (fun i => rfl) (fun k _ _ i => rfl), ⟨T ^^^ 2 ^ r, (xor8 T hT r hr).2, by simp [upI], fun i hi => ?_, fun i hi h => ?_⟩, hS.of (by simp [upI]) (fun i => by simp [upI]) (fun i => by simp [upI]) (fun i => rfl) rfl (fun i => by simp [upI]) (fun i => by simp [upI]), hF.of (fun i => by simp [upI]) (by simp [upI]) (by simp [upI]) (by simp [upI]) (fun i => by simp [upI]) (fun i => by simp [upI]) (fun i => rfl) (fun i => rfl)⟩
        · rw [Nat.testBit_xor, Nat.testBit_two_pow]
          by_cases e : i = r
          · subst e
            simp [upI, ht]
          · have : ¬ r = i := fun q => e q.symm
            simp [upI, this, e, h14 i hi]
        · rw [Nat.testBit_xor, Nat.testBit_two_pow] at h
          have e : i ≠ r := fun q => by
            subst q
            simp [ht] at h
          have h9 : ¬ r = i := fun q => e q.symm
          simp [h9] at h
          refine (hro i hi h).of (fun k hk => ?_)
          have : ¬ k = 2 ∧ ¬ k = 14 := by omega
          simp [upI, this]
    · refine ⟨0, μ, μ, ?_, ?_, hI⟩
      · rw [M_RP_untell, within07, bs, if_neg (by rw [b01_0]; exact fun h => h hw), s_isTold hr hT h2, bs2, if_neg ht, if_pos rfl, reZ_0]
      · rw [M_Mo_untell, if_neg (nI_pos (by omega)), if_neg h8, ldZ_n (by decide) (by decide) (by show r < 8; omega) (by decide), bs, h14 r hr, if_neg ht, if_pos rfl, reZ_0]
  · refine ⟨0, μ, μ, ?_, ?_, hI⟩
    · rw [M_RP_untell, within07, bs, if_pos (by rw [b01_0]; exact hw), reZ_0]
    · rw [M_Mo_untell]
      by_cases h0 : a < 0
      · rw [if_pos h0, reZ_0]
      · rw [if_neg h0, if_pos, reZ_0]
        rw [lt0] at h0
        rw [Int32.le_iff_toInt_le]
        show (8 : Int) ≤ _
        omega
