/-! The calls that only read what was found. -/
theorem le_i (x : Int32) (n : Nat) (hn : n < 2 ^ 31) : (nI n ≤ x) ↔ (n : Int) ≤ x.toInt := by rw [Int32.le_iff_toInt_le, nI_toInt hn]
theorem lt0 (x : Int32) : (x < 0) ↔ x.toInt < 0 := by rw [Int32.lt_iff_toInt_lt]; rfl
theorem h_cost (N : Nat) : H_cost N Inv := by
  intro μ hI
  obtain ⟨hA, hR, hS, hF⟩ := id hI
  rcases hF with ⟨f1, f2, f3, f4⟩ | ⟨f1, f2, f3, f4, f5, f6, f7, f8, f9⟩ | ⟨f1, f2, f3, f4, f5, f6⟩ | ⟨f1, f2, f3, f4⟩
  · exact ⟨_, μ, μ, by rw [M_RP_cost, if_pos f2], by rw [M_Mo_cost, f1, if_neg (by decide)], hI⟩
  · exact ⟨_, μ, μ, by rw [M_RP_cost, f2, if_neg (by decide), f5], by rw [M_Mo_cost, if_pos f1], hI⟩
  · exact ⟨_, μ, μ, by rw [M_RP_cost, if_pos f2], by rw [M_Mo_cost, f1, if_neg (by decide)], hI⟩
  · exact ⟨_, μ, μ, by rw [M_RP_cost, if_pos f2], by rw [M_Mo_cost, f1, if_neg (by decide)], hI⟩
theorem within01 (N : Nat) (x : Int32) : M_RP_within N x.toInt64 0 1 = some (b01 (x = 0 ∨ x = 1)) := by
  rw [s_within]
  refine congrArg some (b01_congr ?_)
  rw [Int64.le_iff_toInt_le, Int64.le_iff_toInt_le, i2l_toInt, ← Int32.toInt_inj, ← Int32.toInt_inj]
  show (0 : Int) ≤ _ ∧ _ ≤ (1 : Int) ↔ _ = (0 : Int) ∨ _ = (1 : Int)
  omega
theorem h_cut (N : Nat) : H_cut N Inv := by
  intro a μ hI
  obtain ⟨hA, hR, hS, hF⟩ := id hI
  have key : ∀ v0 v1 : Int64, μ.1 6 4 = 1 → μ.2 6 5 = v0 → μ.2 6 6 = v1 → M_RP_cut N a μ = some (if a = 0 then v0 else if a = 1 then v1 else -9223372036854775808, μ) := by
    intro v0 v1 h1 h2 h3
    rw [M_RP_cut, h1, if_neg (by decide), within01]
    show (if b01 (a = 0 ∨ a = 1) = 0 then _ else _) = _
    simp only [b01_0]
    by_cases h0 : a = 0
    · subst h0
      simp [h2]
    · by_cases h9 : a = 1
      · subst h9
        simp [h3]
      · simp [h0, h9]
  have keyM : ∀ v0 v1 : Int64, (μ.1 7 10 = 0 ∨ μ.1 7 10 = 1) → μ.2 7 14 = v0 → μ.2 7 15 = v1 → M_Mo_cut N a μ = some (if a = 0 then v0 else if a = 1 then v1 else -9223372036854775808, μ) := by
    intro v0 v1 h1 h2 h3
    have h4 : ¬ (2 : Int32) ≤ μ.1 7 10 := by rcases h1 with h1 | h1 <;> rw [h1] <;> decide
    rw [M_Mo_cut, if_neg h4, M_Mo_cut_19, if_neg h4, h2, h3]
    by_cases h0 : a = 0
    · simp [h0]
    · by_cases h9 : a = 1
      · subst h9
        simp
      · simp [h0, h9]
  rcases hF with ⟨f1, f2, f3, f4⟩ | ⟨f1, f2, f3, f4, f5, f6, f7, f8, f9⟩ | ⟨f1, f2, f3, f4, f5, f6⟩ | ⟨f1, f2, f3, f4⟩
  · exact ⟨_, μ, μ, by rw [M_RP_cut, if_pos f3], by rw [M_Mo_cut, if_pos (by rw [f1]; decide), M_Mo_cut_19, if_pos (by rw [f1]; decide)], hI⟩
  · exact ⟨_, μ, μ, key _ _ f6 f7 f8, keyM _ _ (Or.inl f1) rfl rfl, hI⟩
  · exact ⟨_, μ, μ, key _ _ f3 f4 f5, keyM _ _ (Or.inr f1) rfl rfl, hI⟩
  · exact ⟨_, μ, μ, by rw [M_RP_cut, if_pos f3], by rw [M_Mo_cut, if_pos (by rw [f1]; decide), M_Mo_cut_19, if_pos (by rw [f1]; decide)], hI⟩
theorem h_best (N : Nat) : H_best N Inv := by
  intro a μ hI
  obtain ⟨hA, hR, hS, hF⟩ := id hI
  rcases hF with ⟨f1, f2, f3, f4⟩ | ⟨f1, f2, ⟨n, hn, e1, e2⟩, f4, f5, f6, f7, f8, f9⟩ | ⟨f1, f2, f3, f4, f5, f6⟩ | ⟨f1, f2, f3, f4⟩
  · exact ⟨_, μ, μ, by rw [M_RP_best, if_pos f2], by rw [M_Mo_best, f1, if_neg (by decide)], hI⟩
  · have hr : M_RP_within N a.toInt64 0 ((nI n - 1).toInt64) = some (b01 (0 ≤ a.toInt ∧ a.toInt < n)) := by
      rw [s_within]
      refine congrArg some (b01_congr ?_)
      rw [Int64.le_iff_toInt_le, Int64.le_iff_toInt_le, i2l_toInt, i2l_toInt]
      have e9 : (nI n - 1).toInt = (n : Int) - 1 := pk_sub_toInt (a := n) (b := 1) (by omega) (by omega)
      rw [e9]
      show (0 : Int) ≤ _ ∧ _ ↔ _
      omega
    by_cases hin : 0 ≤ a.toInt ∧ a.toInt < n
    · obtain ⟨j, hj, rfl⟩ : ∃ j : Nat, j < n ∧ a = nI j := vp_in_of (vp_in_iff.mpr hin) (by omega)
      refine ⟨μ.1 27 j, μ, μ, ?_, ?_, hI⟩
      · rw [M_RP_best, f2, if_neg (by decide), e1, hr]
        show (if b01 _ = 0 then _ else _) = _
        rw [if_neg (by rw [b01_0]; exact fun h => h hin), ldI_n (by decide) (by decide) (by show j < 4; omega) (by decide)]
        rfl
      · rw [M_Mo_best, if_pos f1, e2, if_neg (nI_pos (by omega)), if_neg (nI_ge hj (by omega)), ldI_n (by decide) (by decide) (by show j < 4; omega) (by decide), f4 j (by omega)]
        rfl
    · refine ⟨-1, μ, μ, ?_, ?_, hI⟩
      · rw [M_RP_best, f2, if_neg (by decide), e1, hr]
        show (if b01 _ = 0 then _ else _) = _
        rw [if_pos (by rw [b01_0]; exact hin)]
      · rw [M_Mo_best, if_pos f1, e2]
        by_cases h0 : a < 0
        · rw [if_pos h0]
        · rw [if_neg h0, if_pos]
          rw [le_i _ _ (by omega)]
          rw [lt0] at h0
          omega
  · exact ⟨_, μ, μ, by rw [M_RP_best, if_pos f2], by rw [M_Mo_best, f1, if_neg (by decide)], hI⟩
  · exact ⟨_, μ, μ, by rw [M_RP_best, if_pos f2], by rw [M_Mo_best, f1, if_neg (by decide)], hI⟩
