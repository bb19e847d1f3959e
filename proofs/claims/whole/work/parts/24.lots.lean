/-! lot and amount. -/
theorem l2i_small {x : Int64} (h1 : -1000 ≤ x.toInt) (h2 : x.toInt ≤ 1000) : x.toInt32.toInt = x.toInt := by
  rw [Int64.toInt_toInt32, Int.bmod_def]
  split <;> omega
theorem h_lot (N : Nat) : H_lot N Inv := by
  intro st c μ hI
  obtain ⟨⟨n, hn, h1, h7, hs, hc, ha, g6, g7, g8, g9, g10⟩, hR, hS, hF⟩ := id hI
  by_cases h4 : n = 4
  · subst h4
    exact ⟨-1, μ, μ, by rw [M_RP_lot, h1, if_pos (by decide)], by rw [M_Mo_lot, h7, if_pos (by decide)], hI⟩
  · have e1 : ¬ (4 : Int32) ≤ nI n := nI_ge (a := n) (b := 4) (by omega) (by decide)
    have e2 : ¬ nI n = (4 : Int32) := fun q => h4 ((nI_eq (a := n) (b := 4) (by omega) (by decide)).mp q)
    by_cases hst : (0 : Int64) ≤ st.toInt64 ∧ st.toInt64 ≤ 9
    · by_cases hcc : (-1000 : Int64) ≤ c ∧ c ≤ 1000
      · have k1 : (upI μ.1 17 n st) 1 0 = nI n := by simp [upI, h1]
        refine ⟨nI n, (upI (upI μ.1 17 n st) 1 0 (nI (n + 1)), upJ μ.2 42 n c), (upI (upI (upI (upI (upI μ.1 17 n st) 1 0 (nI (n + 1))) 28 n st) 29 n c.toInt32) 7 0 (nI (n + 1)), upJ μ.2 42 n c), ?_, ?_, ?_⟩
        · rw [M_RP_lot, h1, if_neg e1, s_within, bs, if_neg (by rw [b01_0]; exact fun h => h hst), s_within, bs, if_neg (by rw [b01_0]; exact fun h => h hcc)]
          show (stI μ 17 (nI n) st).bind _ = _
          rw [stI_n (by decide) (by decide) (by show n < 4; omega) (by decide), bs, stJ_n (by decide) (by decide) (by show n < 4; omega) (by decide), bs]
          dsimp only
          rw [k1, nI_1]
          rfl
        · have m7 : (upI (upI μ.1 17 n st) 1 0 (nI (n + 1))) 7 0 = nI n := by simp [upI, h7]
          have m7' : (upI (upI (upI μ.1 17 n st) 1 0 (nI (n + 1))) 28 n st) 7 0 = nI n := by simp [upI, h7]
          have m7'' : (upI (upI (upI (upI μ.1 17 n st) 1 0 (nI (n + 1))) 28 n st) 29 n c.toInt32) 7 0 = nI n := by simp [upI, h7]
          rw [M_Mo_lot]
          dsimp only
          rw [if_neg (by rw [m7]; exact e2), s_isIn, bs, if_neg (by rw [b01_0]; exact fun h => h hst), s_isIn, bs, if_neg (by rw [b01_0]; exact fun h => h hcc), m7, stI_n (by decide) (by decide) (by show n < 4; omega) (by decide), bs]
          dsimp only
          rw [m7', stI_n (by decide) (by decide) (by show n < 4; omega) (by decide), bs]
          dsimp only
          rw [m7'', nI_1, pI, bs]
          have m8 : (upI (upI (upI (upI (upI μ.1 17 n st) 1 0 (nI (n + 1))) 28 n st) 29 n c.toInt32) 7 0 (nI (n + 1))) 7 0 = nI (n + 1) := by simp [upI]
          dsimp only
          rw [m8, nI_pred]
        · simp only [Int64.le_iff_toInt_le, i2l_toInt] at hst hcc
          have s1 : 0 ≤ st.toInt := hst.1
          have s2 : st.toInt ≤ 9 := hst.2
          have c1 : -1000 ≤ c.toInt := hcc.1
          have c2 : c.toInt ≤ 1000 := hcc.2
          have e9 : c.toInt32.toInt = c.toInt := l2i_small c1 c2
          have e10 : c = c.toInt32.toInt64 := by rw [← Int64.toInt_inj, i2l_toInt, e9]
          refine ⟨⟨n + 1, by omega, by simp [upI], by simp [upI], fun i hi => ?_, fun i hi => ?_, fun i hi w hw => ?_, fun w hw => ?_, fun i hi => ?_, ?_, fun i hi => ?_, ?_⟩, hR.of (by simp [upI]) (fun i => by simp [upI]) (fun k hk i => ?_), hS.of (by simp [upI]) (fun i => by simp [upI]) (fun i => by simp [upI]) (fun i => by simp [upJ]) (by simp [upJ]) (fun i => by simp [upI]) (fun i => by simp [upI]), hF.of (fun i => by simp [upI]) (by simp [upI]) (by simp [upI]) (by simp [upI]) (fun i => by simp [upI]) (fun i => by simp [upI]) (fun i => by simp [upJ]) (fun i => by simp [upJ])⟩
          · by_cases hin : i = n
            · subst hin
              have h9 : st = st ∧ 0 ≤ st.toInt ∧ st.toInt ≤ 9 ∧ (i + 1 ≤ i → st = 0) := ⟨rfl, s1, s2, fun h => by omega⟩
              simpa [upI] using h9
            · have := hs i hi
              simp [upI, hin]
              exact ⟨this.1, this.2.1, this.2.2.1, fun h => this.2.2.2 (by omega)⟩
          · by_cases hin : i = n
            · subst hin
              have h9 : c = c.toInt32.toInt64 ∧ -1000 ≤ c.toInt32.toInt ∧ c.toInt32.toInt ≤ 1000 ∧ (i + 1 ≤ i → c.toInt32 = 0) := ⟨e10, by rw [e9]; exact c1, by rw [e9]; exact c2, fun h => by omega⟩
              simpa [upI, upJ] using h9
            · have := hc i hi
              simp [upI, upJ, hin]
              exact ⟨this.1, this.2.1, this.2.2.1, fun h => this.2.2.2 (by omega)⟩
          · have := ha i hi w hw
            have hk : ¬ 47 + w = 42 := by omega
            simp [upI, upJ, hk]
            exact ⟨this.1, this.2.1, this.2.2.1, fun h => this.2.2.2 (by omega)⟩
          · have hk : ¬ 47 + w = 42 := by omega
            simp [upJ, hk]
            exact g6 w hw
          · simp [upJ]
            exact g7 i hi
          · simp [upJ]
            exact g8
          · simp [upJ]
            exact g9 i hi
          · simp [upJ]
            exact g10
          · have : ¬ k = 17 ∧ ¬ k = 1 ∧ ¬ k = 28 ∧ ¬ k = 29 ∧ ¬ k = 7 := by omega
            simp [upI, this]
      · exact ⟨-1, μ, μ, by rw [M_RP_lot, h1, if_neg e1, s_within, bs, if_neg (by rw [b01_0]; exact fun h => h hst), s_within, bs, if_pos (by rw [b01_0]; exact hcc)], by rw [M_Mo_lot, h7, if_neg e2, s_isIn, bs, if_neg (by rw [b01_0]; exact fun h => h hst), s_isIn, bs, if_pos (by rw [b01_0]; exact hcc)], hI⟩
    · exact ⟨-1, μ, μ, by rw [M_RP_lot, h1, if_neg e1, s_within, bs, if_pos (by rw [b01_0]; exact hst)], by rw [M_Mo_lot, h7, if_neg e2, s_isIn, bs, if_pos (by rw [b01_0]; exact hst)], hI⟩
theorem h_amount (N : Nat) : H_amount N Inv := by
  intro a w v μ hI
  obtain ⟨⟨n, hn, h1, h7, hs, hc, ha, g6, g7, g8, g9, g10⟩, hR, hS, hF⟩ := id hI
  have hr : M_RP_within N a.toInt64 0 ((μ.1 1 0 - 1).toInt64) = some (b01 (0 ≤ a.toInt ∧ a.toInt < n)) := by
    rw [h1, s_within]
    refine congrArg some (b01_congr ?_)
    rw [Int64.le_iff_toInt_le, Int64.le_iff_toInt_le, i2l_toInt, i2l_toInt]
    have e9 : (nI n - 1).toInt = (n : Int) - 1 := pk_sub_toInt (a := n) (b := 1) (by omega) (by omega)
    rw [e9]
    show (0 : Int) ≤ _ ∧ _ ↔ _
    omega
  have hM : ∀ {X Y : Option (Int32 × Mem)}, ¬ (0 ≤ a.toInt ∧ a.toInt < n) → (if a < 0 then X else if nI n ≤ a then X else Y) = X := by
    intro X Y hno
    by_cases h0 : a < 0
    · rw [if_pos h0]
    · rw [if_neg h0, if_pos]
      rw [le_i _ _ (by omega)]
      rw [lt0] at h0
      omega
  by_cases hin : 0 ≤ a.toInt ∧ a.toInt < n
  · obtain ⟨j, hj, rfl⟩ : ∃ j : Nat, j < n ∧ a = nI j := vp_in_of (vp_in_iff.mpr hin) (by omega)
    have hP : ∀ {X Y : Option (Int32 × Mem)}, (if nI j < 0 then X else if nI n ≤ nI j then X else Y) = Y := by
      intro X Y
      rw [if_neg (nI_pos (by omega)), if_neg (nI_ge hj (by omega))]
    by_cases hw : 0 ≤ w.toInt ∧ w.toInt < 5
    · by_cases hv : (-100 : Int64) ≤ v.toInt64 ∧ v.toInt64 ≤ 100
      · obtain ⟨u, hu, rfl⟩ : ∃ j : Nat, j < 5 ∧ w = nI j := vp_in_of (vp_in_iff.mpr hw) (by decide)
        refine ⟨1, (μ.1, upJ μ.2 (47 + u) j v.toInt64), (upI μ.1 30 (5 * j + u) v, upJ μ.2 (47 + u) j v.toInt64), ?_, ?_, ?_⟩
        · rw [M_RP_amount, hr, bs, if_neg (by rw [b01_0]; exact fun h => h hin), s_isWhat, bs, if_neg (by rw [b01_0]; exact fun h => h hw), s_within, bs, if_neg (by rw [b01_0]; exact fun h => h hv), ldA_n (by decide) (by decide) (by show u < 7; omega) (by decide), bs]
          have eo : outB 8 + u = 47 + u := rfl
          have el : lnJ (47 + u) = 5 := by unfold lnJ; repeat (first | rw [if_neg (by omega)] | rw [if_pos (by omega)])
          rw [eo, stJ_n (by omega) (by omega) (by rw [el]; omega) (by rw [el]; decide), bs, reZ_1]
        · have e5 : ((5 : Int32) * nI j) + nI u = nI (5 * j + u) := by
            have : (5 : Int32) * nI j = nI (5 * j) := pk_mul 5 j
            rw [this, nI_add]
          rw [M_Mo_amount]
          dsimp only
          rw [h7, hP, s_isWhatM, bs, if_neg (by rw [b01_0]; exact fun h => h hw), s_isIn, bs, if_neg (by rw [b01_0]; exact fun h => h hv), e5, stI_n (by decide) (by decide) (by show 5 * j + u < 20; omega) (by decide), bs, reZ_1]
        · simp only [Int64.le_iff_toInt_le, i2l_toInt] at hv
          have v1 : -100 ≤ v.toInt := hv.1
          have v2 : v.toInt ≤ 100 := hv.2
          refine ⟨⟨n, hn, by simp [upI, h1], by simp [upI, h7], fun i hi => ?_, fun i hi => ?_, fun i hi x hx => ?_, fun x hx => ?_, fun i hi => ?_, ?_, fun i hi => ?_, ?_⟩, hR.of (by simp [upI]) (fun i => by simp [upI]) (fun k hk i => ?_), hS.of (by simp [upI]) (fun i => by simp [upI]) (fun i => by simp [upI]) (fun i => ?_) ?_ (fun i => by simp [upI]) (fun i => by simp [upI]), hF.of (fun i => by simp [upI]) (by simp [upI]) (by simp [upI]) (by simp [upI]) (fun i => by simp [upI]) (fun i => by simp [upI]) (fun i => ?_) (fun i => ?_)⟩
          · simp [upI]
            exact hs i hi
          · have hk : ¬ 42 = 47 + u := by omega
            simp [upI, upJ, hk]
            exact hc i hi
          · by_cases hq : i = j ∧ x = u
            · obtain ⟨rfl, rfl⟩ := hq
              simp [upI, upJ]
              exact ⟨v1, v2, fun h => by omega⟩
            · have k1 : ¬ (5 * i + x = 5 * j + u) := by omega
              have k2 : ¬ (47 + x = 47 + u ∧ i = j) := by omega
              simp only [upI, upJ]
              rw [if_neg k2, if_neg (fun h => k1 h.2)]
              exact ha i hi x hx
          · have k2 : ¬ (47 + x = 47 + u ∧ 4 = j) := by omega
            simp only [upJ]
            rw [if_neg k2]
            exact g6 x hx
          · have k2 : ¬ (52 = 47 + u ∧ i = j) := by omega
            simp only [upJ]
            rw [if_neg k2]
            exact g7 i hi
          · have k2 : ¬ (52 = 47 + u ∧ 4 = j) := by omega
            simp only [upJ]
            rw [if_neg k2]
            exact g8
          · have k2 : ¬ (53 = 47 + u ∧ i = j) := by omega
            simp only [upJ]
            rw [if_neg k2]
            exact g9 i hi
          · have k2 : ¬ (53 = 47 + u ∧ 4 = j) := by omega
            simp only [upJ]
            rw [if_neg k2]
            exact g10
          · have : ¬ k = 30 := by omega
            simp [upI, this]
          · have : ¬ (84 = 47 + u ∧ i = j) := by omega
            simp only [upJ]
            rw [if_neg this]
          · have : ¬ (45 = 47 + u ∧ 4 = j) := by omega
            simp only [upJ]
            rw [if_neg this]
          · have : ¬ (6 = 47 + u ∧ i = j) := by omega
            simp only [upJ]
            rw [if_neg this]
          · have : ¬ (7 = 47 + u ∧ i = j) := by omega
            simp only [upJ]
            rw [if_neg this]
      · exact ⟨0, μ, μ, by rw [M_RP_amount, hr, bs, if_neg (by rw [b01_0]; exact fun h => h hin), s_isWhat, bs, if_neg (by rw [b01_0]; exact fun h => h hw), s_within, bs, if_pos (by rw [b01_0]; exact hv), reZ_0], by rw [M_Mo_amount, h7, hP, s_isWhatM, bs, if_neg (by rw [b01_0]; exact fun h => h hw), s_isIn, bs, if_pos (by rw [b01_0]; exact hv), reZ_0], hI⟩
    · exact ⟨0, μ, μ, by rw [M_RP_amount, hr, bs, if_neg (by rw [b01_0]; exact fun h => h hin), s_isWhat, bs, if_pos (by rw [b01_0]; exact hw), reZ_0], by rw [M_Mo_amount, h7, hP, s_isWhatM, bs, if_pos (by rw [b01_0]; exact hw), reZ_0], hI⟩
  · exact ⟨0, μ, μ, by rw [M_RP_amount, hr, bs, if_pos (by rw [b01_0]; exact hin), reZ_0], by rw [M_Mo_amount, h7, hM hin, reZ_0], hI⟩
