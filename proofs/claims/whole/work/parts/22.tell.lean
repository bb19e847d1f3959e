/-! The calls that count clashes, and those that tell rules. -/
def pop8 (S : Nat) : Nat := S % 2 + S / 2 % 2 + S / 4 % 2 + S / 8 % 2 + S / 16 % 2 + S / 32 % 2 + S / 64 % 2 + S / 128 % 2
theorem bitCount8_0 : ∀ S, S < 256 → M_In_bitCount 0 (nI S) = some (nI (pop8 S)) := by decide +kernel
theorem s_bitCount (N : Nat) {S : Nat} (h : S < 256) : M_In_bitCount N (nI S) = some (nI (pop8 S)) := bitCount8_0 S h
theorem sizeOf8_0 : ∀ S, S < 256 → M_Mo_sizeOf_4 0 9 (nI S) 0 0 = some (nI (pop8 S)) := by decide +kernel
theorem sizeOf_fuel (N k : Nat) (x : Int32) : M_Mo_sizeOf_4 N (k + 9) x 0 0 = M_Mo_sizeOf_4 0 9 x 0 0 := by
  simp only [M_Mo_sizeOf_4, nm]
  rfl
theorem s_sizeOf {N S : Nat} (hN : 9 ≤ N) (h : S < 256) : M_Mo_sizeOf N (nI S) = some (nI (pop8 S)) := by
  obtain ⟨k, rfl⟩ : ∃ k, N = k + 9 := ⟨N - 9, by omega⟩
  rw [M_Mo_sizeOf, sizeOf_fuel]
  exact sizeOf8_0 S h
theorem bit8 : ∀ S, S < 256 → ∀ r, r < 8 → ((nI S >>> (nI r &&& 31)) &&& 1) = if S.testBit r then 1 else 0 := by decide +kernel
theorem s_hasBit (N : Nat) {S r : Nat} (hS : S < 256) (hr : r < 8) : M_RP_hasBit N (nI S) (nI r) = some (if S.testBit r then 1 else 0) := by
  unfold M_RP_hasBit
  rw [bit8 S hS r hr]
  by_cases h : S.testBit r = true <;> simp [h, okZ]
theorem or8 : ∀ S, S < 256 → ∀ r, r < 8 → (nI S ||| ((1 : Int32) <<< (nI r &&& 31))) = nI (S ||| 2 ^ r) ∧ S ||| 2 ^ r < 256 := by decide +kernel
theorem xor8 : ∀ S, S < 256 → ∀ r, r < 8 → (nI S ^^^ ((1 : Int32) <<< (nI r &&& 31))) = nI (S ^^^ 2 ^ r) ∧ S ^^^ 2 ^ r < 256 := by decide +kernel
theorem nI_z {S : Nat} (h0 : 0 < S) (h : S < 256) : ¬ nI S = 0 := nI_ne0 h0 (by omega)
theorem h_clashes {N : Nat} (hN : 9 ≤ N) : H_clashes N Inv := by
  intro μ hI
  obtain ⟨hA, hR, hS, hF⟩ := id hI
  rcases hF with ⟨f1, f2, f3, f4⟩ | ⟨f1, f2, f3, f4, f5, f6, f7, f8, f9⟩ | ⟨f1, f2, f3, f4, f5, f6⟩ | ⟨f1, f2, f3, S, s0, s1, s2, s3⟩
  · exact ⟨_, μ, μ, by rw [M_RP_clashes, if_pos f4], by rw [M_Mo_clashes, f1, if_neg (by decide)], hI⟩
  · exact ⟨_, μ, μ, by rw [M_RP_clashes, if_pos f9], by rw [M_Mo_clashes, f1, if_neg (by decide)], hI⟩
  · exact ⟨_, μ, μ, by rw [M_RP_clashes, if_pos f6], by rw [M_Mo_clashes, f1, if_neg (by decide)], hI⟩
  · refine ⟨nI (pop8 S), μ, μ, ?_, ?_, hI⟩
    · rw [M_RP_clashes, s2, if_neg (nI_z s0 s1), s_bitCount N s1]
      rfl
    · rw [M_Mo_clashes, if_pos f1, s3, s_sizeOf hN s1]
      rfl
theorem within07 (N : Nat) (x : Int32) : M_RP_within N x.toInt64 0 7 = some (b01 (0 ≤ x.toInt ∧ x.toInt < 8)) := by
  rw [s_within]
  refine congrArg some (b01_congr ?_)
  rw [Int64.le_iff_toInt_le, Int64.le_iff_toInt_le, i2l_toInt]
  show (0 : Int) ≤ _ ∧ _ ≤ (7 : Int) ↔ _
  omega
theorem h_clash (N : Nat) : H_clash N Inv := by
  intro a μ hI
  obtain ⟨hA, hR, hS, hF⟩ := id hI
  have key : ∀ S : Nat, S < 256 → μ.1 6 7 = nI S → M_RP_clash N a μ = some (if 0 ≤ a.toInt ∧ a.toInt < 8 ∧ S.testBit a.toInt.toNat = true then 1 else 0, μ) := by
    intro S hS e
    rw [M_RP_clash, within07]
    show (if b01 _ = 0 then _ else _) = _
    by_cases hin : 0 ≤ a.toInt ∧ a.toInt < 8
    · obtain ⟨j, hj, rfl⟩ : ∃ j : Nat, j < 8 ∧ a = nI j := vp_in_of (vp_in_iff.mpr hin) (by decide)
      rw [if_neg (by rw [b01_0]; exact fun h => h hin), e, s_hasBit N hS hj]
      show (if (if S.testBit j then (1 : Int32) else 0) = 0 then _ else _) = _
      rw [nI_toInt (by omega)]
      by_cases hb : S.testBit j = true
      · simp [hb, reZ]; omega
      · simp [hb, reZ]
    · have hno : ¬ (0 ≤ a.toInt ∧ a.toInt < 8 ∧ S.testBit a.toInt.toNat = true) := fun h => hin ⟨h.1, h.2.1⟩
      rw [if_pos (by rw [b01_0]; exact hin), reZ_0, if_neg hno]
  rcases hF with ⟨f1, f2, f3, f4⟩ | ⟨f1, f2, f3, f4, f5, f6, f7, f8, f9⟩ | ⟨f1, f2, f3, f4, f5, f6⟩ | ⟨f1, f2, f3, S, s0, s1, s2, s3⟩
  · exact ⟨0, μ, μ, (key 0 (by decide) f4).trans (by simp), by rw [M_Mo_clash, f1, if_neg (by decide), reZ_0], hI⟩
  · exact ⟨0, μ, μ, (key 0 (by decide) f9).trans (by simp), by rw [M_Mo_clash, f1, if_neg (by decide), reZ_0], hI⟩
  · exact ⟨0, μ, μ, (key 0 (by decide) f6).trans (by simp), by rw [M_Mo_clash, f1, if_neg (by decide), reZ_0], hI⟩
  · refine ⟨_, μ, μ, key S s1 s2, ?_, hI⟩
    rw [M_Mo_clash, if_pos f1, s3]
    by_cases hin : 0 ≤ a.toInt ∧ a.toInt < 8
    · obtain ⟨j, hj, rfl⟩ : ∃ j : Nat, j < 8 ∧ a = nI j := vp_in_of (vp_in_iff.mpr hin) (by decide)
      have h8 : ¬ (8 : Int32) ≤ nI j := nI_ge (a := j) (b := 8) hj (by decide)
      rw [if_neg (nI_pos (by omega)), if_neg h8, bit8 S s1 j hj, nI_toInt (by omega)]
      by_cases hb : S.testBit j = true
      · simp [hb, reZ]; omega
      · simp [hb, reZ]
    · have hno : ¬ (0 ≤ a.toInt ∧ a.toInt < 8 ∧ S.testBit a.toInt.toNat = true) := fun h => hin ⟨h.1, h.2.1⟩
      rw [if_neg hno]
      by_cases h0 : a < 0
      · rw [if_pos h0, reZ_0]
      · rw [if_neg h0, if_pos, reZ_0]
        rw [lt0] at h0
        rw [Int32.le_iff_toInt_le]
        show (8 : Int) ≤ _
        omega
theorem InvA.of {μ μ' : Mem} (h : InvA μ) (e1 : μ'.1 1 0 = μ.1 1 0) (e7 : μ'.1 7 0 = μ.1 7 0) (c17 : ∀ i, μ'.1 17 i = μ.1 17 i) (c28 : ∀ i, μ'.1 28 i = μ.1 28 i) (c29 : ∀ i, μ'.1 29 i = μ.1 29 i) (c30 : ∀ i, μ'.1 30 i = μ.1 30 i) (j42 : ∀ i, μ'.2 42 i = μ.2 42 i) (jf : ∀ k, 47 ≤ k → k < 54 → ∀ i, μ'.2 k i = μ.2 k i) : InvA μ' := by
  obtain ⟨n, h0, h1, h2, h3, h4, h5, h6, h7, h8, h9, h10⟩ := h
  refine ⟨n, h0, by rw [e1, h1], by rw [e7, h2], fun i hi => by rw [c28, c17]; exact h3 i hi, fun i hi => by rw [j42, c29]; exact h4 i hi, fun i hi w hw => by rw [jf _ (by omega) (by omega), c30]; exact h5 i hi w hw, fun w hw => by rw [jf _ (by omega) (by omega)]; exact h6 w hw, fun i hi => by rw [jf _ (by omega) (by omega)]; exact h7 i hi, by rw [jf _ (by omega) (by omega)]; exact h8, fun i hi => by rw [jf _ (by omega) (by omega)]; exact h9 i hi, by rw [jf _ (by omega) (by omega)]; exact h10⟩
theorem RuleOK.of {μ μ' : Mem} {r : Nat} (h : RuleOK μ r) (c : ∀ k, (18 ≤ k ∧ k < 23) ∨ (31 ≤ k ∧ k < 36) → μ'.1 k r = μ.1 k r) : RuleOK μ' r := by
  have e18 := c 18 (by omega)
  have e19 := c 19 (by omega)
  have e20 := c 20 (by omega)
  have e21 := c 21 (by omega)
  have e22 := c 22 (by omega)
  have e31 := c 31 (by omega)
  have e32 := c 32 (by omega)
  have e33 := c 33 (by omega)
  have e34 := c 34 (by omega)
  have e35 := c 35 (by omega)
  unfold RuleOK
  rw [e18, e19, e20, e21, e22, e31, e32, e33, e34, e35]
  exact h
theorem InvR.of {μ μ' : Mem} (h : InvR μ) (e2 : μ'.1 2 0 = μ.1 2 0) (c14 : ∀ i, μ'.1 14 i = μ.1 14 i) (c : ∀ k, (18 ≤ k ∧ k < 23) ∨ (31 ≤ k ∧ k < 36) → ∀ i, μ'.1 k i = μ.1 k i) : InvR μ' := by
  obtain ⟨T, h0, h1, h2, h3⟩ := h
  exact ⟨T, h0, by rw [e2, h1], fun r hr => by rw [c14]; exact h2 r hr, fun r hr ht => (h3 r hr ht).of (fun k hk => c k hk r)⟩
theorem InvS.of' {μ μ' : Mem} (h : InvS μ) (e : μ'.1 4 8 = μ.1 4 8) (c24 : ∀ i, μ'.1 24 i = μ.1 24 i) (c13 : ∀ i, μ'.1 13 i = μ.1 13 i) (j84 : ∀ i, μ'.2 84 i = μ.2 84 i) (j45 : μ'.2 45 4 = μ.2 45 4) (hX : InvX μ') : InvS μ' := by
  obtain ⟨⟨bc, h0, h1, h2, h3⟩, h4, h5, -⟩ := h
  refine ⟨⟨bc, h0, by rw [e, h1], fun i hi => by rw [c24]; exact h2 i hi, fun k hk => ?_⟩, fun j hj => by rw [j84]; exact h4 j hj, by rw [j45, h5], hX⟩
  rcases h3 k hk with h | ⟨i, hi, h⟩
  · exact Or.inl (by rw [c13, h])
  · exact Or.inr ⟨i, hi, by rw [c24, h]⟩
theorem InvS.of {μ μ' : Mem} (h : InvS μ) (e : μ'.1 4 8 = μ.1 4 8) (c24 : ∀ i, μ'.1 24 i = μ.1 24 i) (c13 : ∀ i, μ'.1 13 i = μ.1 13 i) (j84 : ∀ i, μ'.2 84 i = μ.2 84 i) (j45 : μ'.2 45 4 = μ.2 45 4) (c34 : ∀ i, μ'.1 34 i = μ.1 34 i) (c35 : ∀ i, μ'.1 35 i = μ.1 35 i) : InvS μ' :=
  h.of' e c24 c13 j84 j45 (fun r hr => by rw [c34, c35]; exact h.2.2.2 r hr)
theorem InvF.of {μ μ' : Mem} (h : InvF μ) (i6 : ∀ i, μ'.1 6 i = μ.1 6 i) (e1 : μ'.1 7 10 = μ.1 7 10) (e2 : μ'.1 7 11 = μ.1 7 11) (e3 : μ'.1 7 16 = μ.1 7 16) (c27 : ∀ i, μ'.1 27 i = μ.1 27 i) (c36 : ∀ i, μ'.1 36 i = μ.1 36 i) (j6 : ∀ i, μ'.2 6 i = μ.2 6 i) (j7 : ∀ i, μ'.2 7 i = μ.2 7 i) : InvF μ' := by
  unfold InvF
  simp only [i6, e1, e2, e3, c27, c36, j6, j7]
  exact h
