/-! PURE: CutSearch.replaced and meets. -/
theorem passed8 : ∀ o, o < 16 → ∀ j, j < 4 → ∀ c, c < 5 → (nI o &&& (nI (2 ^ j - 1) ^^^ (((1 : Int32) <<< (nI c &&& 31)) - 1))) = nI (o &&& ((2 ^ j - 1) ^^^ (2 ^ c - 1))) ∧ o &&& ((2 ^ j - 1) ^^^ (2 ^ c - 1)) < 16 := by decide +kernel
theorem before8 : ∀ j, j < 4 → ((1 : Int32) <<< (nI j &&& 31)) - 1 = nI (2 ^ j - 1) := by decide +kernel
theorem or5 : ∀ o, o < 16 → ∀ c, c < 5 → o ||| 2 ^ c < 32 := by decide +kernel
theorem pop16 : ∀ x, x < 16 → pop8 x < 8 := by decide +kernel
theorem sp_of {o j c : Nat} : sp o j c = if (pop8 (o &&& ((2 ^ j - 1) ^^^ (2 ^ c - 1)))).testBit 0 = true then -1 else 1 := by
  unfold sp
  rw [Nat.testBit_zero]
  simp
theorem rep_59 {N n k1 o j c full : Nat} {f t : Nat → Int} {acc : Int} {y : Int64} {μ : Mem} {K : Nat → Int32 → Int32 → Int64 → Int32 → Int32 → Mem → Option (Int64 × Mem)} (ho : o < 16) (hj : j < 4) (hc : c < 5) (h0 : 70 ≤ k1) (h0' : k1 < 75) (hy : y = JJ (tw t c)) (hf : μ.2 k1 (o ||| 2 ^ c) = JJ (f (o ||| 2 ^ c))) :
    M_CS_replaced_59 N K k1 (nI o) (nI full) (JJ acc) (nI (2 ^ j - 1)) (nI c) y μ = K k1 (nI o) (nI full) (JJ (acc + rt f t o j c)) (nI (2 ^ j - 1)) (nI (c + 1)) μ := by
  have l0 : lnJ k1 = 32 := by
    have := lnJ_min (d := k1 - 70) (by omega)
    rw [show 70 + (k1 - 70) = k1 by omega] at this
    exact this
  obtain ⟨e1, e2⟩ := passed8 o ho j hj c hc
  rw [M_CS_replaced_59, nm_eq, e1, (or8 o (by omega) c (by omega)).1, ldJ_n (by omega) (by omega) (by rw [l0]; exact or5 o ho c hc) (by rw [l0]; decide), bs, nm_eq, s_bitCount N (by omega), bs, show (0 : Int32) = nI 0 from nI_0.symm, s_hasBit' N (by have := pop16 _ e2; omega) (by decide), bs, hf, hy, JJ_mul]
  have hs := sp_of (o := o) (j := j) (c := c)
  by_cases h : (pop8 (o &&& ((2 ^ j - 1) ^^^ (2 ^ c - 1)))).testBit 0 = true
  · rw [if_neg (by rw [nI_0, b01_0]; exact fun q => q h), M_CS_replaced_109, nm_eq, JJ_neg, JJ_add, nI_1]
    unfold rt
    rw [hs, if_pos h, Int.neg_mul, Int.one_mul]
  · rw [if_pos (by rw [nI_0, b01_0]; exact h), M_CS_replaced_109, nm_eq, JJ_add, nI_1]
    unfold rt
    rw [hs, if_neg h, Int.one_mul]
theorem rep_step {N n k1 o j c full : Nat} {f : Nat → Int} {acc : Int} {μ : Mem} (ho : o < 16) (hj : j < 4) (hc : c < 5) (hfu : full < 16) (h0 : 70 ≤ k1) (h0' : k1 < 75) (hf : ∀ c, c < 5 → (c = 4 ∨ full.testBit c = true) → μ.2 k1 (o ||| 2 ^ c) = JJ (f (o ||| 2 ^ c))) :
    M_CS_replaced_13 N (n + 1) k1 (nI o) (nI full) (JJ acc) (nI (2 ^ j - 1)) (nI c) μ = M_CS_replaced_13 N n k1 (nI o) (nI full) (JJ (acc + rt f (tF μ full) o j c)) (nI (2 ^ j - 1)) (nI (c + 1)) μ := by
  have h5 : ¬ (5 : Int32) ≤ nI c := nI_ge (a := c) (b := 5) hc (by decide)
  rw [M_CS_replaced_13, if_neg h5]
  by_cases h4 : c = 4
  · subst h4
    rw [if_pos (by decide), M_CS_replaced_38, if_pos (by decide)]
    exact rep_59 (n := n) ho hj hc h0 h0' rfl (hf 4 hc (.inl rfl))
  · have hn4 : ¬ nI c = 4 := fun e => h4 ((nI_eq (by omega) (by decide)).mp (show nI c = nI 4 from e))
    rw [if_neg hn4, s_hasBit' N (by omega) (by omega), bs]
    by_cases hb : full.testBit c = true
    · rw [if_neg (by rw [b01_0]; exact fun q => q hb), M_CS_replaced_38, if_neg hn4, ldI_n (by decide) (by decide) (by show c < 4; omega) (by decide), bs]
      refine rep_59 (n := n) ho hj hc h0 h0' ?_ (hf c hc (.inr hb))
      unfold tw tF
      rw [if_neg h4, if_pos hb, i2l_J]
      rfl
    · rw [if_pos (by rw [b01_0]; exact hb), nI_1]
      have : rt f (tF μ full) o j c = 0 := by
        unfold rt tw tF
        rw [if_neg h4, if_neg hb, Int.zero_mul, Int.mul_zero]
      rw [this, Int.add_zero]
theorem s_replaced {N k1 o j full : Nat} {f : Nat → Int} {μ : Mem} (hN : 6 ≤ N) (ho : o < 16) (hj : j < 4) (hfu : full < 16) (h0 : 70 ≤ k1) (h0' : k1 < 75) (hf : ∀ c, c < 5 → (c = 4 ∨ full.testBit c = true) → μ.2 k1 (o ||| 2 ^ c) = JJ (f (o ||| 2 ^ c))) :
    M_CS_replaced N k1 (nI o) (nI j) (nI full) μ = some (JJ (rp f (tF μ full) o j), μ) := by
  obtain ⟨n, rfl⟩ : ∃ n, N = n + 6 := ⟨N - 6, by omega⟩
  rw [M_CS_replaced, nm_eq, before8 j hj]
  show M_CS_replaced_13 (n + 6) (n + 5 + 1) k1 (nI o) (nI full) (JJ 0) (nI (2 ^ j - 1)) (nI 0) μ = _
  rw [rep_step ho hj (by decide) hfu h0 h0' hf, show n + 5 = n + 4 + 1 from rfl, rep_step ho hj (by decide) hfu h0 h0' hf, show n + 4 = n + 3 + 1 from rfl, rep_step ho hj (by decide) hfu h0 h0' hf, show n + 3 = n + 2 + 1 from rfl, rep_step ho hj (by decide) hfu h0 h0' hf, show n + 2 = n + 1 + 1 from rfl, rep_step ho hj (by decide) hfu h0 h0' hf, M_CS_replaced_13, if_pos (by decide)]
  rfl
theorem rp_bnd {f t : Nat → Int} {P Q : Int} (hP : 0 ≤ P) {o j : Nat} (ho : o < 16) (hf : ∀ G, G < 16 → bnd P (f G)) (hg : ∀ G, 16 ≤ G → G < 32 → bnd Q (f G)) (ht : ∀ c, c < 4 → bnd 9 (t c)) : bnd (36 * P + Q) (rp f t o j) := by
  have hs : ∀ c, sp o j c = 1 ∨ sp o j c = -1 := fun c => by
    unfold sp
    by_cases h : pop8 (o &&& ((2 ^ j - 1) ^^^ (2 ^ c - 1))) % 2 = 1
    · exact .inr (if_pos h)
    · exact .inl (if_neg h)
  have hl : ∀ c, c < 4 → bnd (9 * P) (rt f t o j c) := fun c hc => by
    have h1 := bd_mul (ht c hc) (hf (o ||| 2 ^ c) (by exact Nat.or_lt_two_pow (n := 4) ho (Nat.pow_lt_pow_right (by omega) hc)))
    unfold rt tw
    rw [if_neg (by omega)]
    unfold bnd at h1 ⊢
    rcases hs c with e | e <;> rw [e] <;> omega
  have h4 : bnd Q (rt f t o j 4) := by
    have h1 := hg (o ||| 2 ^ 4) (by exact Nat.le_trans (by decide) (Nat.right_le_or)) (or5 o ho 4 (by omega))
    unfold rt tw
    rw [if_pos rfl]
    unfold bnd at h1 ⊢
    rcases hs 4 with e | e <;> rw [e] <;> omega
  have a0 := hl 0 (by omega)
  have a1 := hl 1 (by omega)
  have a2 := hl 2 (by omega)
  have a3 := hl 3 (by omega)
  unfold rp
  unfold bnd at *
  omega
theorem xor4 : ∀ F, F < 16 → ∀ j, j < 4 → F.testBit j = true → F ^^^ 2 ^ j < 16 := by decide +kernel
theorem meets_loop {N k1 F full : Nat} {f : Nat → Int} {μ0 : Mem} (hN : 6 ≤ N) (hF : F < 16) (hfu : full < 16) (h0 : 70 ≤ k1) (h0' : k1 < 75) (hst : ∀ j, j < 4 → 0 ≤ stk μ0 j ∧ stk μ0 j ≤ 9)
    (hf : ∀ j, j < 4 → F.testBit j = true → ∀ c, c < 5 → (c = 4 ∨ full.testBit c = true) → μ0.2 k1 ((F ^^^ 2 ^ j) ||| 2 ^ c) = JJ (f ((F ^^^ 2 ^ j) ||| 2 ^ c))) (b4 : bnd 100000000000000 (f F))
    (bq : ∀ j, j < 4 → F.testBit j = true → bnd 1000000000000000000 (rp f (tF μ0 full) (F ^^^ 2 ^ j) j)) :
    ∀ (k n : Nat) (μ : Mem), k ≤ 4 → μ.1 = μ0.1 → (∀ a b, a ≠ 43 → μ.2 a b = μ0.2 a b) → μ.2 43 4 = JJ (pt f (tF μ0 full) F 4) → (∀ i, i < 4 - k → μ.2 43 i = JJ (pt f (tF μ0 full) F i) ∧ 0 ≤ pt f (tF μ0 full) F i ∧ pt f (tF μ0 full) F i ≤ stk μ0 i * pt f (tF μ0 full) F 4) →
      ∃ fl μ', M_CS_meets_36 N (n + k + 1) k1 (nI F) (nI full) (JJ (sgz (f F))) (JJ (pt f (tF μ0 full) F 4)) (nI (4 - k)) μ = some (fl, μ') ∧ μ'.1 = μ0.1 ∧ (∀ a b, a ≠ 43 → μ'.2 a b = μ0.2 a b) ∧
        ((fl = 0 ∧ ¬ ∀ i, i < 4 → 0 ≤ pt f (tF μ0 full) F i ∧ pt f (tF μ0 full) F i ≤ stk μ0 i * pt f (tF μ0 full) F 4) ∨ (fl = 1 ∧ (∀ i, i < 4 → 0 ≤ pt f (tF μ0 full) F i ∧ pt f (tF μ0 full) F i ≤ stk μ0 i * pt f (tF μ0 full) F 4) ∧ ∀ i, i < 5 → μ'.2 43 i = JJ (pt f (tF μ0 full) F i))) := by
  intro k
  have p4 : 0 ≤ pt f (tF μ0 full) F 4 ∧ pt f (tF μ0 full) F 4 ≤ 100000000000000 := by
    rw [pt_4]
    unfold sgz
    unfold bnd at b4
    by_cases q : f F < 0
    · rw [if_pos q]; omega
    · rw [if_neg q]; omega
  induction k with
  | zero =>
    intro n μ _ e1 e2 e3 e4
    rw [M_CS_meets_36, if_pos (by decide), reZ_1]
    refine ⟨1, μ, rfl, e1, e2, .inr ⟨rfl, fun i hi => (e4 i (by omega)).2, fun i hi => ?_⟩⟩
    by_cases h : i = 4
    · rw [h]; exact e3
    · exact (e4 i (by omega)).1
  | succ k ih =>
    intro n μ hk e1 e2 e3 e4
    obtain ⟨j, hj⟩ : ∃ j, j = 4 - (k + 1) := ⟨_, rfl⟩
    have hj4 : j < 4 := by omega
    rw [← hj] at e4 ⊢
    have hall := hst j hj4
    have mb : 0 ≤ stk μ0 j * pt f (tF μ0 full) F 4 ∧ stk μ0 j * pt f (tF μ0 full) F 4 ≤ 900000000000000 := by
      have := mul_bd (a := stk μ0 j) (b := pt f (tF μ0 full) F 4) (A := 9) (B := 100000000000000) (by omega) (by omega) (by omega) (by omega)
      exact ⟨Int.mul_nonneg hall.1 p4.1, by omega⟩
    have e17 : (μ.1 17 j).toInt64 = JJ (stk μ0 j) := by rw [e1, i2l_J]; rfl
    have h4n : ¬ (4 : Int32) ≤ nI j := nI_ge (a := j) (b := 4) hj4 (by decide)
    rw [show n + (k + 1) + 1 = (n + k + 1) + 1 by omega, M_CS_meets_36, if_neg h4n, ldI_n (by decide) (by decide) (by show j < 4; omega) (by decide), bs, nm_eq, s_hasBit' N (by omega) (by omega), bs, e17, JJ_mul]
    have hn : j + 1 = 4 - k := by omega
    -- a value is laid, and the loop goes on
    have go : ∀ (v : Int64), v = JJ (pt f (tF μ0 full) F j) → 0 ≤ pt f (tF μ0 full) F j → pt f (tF μ0 full) F j ≤ stk μ0 j * pt f (tF μ0 full) F 4 → ∃ fl μ', M_CS_meets_36 N (n + k + 1) k1 (nI F) (nI full) (JJ (sgz (f F))) (JJ (pt f (tF μ0 full) F 4)) (nI (j + 1)) (μ.1, upJ μ.2 43 j v) = some (fl, μ') ∧ μ'.1 = μ0.1 ∧ (∀ a b, a ≠ 43 → μ'.2 a b = μ0.2 a b) ∧
        ((fl = 0 ∧ ¬ ∀ i, i < 4 → 0 ≤ pt f (tF μ0 full) F i ∧ pt f (tF μ0 full) F i ≤ stk μ0 i * pt f (tF μ0 full) F 4) ∨ (fl = 1 ∧ (∀ i, i < 4 → 0 ≤ pt f (tF μ0 full) F i ∧ pt f (tF μ0 full) F i ≤ stk μ0 i * pt f (tF μ0 full) F 4) ∧ ∀ i, i < 5 → μ'.2 43 i = JJ (pt f (tF μ0 full) F i))) := by
      intro v hv g1 g2
      rw [hn]
      refine ih n (μ.1, upJ μ.2 43 j v) (by omega) e1 (fun a b h => ?_) ?_ (fun i hi => ?_)
      · dsimp only; rw [upJ_ne h, e2 a b h]
      · dsimp only; rw [upJ_pl (by omega), e3]
      · dsimp only
        by_cases hij : i = j
        · subst hij
          rw [upJ_at]
          exact ⟨hv, g1, g2⟩
        · rw [upJ_pl hij]
          exact e4 i (by omega)
    by_cases hb : F.testBit j = true
    · rw [if_neg (by rw [b01_0]; exact fun q => q hb), (xor8 F (by omega) j (by omega)).1]
      have hrep : M_CS_replaced N k1 (nI (F ^^^ 2 ^ j)) (nI j) (nI full) μ = some (JJ (rp f (tF μ0 full) (F ^^^ 2 ^ j) j), μ) := by
        have := s_replaced (N := N) (k1 := k1) (o := F ^^^ 2 ^ j) (j := j) (full := full) (f := f) (μ := μ) hN (xor4 F hF j hj4 hb) hj4 hfu h0 h0' (fun c hc hcc => by rw [e2 k1 _ (by omega), hf j hj4 hb c hc hcc])
        have et : tF μ full = tF μ0 full := by
          funext i
          unfold tF stk
          rw [e1]
        rw [et] at this
        exact this
      rw [hrep, bs2, nm_eq, JJ_neg, JJ_mul, s_within, bs]
      have ep : -sgz (f F) * rp f (tF μ0 full) (F ^^^ 2 ^ j) j = pt f (tF μ0 full) F j := by
        unfold pt qv
        rw [if_neg (by omega), if_pos hb, Int.neg_mul, Int.mul_neg]
      have bp : bnd 1000000000000000000 (pt f (tF μ0 full) F j) := by
        rw [← ep]
        have := bq j hj4 hb
        unfold bnd at this ⊢
        rcases sgz_pm (f F) with e | e <;> rw [e] <;> omega
      rw [ep]
      have hc : ((0 : Int64) ≤ JJ (pt f (tF μ0 full) F j) ∧ JJ (pt f (tF μ0 full) F j) ≤ JJ (stk μ0 j * pt f (tF μ0 full) F 4)) ↔ (0 ≤ pt f (tF μ0 full) F j ∧ pt f (tF μ0 full) F j ≤ stk μ0 j * pt f (tF μ0 full) F 4) := by
        rw [Int64.le_iff_toInt_le, Int64.le_iff_toInt_le, JJ_bnd bp (by decide), JJ_int (z := stk μ0 j * pt f (tF μ0 full) F 4) (by omega) (by omega)]
        exact Iff.rfl
      by_cases hin : 0 ≤ pt f (tF μ0 full) F j ∧ pt f (tF μ0 full) F j ≤ stk μ0 j * pt f (tF μ0 full) F 4
      · rw [if_neg (by rw [b01_0]; exact fun q => q (hc.mpr hin)), stJ_n (by decide) (by decide) (by show j < 5; omega) (by decide), bs, nI_1]
        exact go _ rfl hin.1 hin.2
      · rw [if_pos (by rw [b01_0]; exact fun q => hin (hc.mp q)), reZ_0]
        exact ⟨0, μ, rfl, e1, e2, .inl ⟨rfl, fun q => hin (q j hj4)⟩⟩
    · have hb' : F.testBit j = false := by simpa using hb
      rw [if_pos (by rw [b01_0]; exact hb), s_hasBit' N (by omega) (by omega), bs]
      have ep := pt_out (f := f) (t := tF μ0 full) hj4 hb'
      by_cases hu : full.testBit j = true
      · rw [if_neg (by rw [b01_0]; exact fun q => q hu), M_CS_meets_88, stJ_n (by decide) (by decide) (by show j < 5; omega) (by decide), bs, nI_1]
        have e : pt f (tF μ0 full) F j = stk μ0 j * pt f (tF μ0 full) F 4 := by
          rw [ep]
          conv => lhs; unfold tF
          rw [if_pos hu]
          rfl
        exact go _ (by rw [e]) (by rw [e]; exact mb.1) (by rw [e]; omega)
      · rw [if_pos (by rw [b01_0]; exact hu), M_CS_meets_88, stJ_n (by decide) (by decide) (by show j < 5; omega) (by decide), bs, nI_1]
        have e : pt f (tF μ0 full) F j = 0 := by
          rw [ep]
          have : tF μ0 full j = 0 := by unfold tF; rw [if_neg hu]
          rw [this, Int.zero_mul]
        exact go _ (by rw [e]; exact JJ_0.symm) (by rw [e]; omega) (by rw [e]; exact mb.1)
theorem s_meets {N k1 F full : Nat} {f : Nat → Int} {μ : Mem} (hN : 6 ≤ N) (hF : F < 16) (hfu : full < 16) (h0 : 70 ≤ k1) (h0' : k1 < 75) (hst : ∀ j, j < 4 → 0 ≤ stk μ j ∧ stk μ j ≤ 9)
    (hfF : μ.2 k1 F = JJ (f F)) (hz : f F ≠ 0)
    (hf : ∀ j, j < 4 → F.testBit j = true → ∀ c, c < 5 → (c = 4 ∨ full.testBit c = true) → μ.2 k1 ((F ^^^ 2 ^ j) ||| 2 ^ c) = JJ (f ((F ^^^ 2 ^ j) ||| 2 ^ c))) (b4 : bnd 100000000000000 (f F))
    (bq : ∀ j, j < 4 → F.testBit j = true → bnd 1000000000000000000 (rp f (tF μ full) (F ^^^ 2 ^ j) j)) :
    ∃ fl μ', M_CS_meets N k1 (nI F) (nI full) μ = some (fl, μ') ∧ μ'.1 = μ.1 ∧ (∀ a b, a ≠ 43 → μ'.2 a b = μ.2 a b) ∧
      ((fl = 0 ∧ ¬ InBox μ (pt f (tF μ full) F)) ∨ (fl = 1 ∧ InBox μ (pt f (tF μ full) F) ∧ ∀ i, i < 5 → μ'.2 43 i = JJ (pt f (tF μ full) F i))) := by
  have l0 : lnJ k1 = 32 := by
    have := lnJ_min (d := k1 - 70) (by omega)
    rw [show 70 + (k1 - 70) = k1 by omega] at this
    exact this
  have ld : ldJ μ k1 (nI F) = some (JJ (f F)) := by rw [ldJ_n (by omega) (by omega) (by omega) (by rw [l0]; decide), hfF]
  have hsg : ((0 : Int32) ≤ lg_cmp (JJ (f F)) 0) ↔ ¬ f F < 0 := by
    rw [cmp_ge, Int64.le_iff_toInt_le, JJ_bnd b4 (by decide)]
    show (0 : Int) ≤ f F ↔ _
    omega
  have h15 : M_CS_meets N k1 (nI F) (nI full) μ = M_CS_meets_15 N k1 (nI F) (nI full) (JJ (sgz (f F))) μ := by
    rw [M_CS_meets, ld, bs]
    unfold sgz
    by_cases q : f F < 0
    · rw [if_neg (fun h => hsg.mp h q), if_pos q]; rfl
    · rw [if_pos (hsg.mpr q), if_neg q]; rfl
  have ml := meets_loop (N := N) (μ0 := μ) hN hF hfu h0 h0' hst hf b4 bq 4 (N - 5) (μ.1, upJ μ.2 43 4 (JJ (pt f (tF μ full) F 4))) (by omega) rfl (fun a b h => upJ_ne h b) (by dsimp only; rw [upJ_at]) (fun i hi => absurd hi (by omega))
  obtain ⟨fl, μ', q1, q2, q3, q4⟩ := ml
  have hp := pt_4pos (t := tF μ full) hz
  refine ⟨fl, μ', ?_, q2, q3, ?_⟩
  · rw [h15, M_CS_meets_15, ld, bs, nm_eq, JJ_mul, ← pt_4 f (tF μ full) F]
    rw [show (4 : Int32) = nI 4 from rfl, stJ_n (by decide) (by decide) (by decide) (by decide), bs]
    rw [show N - 5 + 4 + 1 = N by omega] at q1
    exact q1
  · rcases q4 with ⟨a, b⟩ | ⟨a, b, c⟩
    · exact .inl ⟨a, fun h => b h.2⟩
    · exact .inr ⟨a, ⟨hp, b⟩, c⟩
