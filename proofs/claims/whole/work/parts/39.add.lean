/-! PURE: CutSearch.expand and add. -/
def sN (i : Nat) : Nat := [0, 1, 2, 4, 8, 16, 3, 5, 6, 9, 10, 12, 17, 18, 20, 24, 7, 11, 13, 14, 19, 21, 22, 25, 26, 28, 15, 23, 27, 29, 30, 31].getD i 0
def sT (d : Nat) : Nat := [0, 1, 6, 16, 26, 31, 32].getD d 0
theorem ldS_sets : ∀ i, i < 32 → ldS tSETS (nI i) = some (nI (sN i)) := by decide +kernel
theorem ldS_starts : ∀ d, d < 6 → ldS tSTARTS (nI d) = some (nI (sT d)) := by decide +kernel
theorem sets_of : ∀ G, G < 32 → ∃ i, i < 32 ∧ sT (pop8 G) ≤ i ∧ i < sT (pop8 G + 1) ∧ sN i = G := by decide +kernel
theorem sets_pop : ∀ d, d < 6 → ∀ i, i < 32 → sT d ≤ i → i < sT (d + 1) → pop8 (sN i) = d ∧ sN i < 32 := by decide +kernel
theorem sT_le : ∀ d, d < 6 → sT d ≤ sT (d + 1) ∧ sT (d + 1) ≤ 32 ∧ sT (d + 1) ≤ sT d + 10 := by decide +kernel
theorem sub_bits : ∀ G, G < 32 → ∀ O, O < 16 → (((nI G &&& (nI O ^^^ (-1))) = 0) ↔ ∀ b, b < 5 → G.testBit b = true → O.testBit b = true) := by decide +kernel
theorem nI_dec (c : Nat) : nI (c + 1) + (-1) = nI c := by
  rw [← nI_pred c, Int32.sub_eq_add_neg]
theorem lnJ_min {d : Nat} (h : d < 5) : lnJ (70 + d) = 32 := by
  unfold lnJ
  rw [if_neg (by omega), if_neg (by omega), if_neg (by omega), if_neg (by omega), if_neg (by omega), if_neg (by omega), if_neg (by omega), if_neg (by omega), if_pos (by omega)]
theorem s_hasBit' (N : Nat) {S r : Nat} (hS : S < 256) (hr : r < 8) : M_RP_hasBit N (nI S) (nI r) = some (b01 (S.testBit r = true)) := by
  rw [s_hasBit N hS hr]
  unfold b01
  rfl
theorem nm_eq {α β : Type} (a : α) (f : α → β) : nm a f = f a := rfl
theorem neg1_lt : nI 0 + (-1) < 0 := by decide +kernel
theorem expand_k {N k0 k1 G : Nat} {r f : Nat → Int} {μ : Mem} (hG : G < 32) (h0 : 70 ≤ k0) (h0' : k0 < 75) (h1 : 40 ≤ k1) (h1' : k1 < 85) (l1 : 5 ≤ lnJ k1) (s1 : lnJ k1 < 2 ^ 31) (hr : ∀ c, c < 5 → μ.2 k1 c = JJ (r c)) (hf : ∀ c, c < 5 → G.testBit c = true → μ.2 k0 (G ^^^ 2 ^ c) = JJ (f (G ^^^ 2 ^ c))) :
    ∀ (c n : Nat) (acc s : Int), c ≤ 5 → M_CS_expand_8 N (n + c + 1) k0 k1 (nI G) (JJ acc) (JJ s) (nI c + (-1)) μ = some (JJ (exf r f G c acc s), μ) := by
  have l0 : lnJ k0 = 32 := by
    have := lnJ_min (d := k0 - 70) (by omega)
    rw [show 70 + (k0 - 70) = k0 by omega] at this
    exact this
  intro c
  induction c with
  | zero =>
    intro n acc s _
    rw [M_CS_expand_8, if_pos neg1_lt, exf]
  | succ c ih =>
    intro n acc s hc
    rw [nI_dec, show n + (c + 1) + 1 = (n + c + 1) + 1 by omega, M_CS_expand_8, if_neg (nI_pos (by omega)), s_hasBit' N (by omega) (by omega), bs, exf]
    by_cases hb : G.testBit c = true
    · rw [if_neg (by rw [b01_0]; exact fun h => h hb), if_pos hb, ldJ_n h1 h1' (by omega) s1, bs, (xor8 G (by omega) c (by omega)).1]
      rw [ldJ_n (by omega) (by omega) (by rw [l0]; exact Nat.xor_lt_two_pow (n := 5) hG (Nat.pow_lt_pow_right (by omega) (by omega))) (by rw [l0]; decide), bs]
      rw [nm_eq, nm_eq, hr c (by omega), hf c (by omega) hb, JJ_mul, JJ_mul, JJ_add, JJ_neg]
      exact ih n _ _ (by omega)
    · rw [if_pos (by rw [b01_0]; exact hb), if_neg hb]
      exact ih n _ _ (by omega)
theorem s_expand {N k0 k1 G : Nat} {r f : Nat → Int} {μ : Mem} (hN : 6 ≤ N) (hG : G < 32) (h0 : 70 ≤ k0) (h0' : k0 < 75) (h1 : 40 ≤ k1) (h1' : k1 < 85) (l1 : 5 ≤ lnJ k1) (s1 : lnJ k1 < 2 ^ 31) (hr : ∀ c, c < 5 → μ.2 k1 c = JJ (r c)) (hf : ∀ c, c < 5 → G.testBit c = true → μ.2 k0 (G ^^^ 2 ^ c) = JJ (f (G ^^^ 2 ^ c))) :
    M_CS_expand N k0 k1 (nI G) μ = some (JJ (ex r f G), μ) := by
  have := expand_k (N := N) hG h0 h0' h1 h1' l1 s1 hr hf 5 (N - 6) 0 1 (by omega)
  rw [show N - 6 + 5 + 1 = N by omega] at this
  exact this
theorem add_loop {N d k2 O : Nat} {r f : Nat → Int} {μ0 : Mem} (hN : 12 ≤ N) (hd : d < 4) (h1 : 40 ≤ k2) (h1' : k2 < 70) (l1 : 5 ≤ lnJ k2) (s1 : lnJ k2 < 2 ^ 31) (hO : O < 16) (ho : μ0.1 4 9 = nI O)
    (hr : ∀ c, c < 5 → μ0.2 k2 c = JJ (r c)) (hf : ∀ G, G < 32 → pop8 G = d → μ0.2 (70 + d) G = JJ (f G)) :
    ∀ (k n : Nat) (x5 : Int32) (μ : Mem), k ≤ sT (d + 2) - sT (d + 1) → (x5 = 0 ∨ x5 = 1) → μ.1 = μ0.1 → (∀ a b, a ≠ 71 + d → μ.2 a b = μ0.2 a b) →
      (∀ i, sT (d + 1) ≤ i → i < sT (d + 2) - k → μ.2 (71 + d) (sN i) = JJ (ex r f (sN i))) →
      (x5 = 0 → ∀ i, sT (d + 1) ≤ i → i < sT (d + 2) - k → (∀ b, b < 5 → (sN i).testBit b = true → O.testBit b = true) → JJ (ex r f (sN i)) = 0) →
      ∃ fl μ', M_CS_add_29 N (n + k + 1) (nI d) k2 (70 + d) (71 + d) x5 (nI (sT (d + 2) - k)) μ = some (fl, μ') ∧ (fl = 0 ∨ fl = 1) ∧ μ'.1 = μ0.1 ∧ (∀ a b, a ≠ 71 + d → μ'.2 a b = μ0.2 a b) ∧
        (∀ i, sT (d + 1) ≤ i → i < sT (d + 2) → μ'.2 (71 + d) (sN i) = JJ (ex r f (sN i))) ∧
        (fl = 0 → ∀ i, sT (d + 1) ≤ i → i < sT (d + 2) → (∀ b, b < 5 → (sN i).testBit b = true → O.testBit b = true) → JJ (ex r f (sN i)) = 0) := by
  intro k
  induction k with
  | zero =>
    intro n x5 μ hk h5 e1 e2 e3 e4
    have l2 : sT (d + 1) ≤ sT (d + 2) ∧ sT (d + 2) ≤ 32 ∧ sT (d + 2) ≤ sT (d + 1) + 10 := sT_le (d + 1) (by omega)
    rw [M_CS_add_29, show nI d + 2 = nI (d + 2) from nI_add d 2, ldS_starts (d + 2) (by omega), bs, if_pos (nI_le (by omega) (by omega))]
    refine ⟨x5, μ, ?_, h5, e1, e2, e3, e4⟩
    unfold reZ
    rw [if_pos h5]
  | succ k ih =>
    intro n x5 μ hk h5 e1 e2 e3 e4
    have l2 : sT (d + 1) ≤ sT (d + 2) ∧ sT (d + 2) ≤ 32 ∧ sT (d + 2) ≤ sT (d + 1) + 10 := sT_le (d + 1) (by omega)
    obtain ⟨i, hi⟩ : ∃ i, i = sT (d + 2) - (k + 1) := ⟨_, rfl⟩
    have hi1 : sT (d + 1) ≤ i := by omega
    have hi2 : i < sT (d + 2) := by omega
    obtain ⟨p1, p2⟩ := sets_pop (d + 1) (by omega) i (by omega) hi1 hi2
    have l4 : lnJ (71 + d) = 32 := by
      have := lnJ_min (d := d + 1) (by omega)
      rw [show 70 + (d + 1) = 71 + d by omega] at this
      exact this
    rw [← hi] at e3 e4 ⊢
    rw [show n + (k + 1) + 1 = (n + k + 1) + 1 by omega, M_CS_add_29, show nI d + 2 = nI (d + 2) from nI_add d 2, ldS_starts (d + 2) (by omega), bs, if_neg (nI_ge hi2 (by omega)), ldS_sets i (by omega), bs]
    have hex : M_CS_expand N (70 + d) k2 (nI (sN i)) μ = some (JJ (ex r f (sN i)), μ) := s_expand (by omega) p2 (by omega) (by omega) h1 (by omega) l1 s1 (fun c hc => by rw [e2 k2 c (by omega), hr c hc]) (fun c hc hb => by
      have hx : sN i ^^^ 2 ^ c < 32 := Nat.xor_lt_two_pow (n := 5) p2 (Nat.pow_lt_pow_right (by omega) (by omega))
      rw [e2 (70 + d) _ (by omega), hf _ hx (by have := pop_xor _ p2 c hc hb; omega)])
    rw [hex, bs2, stJ_n (by omega) (by omega) (by rw [l4]; exact p2) (by rw [l4]; decide), bs, ldJ_n (by omega) (by omega) (by rw [l4]; exact p2) (by rw [l4]; decide), bs, nI_1]
    have eu : (μ.1, upJ μ.2 (71 + d) (sN i) (JJ (ex r f (sN i)))).2 (71 + d) (sN i) = JJ (ex r f (sN i)) := upJ_at ..
    have hn : i + 1 = sT (d + 2) - k := by omega
    have q2 : ∀ a b, a ≠ 71 + d → upJ μ.2 (71 + d) (sN i) (JJ (ex r f (sN i))) a b = μ0.2 a b := fun a b h => by rw [upJ_ne h, e2 a b h]
    have q3 : ∀ i', sT (d + 1) ≤ i' → i' < sT (d + 2) - k → upJ μ.2 (71 + d) (sN i) (JJ (ex r f (sN i))) (71 + d) (sN i') = JJ (ex r f (sN i')) := fun i' h h' => by
      by_cases e : sN i' = sN i
      · rw [e, upJ_at]
      · rw [upJ_pl e, e3 i' h (by have : i' ≠ i := fun q => e (by rw [q]); omega)]
    have go : ∀ (y : Int32), (y = 0 ∨ y = 1) → (y = 0 → x5 = 0 ∧ ((∀ b, b < 5 → (sN i).testBit b = true → O.testBit b = true) → JJ (ex r f (sN i)) = 0)) → ∃ fl μ', M_CS_add_29 N (n + k + 1) (nI d) k2 (70 + d) (71 + d) y (nI (i + 1)) (μ.1, upJ μ.2 (71 + d) (sN i) (JJ (ex r f (sN i)))) = some (fl, μ') ∧ (fl = 0 ∨ fl = 1) ∧ μ'.1 = μ0.1 ∧ (∀ a b, a ≠ 71 + d → μ'.2 a b = μ0.2 a b) ∧
        (∀ i, sT (d + 1) ≤ i → i < sT (d + 2) → μ'.2 (71 + d) (sN i) = JJ (ex r f (sN i))) ∧
        (fl = 0 → ∀ i, sT (d + 1) ≤ i → i < sT (d + 2) → (∀ b, b < 5 → (sN i).testBit b = true → O.testBit b = true) → JJ (ex r f (sN i)) = 0) := by
      intro y hy hy0
      rw [hn]
      refine ih n y _ (by omega) hy e1 q2 q3 (fun z i' h h' hs => ?_)
      obtain ⟨z1, z2⟩ := hy0 z
      by_cases e : i' = i
      · rw [e]; rw [e] at hs; exact z2 hs
      · exact e4 z1 i' h (by omega) hs
    by_cases hz : lg_cmp (JJ (ex r f (sN i))) 0 = 0
    · rw [if_pos (by rw [eu]; exact hz)]
      exact go x5 h5 (fun z => ⟨z, fun _ => (cmp_eq _ _).mp hz⟩)
    · rw [if_neg (by rw [eu]; exact hz)]
      have hsub := sub_bits (sN i) p2 O hO
      have eo : (μ.1, upJ μ.2 (71 + d) (sN i) (JJ (ex r f (sN i)))).1 4 9 = nI O := by dsimp only; rw [e1, ho]
      by_cases hs : (nI (sN i) &&& (nI O ^^^ -1)) = 0
      · rw [if_pos (by rw [eo]; exact hs)]
        exact go 1 (.inr rfl) (fun z => absurd z (by decide))
      · rw [if_neg (by rw [eo]; exact hs)]
        exact go x5 h5 (fun z => ⟨z, fun q => absurd (hsub.mpr q) hs⟩)
theorem s_add {N d k2 O : Nat} {r f : Nat → Int} {μ0 : Mem} (hN : 12 ≤ N) (hd : d < 4) (h1 : 40 ≤ k2) (h1' : k2 < 70) (l1 : 5 ≤ lnJ k2) (s1 : lnJ k2 < 2 ^ 31) (hO : O < 16) (ho : μ0.1 4 9 = nI O)
    (hr : ∀ c, c < 5 → μ0.2 k2 c = JJ (r c)) (hf : ∀ G, G < 32 → pop8 G = d → μ0.2 (70 + d) G = JJ (f G)) :
    ∃ fl μ', M_CS_add N (nI d) k2 μ0 = some (fl, μ') ∧ (fl = 0 ∨ fl = 1) ∧ μ'.1 = μ0.1 ∧ (∀ a b, a ≠ 71 + d → μ'.2 a b = μ0.2 a b) ∧
      (∀ G, G < 32 → pop8 G = d + 1 → μ'.2 (71 + d) G = JJ (ex r f G)) ∧
      (fl = 0 → ∀ G, G < 32 → pop8 G = d + 1 → (∀ b, G.testBit b = true → O.testBit b = true) → JJ (ex r f G) = 0) := by
  have l2 : sT (d + 1) ≤ sT (d + 2) ∧ sT (d + 2) ≤ 32 ∧ sT (d + 2) ≤ sT (d + 1) + 10 := sT_le (d + 1) (by omega)
  obtain ⟨fl, μ', q1, q2, q3, q4, q5, q6⟩ := add_loop hN hd h1 h1' l1 s1 hO ho hr hf (sT (d + 2) - sT (d + 1)) (N - (sT (d + 2) - sT (d + 1)) - 1) 0 μ0 (Nat.le_refl _) (.inl rfl) rfl (fun _ _ _ => rfl) (fun i h h' => absurd h' (by omega)) (fun _ i h h' => absurd h' (by omega))
  refine ⟨fl, μ', ?_, q2, q3, q4, fun G hG hp => ?_, fun hz G hG hp hs => ?_⟩
  · rw [show N - (sT (d + 2) - sT (d + 1)) - 1 + (sT (d + 2) - sT (d + 1)) + 1 = N by omega, show sT (d + 2) - (sT (d + 2) - sT (d + 1)) = sT (d + 1) by omega] at q1
    rw [M_CS_add, ldA_n (by decide) (by decide) (by show d < 5; omega) (by decide), bs, nI_1, ldA_n (by decide) (by decide) (by show d + 1 < 5; omega) (by decide), bs, ldS_starts (d + 1) (by omega), bs]
    show M_CS_add_29 N N (nI d) k2 (70 + d) (70 + (d + 1)) 0 (nI (sT (d + 1))) μ0 = _
    rw [show 70 + (d + 1) = 71 + d by omega]
    exact q1
  · obtain ⟨i, hi, h1, h2, h3⟩ := sets_of G hG
    rw [hp] at h1 h2
    have := q5 i h1 h2
    rw [h3] at this
    exact this
  · obtain ⟨i, hi, h1, h2, h3⟩ := sets_of G hG
    rw [hp] at h1 h2
    have := q6 hz i h1 h2 (fun b _ hb => hs b (by rw [h3] at hb; exact hb))
    rw [h3] at this
    exact this
