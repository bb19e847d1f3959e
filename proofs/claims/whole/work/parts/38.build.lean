/-! PURE: longs as images of whole numbers; what a call leaves alone; Sides.build. -/
abbrev JJ (z : Int) : Int64 := Int64.ofInt z
theorem JJ_add (a b : Int) : JJ a + JJ b = JJ (a + b) := (Int64.ofInt_add a b).symm
theorem JJ_mul (a b : Int) : JJ a * JJ b = JJ (a * b) := (Int64.ofInt_mul a b).symm
theorem JJ_neg (a : Int) : -JJ a = JJ (-a) := (Int64.ofInt_neg a).symm
theorem JJ_sub (a b : Int) : JJ a - JJ b = JJ (a - b) := by
  rw [Int64.sub_eq_add_neg, JJ_neg, JJ_add, Int.sub_eq_add_neg]
theorem JJ_self (x : Int64) : JJ x.toInt = x := Int64.ofInt_toInt x
theorem JJ_int {z : Int} (h1 : -9223372036854775808 ≤ z) (h2 : z < 9223372036854775808) : (JJ z).toInt = z := by
  rw [Int64.toInt_ofInt]; exact bm64 h1 h2
theorem JJ_bnd {z P : Int} (h : bnd P z) (hP : P < 9223372036854775808) : (JJ z).toInt = z := JJ_int (by have := h.1; omega) (by have := h.2; omega)
theorem i2l_J (x : Int32) : x.toInt64 = JJ x.toInt := by
  rw [← JJ_self x.toInt64, i2l_toInt]
theorem JJ_0 : JJ 0 = 0 := rfl
theorem JJ_1 : JJ 1 = 1 := rfl
def eqO (WI WJ : Nat → Prop) (μ μ' : Mem) : Prop := (∀ k j, ¬ WI k → μ'.1 k j = μ.1 k j) ∧ ∀ k j, ¬ WJ k → μ'.2 k j = μ.2 k j
theorem eqO.refl (WI WJ : Nat → Prop) (μ : Mem) : eqO WI WJ μ μ := ⟨fun _ _ _ => rfl, fun _ _ _ => rfl⟩
theorem eqO.trans {WI WJ : Nat → Prop} {a b c : Mem} (h1 : eqO WI WJ a b) (h2 : eqO WI WJ b c) : eqO WI WJ a c := ⟨fun k j h => (h2.1 k j h).trans (h1.1 k j h), fun k j h => (h2.2 k j h).trans (h1.2 k j h)⟩
theorem eqO.mono {WI WJ VI VJ : Nat → Prop} {a b : Mem} (h : eqO WI WJ a b) (hI : ∀ k, WI k → VI k) (hJ : ∀ k, WJ k → VJ k) : eqO VI VJ a b := ⟨fun k j q => h.1 k j (fun z => q (hI k z)), fun k j q => h.2 k j (fun z => q (hJ k z))⟩
theorem eqO.upI {WI WJ : Nat → Prop} {a : Mem} {k j : Nat} {v : Int32} (h : WI k) : eqO WI WJ a (upI a.1 k j v, a.2) := ⟨fun k' j' q => upI_ne (fun e => q (by rw [e]; exact h)) j', fun _ _ _ => rfl⟩
theorem eqO.upJ {WI WJ : Nat → Prop} {a : Mem} {k j : Nat} {v : Int64} (h : WJ k) : eqO WI WJ a (a.1, upJ a.2 k j v) := ⟨fun _ _ _ => rfl, fun k' j' q => upJ_ne (fun e => q (by rw [e]; exact h)) j'⟩
theorem upI_at (f : Nat → Nat → Int32) (k j : Nat) (v : Int32) : upI f k j v k j = v := by simp [upI]
theorem upJ_at (f : Nat → Nat → Int64) (k j : Nat) (v : Int64) : upJ f k j v k j = v := by simp [upJ]
theorem upI_pl {f : Nat → Nat → Int32} {k j a b : Nat} {v : Int32} (h : b ≠ j) : upI f k j v a b = f a b := by simp [upI, h]
theorem upJ_pl {f : Nat → Nat → Int64} {k j a b : Nat} {v : Int64} (h : b ≠ j) : upJ f k j v a b = f a b := by simp [upJ, h]
def fillJ (m2 : Nat → Nat → Int64) (k1 k2 k5 : Nat) (ov lo hi : Int64) (n : Nat) : Nat → Nat → Int64 := fun a b =>
  if a = k5 ∧ b < n then ov * m2 k1 b - lo * m2 k2 b else if a = k5 + 1 ∧ b < n then hi * m2 k2 b - ov * m2 k1 b else m2 a b
theorem lnJ_side {m : Nat} (h : m < 16) : lnJ (54 + m) = 5 := by
  unfold lnJ
  rw [if_neg (by omega), if_neg (by omega), if_neg (by omega), if_neg (by omega), if_neg (by omega), if_neg (by omega), if_neg (by omega), if_pos (by omega)]
theorem fill_step {N n r f g m j : Nat} {a1 : Nat → Nat → Int32} {m2 : Nat → Nat → Int64} (hr : r < 8) (hf : f < 7) (hg : g < 7) (hm : m < 8) (hj : j < 5) :
    M_Si_fill_31 N (n + 1) (47 + f) (47 + g) (nI r) (54 + 2 * m) (54 + 2 * m + 1) (nI j) (a1, fillJ m2 (47 + f) (47 + g) (54 + 2 * m) (a1 22 r).toInt64 (a1 20 r).toInt64 (a1 21 r).toInt64 j) =
    M_Si_fill_31 N n (47 + f) (47 + g) (nI r) (54 + 2 * m) (54 + 2 * m + 1) (nI (j + 1)) (a1, fillJ m2 (47 + f) (47 + g) (54 + 2 * m) (a1 22 r).toInt64 (a1 20 r).toInt64 (a1 21 r).toInt64 (j + 1)) := by
  have h5 : ¬ (5 : Int32) ≤ nI j := nI_ge (a := j) (b := 5) hj (by decide)
  have lf := lnJ_form hf
  have lg := lnJ_form hg
  have l5 := lnJ_side (m := 2 * m) (by omega)
  have l6 : lnJ (54 + 2 * m + 1) = 5 := lnJ_side (m := 2 * m + 1) (by omega)
  have r1 : ∀ x, x < 7 → ∀ n b, fillJ m2 (47 + f) (47 + g) (54 + 2 * m) (a1 22 r).toInt64 (a1 20 r).toInt64 (a1 21 r).toInt64 n (47 + x) b = m2 (47 + x) b := fun x hx n b => by
    unfold fillJ
    rw [if_neg (by omega), if_neg (by omega)]
  rw [M_Si_fill_31, if_neg h5, ldI_n (by decide) (by decide) (by show r < 8; omega) (by decide), bs, ldJ_n (by omega) (by omega) (by omega) (by rw [lf]; decide), bs]
  dsimp only [nm]
  rw [ldI_n (by decide) (by decide) (by show r < 8; omega) (by decide), bs, ldJ_n (by omega) (by omega) (by omega) (by rw [lg]; decide), bs,
    stJ_n (by omega) (by omega) (by omega) (by rw [l5]; decide), bs, ldI_n (by decide) (by decide) (by show r < 8; omega) (by decide), bs, ldJ_n (by omega) (by omega) (by omega) (by rw [lg]; decide), bs,
    stJ_n (by omega) (by omega) (by omega) (by rw [l6]; decide), bs, nI_1]
  dsimp only
  rw [upJ_ne (show 47 + g ≠ 54 + 2 * m by omega), r1 f hf, r1 g hg]
  congr 2
  funext a b
  simp only [upJ, fillJ]
  by_cases hb : b = j
  · subst hb
    by_cases ha : a = 54 + 2 * m
    · subst ha
      have : ¬ (54 + 2 * m = 54 + 2 * m + 1) := by omega
      simp
    · by_cases ha' : a = 54 + 2 * m + 1
      · subst ha'
        simp
      · simp [ha, ha']
  · have : (b < j + 1) ↔ b < j := by omega
    simp [hb, this]
theorem s_fill {N r f g m : Nat} {μ : Mem} (hN : 6 ≤ N) (hr : r < 8) (hf : f < 7) (hg : g < 7) (hm : m < 8) (h3 : μ.1 3 0 = nI m) :
    M_Si_fill N (47 + f) (47 + g) (nI r) μ = some (μ.1, fillJ μ.2 (47 + f) (47 + g) (54 + 2 * m) (μ.1 22 r).toInt64 (μ.1 20 r).toInt64 (μ.1 21 r).toInt64 5) := by
  obtain ⟨n, rfl⟩ : ∃ n, N = n + 6 := ⟨N - 6, by omega⟩
  have e2 : (2 : Int32) * nI m = nI (2 * m) := by
    have : ∀ m, m < 8 → (2 : Int32) * nI m = nI (2 * m) := by decide
    exact this m hm
  have e0 : μ = (μ.1, fillJ μ.2 (47 + f) (47 + g) (54 + 2 * m) (μ.1 22 r).toInt64 (μ.1 20 r).toInt64 (μ.1 21 r).toInt64 0) := by
    have : fillJ μ.2 (47 + f) (47 + g) (54 + 2 * m) (μ.1 22 r).toInt64 (μ.1 20 r).toInt64 (μ.1 21 r).toInt64 0 = μ.2 := by
      funext a b
      simp [fillJ]
    rw [this]
  rw [M_Si_fill, h3, e2, ldA_n (by decide) (by decide) (by show 2 * m < 16; omega) (by decide), bs, nI_1, ldA_n (by decide) (by decide) (by show 2 * m + 1 < 16; omega) (by decide), bs]
  show M_Si_fill_31 (n + 6) (n + 5 + 1) (47 + f) (47 + g) (nI r) (54 + 2 * m) (54 + 2 * m + 1) (nI 0) μ = _
  conv => lhs; rw [e0]
  rw [fill_step hr hf hg hm (by decide)]
  show M_Si_fill_31 (n + 6) (n + 4 + 1) _ _ (nI r) _ _ (nI 1) _ = _
  rw [fill_step hr hf hg hm (by decide)]
  show M_Si_fill_31 (n + 6) (n + 3 + 1) _ _ (nI r) _ _ (nI 2) _ = _
  rw [fill_step hr hf hg hm (by decide)]
  show M_Si_fill_31 (n + 6) (n + 2 + 1) _ _ (nI r) _ _ (nI 3) _ = _
  rw [fill_step hr hf hg hm (by decide)]
  show M_Si_fill_31 (n + 6) (n + 1 + 1) _ _ (nI r) _ _ (nI 4) _ = _
  rw [fill_step hr hf hg hm (by decide), M_Si_fill_31, if_pos (by decide)]
def WIb (k : Nat) : Prop := k = 3 ∨ k = 23
def WJb (k : Nat) : Prop := 54 ≤ k ∧ k < 70
/-- Sides as build leaves them, of the rules below R -/
def SidesOK (μ0 μ : Mem) (R m : Nat) (rl : Nat → Nat) : Prop := m ≤ R ∧ μ.1 3 0 = nI m ∧ (∀ i, i < m → μ.1 23 i = nI (rl i) ∧ rl i < R ∧ (Tn μ0).testBit (rl i) = true) ∧
  (∀ r, r < R → (Tn μ0).testBit r = true → ∃ i, i < m ∧ rl i = r) ∧ (∀ i j, i < j → j < m → rl i < rl j) ∧ ∀ k, k < 2 * m → ∀ c, c < 5 → μ.2 (54 + k) c = JJ (rS μ0 rl k c)
theorem build_step {N n r : Nat} {μ0 μ : Mem} (hN : 6 ≤ N) (hR : InvR μ0) (hr : r < 8) (hq : eqO WIb WJb μ0 μ) {m : Nat} {rl : Nat → Nat} (hs : SidesOK μ0 μ r m rl) :
    ∃ μ' m' rl', M_Si_build_7 N (n + 1) (nI r) μ = M_Si_build_7 N n (nI (r + 1)) μ' ∧ eqO WIb WJb μ0 μ' ∧ SidesOK μ0 μ' (r + 1) m' rl' := by
  obtain ⟨s1, s2, s3, s4, s5, s6⟩ := hs
  obtain ⟨T, hT, h2, -, hro⟩ := id hR
  have eT : Tn μ0 = T := by unfold Tn; rw [h2, nI_clamp (by omega)]
  have h2' : μ.1 2 0 = nI T := by rw [hq.1 2 0 (by unfold WIb; omega), h2]
  have h8 : ¬ (8 : Int32) ≤ nI r := nI_ge (a := r) (b := 8) hr (by decide)
  rw [M_Si_build_7, if_neg h8, s_isTold hr hT h2', bs2]
  by_cases ht : T.testBit r = true
  · rw [if_neg (by rw [if_pos ht]; decide)]
    have hk := hro r hr ht
    obtain ⟨f, g, hf, hg, e1, e2, e3, e4, -⟩ := rule_facts hr hk
    have q18 : μ.1 18 r = nI f := by rw [hq.1 18 r (by unfold WIb; omega), e1]
    have q19 : μ.1 19 r = nI g := by rw [hq.1 19 r (by unfold WIb; omega), e2]
    rw [s2, stI_n (by decide) (by decide) (by show m < 8; omega) (by decide), bs]
    rw [ldI_n (by decide) (by decide) (by show r < 8; omega) (by decide), bs]
    rw [show (upI μ.1 23 m (nI r), μ.2).1 18 r = nI f from by dsimp only; rw [upI_ne (by decide), q18]]
    rw [ldA_n (by decide) (by decide) (by show f < 7; omega) (by decide), bs]
    rw [ldI_n (by decide) (by decide) (by show r < 8; omega) (by decide), bs]
    rw [show (upI μ.1 23 m (nI r), μ.2).1 19 r = nI g from by dsimp only; rw [upI_ne (by decide), q19]]
    rw [ldA_n (by decide) (by decide) (by show g < 7; omega) (by decide), bs]
    show ∃ μ' m' rl', (M_Si_fill N (47 + f) (47 + g) (nI r) (upI μ.1 23 m (nI r), μ.2)).bind _ = _ ∧ _
    rw [s_fill hN hr hf hg (show m < 8 by omega) (by dsimp only; rw [upI_ne (by decide), s2]), bs]
    dsimp only
    rw [pI, bs, nI_1]
    dsimp only
    rw [upI_ne (by decide), s2, nI_1]
    have c20 : upI μ.1 23 m (nI r) 20 r = μ0.1 20 r := by rw [upI_ne (by decide), hq.1 20 r (by unfold WIb; omega)]
    have c21 : upI μ.1 23 m (nI r) 21 r = μ0.1 21 r := by rw [upI_ne (by decide), hq.1 21 r (by unfold WIb; omega)]
    have c22 : upI μ.1 23 m (nI r) 22 r = μ0.1 22 r := by rw [upI_ne (by decide), hq.1 22 r (by unfold WIb; omega)]
    refine ⟨_, m + 1, fun i => if i = m then r else rl i, rfl, ⟨fun k j hk => ?_, fun k j hk => ?_⟩, by omega, ?_, fun i hi => ?_, fun r' hr' ht' => ?_, fun i j hij hj => ?_, fun k hk c hc => ?_⟩
    · have k3 : k ≠ 3 := fun e => hk (.inl e)
      have k23 : k ≠ 23 := fun e => hk (.inr e)
      dsimp only
      rw [upI_ne k3, upI_ne k23, hq.1 k j hk]
    · dsimp only
      unfold fillJ
      rw [if_neg (fun h => hk (by unfold WJb; omega)), if_neg (fun h => hk (by unfold WJb; omega)), hq.2 k j hk]
    · dsimp only; rw [upI_at]
    · dsimp only
      rw [upI_ne (by decide)]
      by_cases e : i = m
      · subst e
        rw [if_pos rfl, upI_at, eT]
        exact ⟨rfl, by omega, ht⟩
      · rw [if_neg e, upI_pl e]
        obtain ⟨a, b, c⟩ := s3 i (by omega)
        exact ⟨a, by omega, c⟩
    · by_cases e : r' = r
      · exact ⟨m, by omega, by dsimp only; rw [if_pos rfl, e]⟩
      · obtain ⟨i, hi, he⟩ := s4 r' (by omega) ht'
        exact ⟨i, by omega, by dsimp only; rw [if_neg (by omega), he]⟩
    · dsimp only
      by_cases e : j = m
      · subst e
        rw [if_pos rfl, if_neg (by omega)]
        exact (s3 i (by omega)).2.1
      · rw [if_neg e, if_neg (by omega)]
        exact s5 i j hij (by omega)
    · dsimp only
      have eA : ∀ x, x < 7 → μ.2 (47 + x) c = JJ (fo μ0 x c) := fun x hx => by
        unfold fo
        rw [JJ_self, hq.2 (47 + x) c (by unfold WJb; omega)]
      unfold fillJ
      rw [eA f hf, eA g hg, c20, c21, c22, i2l_J, i2l_J, i2l_J]
      by_cases e0 : k = 2 * m
      · subst e0
        rw [if_pos ⟨rfl, hc⟩, rS_0 μ0 _ (by omega), JJ_mul, JJ_mul, JJ_sub]
        unfold rwL
        rw [show 2 * m / 2 = m by omega, if_pos rfl, e3, e4, Int.neg_mul, Int.sub_eq_add_neg]
      · by_cases e1 : k = 2 * m + 1
        · subst e1
          rw [if_neg (by omega), if_pos ⟨by omega, hc⟩, rS_1 μ0 _ (by omega), JJ_mul, JJ_mul, JJ_sub]
          unfold rwH
          rw [show (2 * m + 1) / 2 = m by omega, if_pos rfl, e3, e4, Int.neg_mul, Int.sub_eq_add_neg]
        · rw [if_neg (by omega), if_neg (by omega), s6 k (by omega) c hc]
          unfold rS
          dsimp only
          rw [if_neg (by omega)]
  · rw [if_pos (by rw [if_neg ht]), nI_1]
    refine ⟨μ, m, rl, rfl, hq, by omega, s2, fun i hi => ?_, fun r' hr' ht' => ?_, s5, s6⟩
    · obtain ⟨a, b, c⟩ := s3 i hi
      exact ⟨a, by omega, c⟩
    · by_cases e : r' = r
      · subst e
        rw [eT] at ht'
        exact absurd ht' ht
      · exact s4 r' (by omega) ht'
theorem build_all {N : Nat} {μ0 : Mem} (hN : 6 ≤ N) (hR : InvR μ0) : ∀ (k n : Nat) (μ : Mem) (m : Nat) (rl : Nat → Nat), k ≤ 8 → eqO WIb WJb μ0 μ → SidesOK μ0 μ (8 - k) m rl → ∃ μ' m' rl', M_Si_build_7 N (n + k + 1) (nI (8 - k)) μ = some μ' ∧ eqO WIb WJb μ0 μ' ∧ SidesOK μ0 μ' 8 m' rl'
  | 0, n, μ, m, rl, _, hq, hs => ⟨μ, m, rl, by show M_Si_build_7 N (n + 1) (nI 8) μ = _; rw [M_Si_build_7, if_pos (by decide)], hq, hs⟩
  | k + 1, n, μ, m, rl, hk, hq, hs => by
    obtain ⟨μ1, m1, rl1, h1, h2, h3⟩ := build_step (n := n + k + 1) hN hR (show 8 - (k + 1) < 8 by omega) hq hs
    rw [show 8 - (k + 1) + 1 = 8 - k by omega] at h1 h3
    obtain ⟨μ', m', rl', q1, q2, q3⟩ := build_all hN hR k n μ1 m1 rl1 (by omega) h2 h3
    exact ⟨μ', m', rl', by rw [show n + (k + 1) + 1 = (n + k + 1) + 1 by omega, h1, q1], q2, q3⟩
theorem s_build {N : Nat} {μ : Mem} (hN : 9 ≤ N) (hR : InvR μ) : ∃ μ' m rl, M_Si_build N μ = some μ' ∧ eqO WIb WJb μ μ' ∧ SidesOK μ μ' 8 m rl := by
  obtain ⟨μ', m, rl, h1, h2, h3⟩ := build_all (N := N) (by omega) hR 8 (N - 9) (upI μ.1 3 0 0, μ.2) 0 (fun _ => 0) (by omega) (eqO.upI (.inl rfl)) ⟨by omega, by dsimp only; rw [upI_at, nI_0], fun i hi => absurd hi (by omega), fun r hr => absurd hr (by omega), fun i j _ hj => absurd hj (by omega), fun k hk => absurd hk (by omega)⟩
  refine ⟨μ', m, rl, ?_, h2, h3⟩
  rw [M_Si_build, pI, bs]
  rw [show N - 9 + 8 + 1 = N by omega] at h1
  exact h1
