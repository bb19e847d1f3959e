/-! PURE: CutSearch.visitCorners. -/
def WJv (k : Nat) : Prop := k = 4 ∨ k = 43 ∨ k = 44
def Go (μ0 μ μ' : Mem) : Prop := eqO WIs WJv μ μ' ∧ μ'.1 4 9 = μ.1 4 9 ∧ SS μ0 μ' ∧ ∀ p, 0 < p 4 → Cov μ0 μ p → Cov μ0 μ' p
theorem Go.trans {μ0 a b c : Mem} (h1 : Go μ0 a b) (h2 : Go μ0 b c) : Go μ0 a c := ⟨h1.1.trans h2.1, h2.2.1.trans h1.2.1, h2.2.2.1, fun p hp hc => h2.2.2.2 p hp (h1.2.2.2 p hp hc)⟩
theorem Go.refl {μ0 a : Mem} (h : SS μ0 a) : Go μ0 a a := ⟨eqO.refl .., rfl, h, fun _ _ q => q⟩
theorem WJv_s {k : Nat} (h : WJv k) : WJs k := by unfold WJv at h; unfold WJs; omega
theorem SS.of {μ0 a b : Mem} (h : SS μ0 a) (h1 : ∀ k, WIs k → ∀ j, b.1 k j = a.1 k j) (h2 : ∀ j, b.2 4 j = a.2 4 j) : SS μ0 b := by
  have e13 : b.1 13 = a.1 13 := funext (h1 13 (by unfold WIs; omega))
  obtain ⟨⟨bc, a1, a2, a3, a4, a5, a6⟩, a7⟩ := h
  refine ⟨⟨bc, a1, by rw [h1 4 (by unfold WIs; omega), a2], by rw [e13]; exact a3, by rw [e13]; exact a4, fun i hi => by rw [h1 24 (by unfold WIs; omega)]; exact a5 i hi, fun x hx => ?_⟩, ?_⟩
  · rw [e13]
    rcases a6 x hx with q | ⟨q, i, q1, q2⟩
    · exact .inl q
    · exact .inr ⟨q, i, q1, by rw [h1 24 (by unfold WIs; omega)]; exact q2⟩
  · rw [h1 4 (by unfold WIs; omega), h2, h2]; exact a7
theorem Cov.of {μ0 a b : Mem} {p : Nat → Int} (h : Cov μ0 a p) (h1 : ∀ k, WIs k → ∀ j, b.1 k j = a.1 k j) (h2 : ∀ j, b.2 4 j = a.2 4 j) : Cov μ0 b p := by
  unfold Cov
  rw [h1 4 (by unfold WIs; omega), h1 4 (by unfold WIs; omega), h2, h2]
  refine ⟨h.1, fun q => ?_⟩
  obtain ⟨i, bc, x1, x2, x3, x4⟩ := h.2 q
  exact ⟨i, bc, x1, x2, x3, by rw [h1 24 (by unfold WIs; omega)]; exact x4⟩
theorem stk_eq {μ0 μ : Mem} (hq : eqO WIs WJs μ0 μ) : stk μ = stk μ0 := by
  funext j
  unfold stk
  rw [hq.1 17 j (by unfold WIs; omega)]
theorem tF_eq {μ0 μ : Mem} (h : stk μ = stk μ0) (full : Nat) : tF μ full = tF μ0 full := by
  funext j
  unfold tF
  rw [h]
theorem box_eq {μ0 μ : Mem} (h : stk μ = stk μ0) (p : Nat → Int) : InBox μ p ↔ InBox μ0 p := by
  unfold InBox
  rw [h]
theorem ended8 : ∀ O, O < 16 → ∀ F, F < 16 → (nI O &&& (nI F ^^^ (-1))) = nI (O &&& (31 ^^^ F)) ∧ O &&& (31 ^^^ F) < 16 ∧ ∀ b, b < 4 → ((O &&& (31 ^^^ F)).testBit b = true ↔ O.testBit b = true ∧ F.testBit b = false) := by decide +kernel
theorem pop_sw : ∀ F, F < 16 → ∀ j, j < 4 → F.testBit j = true → ∀ c, c < 5 → F.testBit c = false → pop8 ((F ^^^ 2 ^ j) ||| 2 ^ c) = pop8 F := by decide +kernel
theorem f4_16 : ∀ F, F < 16 → F.testBit 4 = false := by decide +kernel
def fc : Nat → Int
  | 0 => 1
  | k + 1 => (k + 1 : Int) * fc k
def bP (k a : Nat) : Int := fc k * 100 ^ k * 200 ^ a
def BdR (R : List (Nat → Int)) (a : Nat) : Prop := (∀ G, G < 16 → bnd (bP R.length a) (mn R G)) ∧ ∀ G, 16 ≤ G → G < 32 → bnd (1000 * bP R.length a) (mn R G)
theorem bP_le : ∀ k, k ≤ 4 → ∀ a, a ≤ 2 → 0 ≤ bP k a ∧ bP k a ≤ 100000000000000 := by decide +kernel
/-- what holds of the memory while the search stands at rows R -/
def At (μ0 : Mem) (R : List (Nat → Int)) (μ : Mem) : Prop := eqO WIs WJs μ0 μ ∧ μ.1 4 9 = nI (opn μ0) ∧ (∀ G, G < 32 → pop8 G = R.length → μ.2 (70 + R.length) G = JJ (mn R G)) ∧ SS μ0 μ
def RsOK (μ0 : Mem) (R : List (Nat → Int)) (a : Nat) : Prop := RowsOK μ0 R ∧ BdR R a ∧ R.length ≤ 4 ∧ a ≤ 2
theorem At.go {μ0 : Mem} {R : List (Nat → Int)} {μ μ' : Mem} (h : At μ0 R μ) (g : Go μ0 μ μ') (hl : R.length ≤ 4) : At μ0 R μ' :=
  ⟨h.1.trans (g.1.mono (fun _ q => q) (fun _ q => WJv_s q)), g.2.1.trans h.2.1, fun G hG hp => (g.1.2 (70 + R.length) G (by unfold WJv; omega)).trans (h.2.2.1 G hG hp), g.2.2.1⟩
def Hit0 (μ0 : Mem) (R : List (Nat → Int)) (F full : Nat) : Prop := mn R F ≠ 0 ∧ (∀ j, j < 4 → F.testBit j = true → 0 < stk μ0 j ∧ full.testBit j = false) ∧ (∀ j, j < 4 → full.testBit j = true → 0 < stk μ0 j) ∧ InBox μ0 (pt (mn R) (tF μ0 full) F)
theorem stk_bd {μ0 : Mem} (hA : InvA μ0) : ∀ j, j < 4 → 0 ≤ stk μ0 j ∧ stk μ0 j ≤ 9 := by
  obtain ⟨n, -, -, -, hst, -⟩ := hA
  intro j hj
  obtain ⟨-, a, b, -⟩ := hst j hj
  exact ⟨a, b⟩
theorem visit_in {N m : Nat} {rl : Nat → Nat} {μ0 : Mem} {R : List (Nat → Int)} {a F : Nat} {K : Int32 → Nat → Int32 → Mem → Option Mem} {x1 x3 : Int32} (hN : 200 ≤ N) (hx : Cx μ0 m rl) (hR : RsOK μ0 R a) (hF : F < 16) (hp : pop8 F = R.length) (hz : mn R F ≠ 0) (hFo : ∀ j, j < 4 → F.testBit j = true → (opn μ0).testBit j = true) :
    ∀ (k n : Nat) (μ : Mem), k ≤ 16 → At μ0 R μ → ∃ μ', M_CS_visitCorners_69 N K (n + k + 1) x1 (70 + R.length) x3 (nI F) (nI (opn μ0 &&& (31 ^^^ F))) (nI (16 - k)) μ = K x1 (70 + R.length) (x3 + 1) μ' ∧ Go μ0 μ μ' ∧ ∀ full, 16 - k ≤ full → full < 16 → Hit0 μ0 R F full → Cov μ0 μ' (pt (mn R) (tF μ0 full) F) := by
  obtain ⟨hRo, ⟨hb1, hb2⟩, hl4, ha⟩ := hR
  have hst := stk_bd hx.1
  obtain ⟨bp0, bp1⟩ := bP_le R.length hl4 a ha
  obtain ⟨e1, e2, e3⟩ := ended8 (opn μ0) (opn_lt μ0) F hF
  intro k
  induction k with
  | zero =>
    intro n μ _ hAt
    rw [M_CS_visitCorners_69, if_pos (by decide)]
    exact ⟨μ, rfl, Go.refl hAt.2.2.2, fun full h1 h2 => absurd h2 (by omega)⟩
  | succ k ih =>
    intro n μ hk hAt
    obtain ⟨full, hfu⟩ : ∃ full, full = 16 - (k + 1) := ⟨_, rfl⟩
    have hn : 16 - k = full + 1 := by omega
    have hf16 : ¬ (16 : Int32) ≤ nI full := nI_ge (a := full) (b := 16) (by omega) (by decide)
    have hsb := sub_bits full (by omega) (opn μ0 &&& (31 ^^^ F)) e2
    rw [← hfu, show n + (k + 1) + 1 = (n + k + 1) + 1 by omega, M_CS_visitCorners_69, if_neg hf16]
    -- the rest of the loop
    have go : ∀ μ1, Go μ0 μ μ1 → (Hit0 μ0 R F full → Cov μ0 μ1 (pt (mn R) (tF μ0 full) F)) → ∃ μ', M_CS_visitCorners_69 N K (n + k + 1) x1 (70 + R.length) x3 (nI F) (nI (opn μ0 &&& (31 ^^^ F))) (nI full + 1) μ1 = K x1 (70 + R.length) (x3 + 1) μ' ∧ Go μ0 μ μ' ∧ ∀ full', full ≤ full' → full' < 16 → Hit0 μ0 R F full' → Cov μ0 μ' (pt (mn R) (tF μ0 full') F) := by
      intro μ1 hg hc
      obtain ⟨μ', q1, q2, q3⟩ := ih n μ1 (by omega) (hAt.go hg hl4)
      rw [hn] at q1 q3
      refine ⟨μ', by rw [nI_1]; exact q1, hg.trans q2, fun full' h1 h2 hh => ?_⟩
      by_cases e : full' = full
      · rw [e] at hh ⊢
        exact q2.2.2.2 _ hh.2.2.2.1 (hc hh)
      · exact q3 full' (by omega) h2 hh
    by_cases hs : (nI full &&& (nI (opn μ0 &&& (31 ^^^ F)) ^^^ -1)) = 0
    · rw [if_pos hs]
      have hsub := hsb.mp hs
      have hff : ∀ j, j < 4 → F.testBit j = true → full.testBit j = false := fun j hj hb => by
        cases h : full.testBit j with
        | false => rfl
        | true =>
          have := ((e3 j hj).mp (hsub j (by omega) h)).2
          rw [hb] at this; cases this
      have sk := stk_eq hAt.1
      have sm := s_meets (N := N) (k1 := 70 + R.length) (F := F) (full := full) (f := mn R) (μ := μ) (by omega) hF (by omega) (by omega) (by omega) (by rw [sk]; exact hst) (hAt.2.2.1 F (by omega) hp) hz
        (fun j hj hb c hc hcc => by
          have hcF : F.testBit c = false := by
            rcases hcc with e | e
            · rw [e]; exact f4_16 F hF
            · cases h : F.testBit c with
              | false => rfl
              | true =>
                have c4 := bit_lt4 hF h
                rw [hff c c4 h] at e; cases e
          exact hAt.2.2.1 _ (or5 _ (xor4 F hF j hj hb) c hc) (by rw [pop_sw F hF j hj hb c hc hcF, hp]))
        (by have := hb1 F hF; unfold bnd at this ⊢; omega)
        (fun j hj hb => by
          have := rp_bnd (P := bP R.length a) (Q := 1000 * bP R.length a) (f := mn R) (t := tF μ full) (o := F ^^^ 2 ^ j) (j := j) bp0 (xor4 F hF j hj hb) hb1 hb2 (fun c hc => by
            rw [tF_eq sk]
            have := hst c hc
            unfold tF bnd
            by_cases q : full.testBit c = true
            · rw [if_pos q]; omega
            · rw [if_neg q]; omega)
          unfold bnd at this ⊢
          omega)
      rw [tF_eq sk, box_eq sk] at sm
      obtain ⟨fl, μ1, s1, s2, s3, s4⟩ := sm
      have hq1 : eqO WIs WJv μ μ1 := ⟨fun k j _ => by rw [s2], fun k j hk => s3 k j (fun e => hk (by unfold WJv; omega))⟩
      have ss1 : SS μ0 μ1 := hAt.2.2.2.of (fun k _ j => by rw [s2]) (fun j => s3 4 j (by decide))
      have g1 : Go μ0 μ μ1 := ⟨hq1, by rw [s2], ss1, fun p _ hc => hc.of (fun k _ j => by rw [s2]) (fun j => s3 4 j (by decide))⟩
      rw [s1, bs2]
      rcases s4 with ⟨f0, nb⟩ | ⟨f1, ib, pv⟩
      · rw [if_pos f0]
        exact go μ1 g1 (fun hh => absurd hh.2.2.2 nb)
      · rw [if_neg (by rw [f1]; decide)]
        have hco := corner_sound hF hRo hz hff ib
        have h4 : pt (mn R) (tF μ0 full) F 4 ≤ 100000000000000 := by
          have := hb1 F hF
          rw [pt_4]
          unfold bnd at this
          rcases sgz_pm (mn R F) with e | e <;> rw [e] <;> omega
        obtain ⟨μ2, w1, w2, w3, w4, w5, w6⟩ := s_weigh hN hx (hAt.1.trans (hq1.mono (fun _ q => q) (fun _ q => WJv_s q))) pv hco h4 ss1
        rw [w1, bs]
        exact go μ2 (g1.trans ⟨w2.mono (fun _ q => q) (fun k q => by unfold WJv; omega), w3, w4, w6⟩) (fun _ => w5)
    · rw [if_neg hs]
      refine go μ (Go.refl hAt.2.2.2) (fun hh => absurd (hsb.mpr (fun b hb hbb => ?_)) hs)
      have b4 := bit_lt4 (show full < 16 by omega) hbb
      refine (e3 b b4).mpr ⟨(opn_bit μ0 b4).mpr (hh.2.2.1 b b4 hbb), ?_⟩
      cases h : F.testBit b with
      | false => rfl
      | true =>
        have := (hh.2.1 b b4 h).2
        rw [hbb] at this; cases this
theorem visit_out {N m : Nat} {rl : Nat → Nat} {μ0 : Mem} {R : List (Nat → Int)} {a : Nat} (hN : 200 ≤ N) (hx : Cx μ0 m rl) (hR : RsOK μ0 R a) :
    ∀ (k n : Nat) (μ : Mem), k ≤ sT (R.length + 1) - sT R.length → At μ0 R μ → ∃ μ', M_CS_visitCorners_13 N (n + k + 1) (nI R.length) (70 + R.length) (nI (sT (R.length + 1) - k)) μ = some μ' ∧ Go μ0 μ μ' ∧ ∀ i F full, sT (R.length + 1) - k ≤ i → i < sT (R.length + 1) → sN i = F → F < 16 → full < 16 → Hit0 μ0 R F full → Cov μ0 μ' (pt (mn R) (tF μ0 full) F) := by
  have hl4 := hR.2.2.1
  have l2 := sT_le R.length (by omega)
  have lst := ldS_starts (R.length + 1) (by omega)
  obtain ⟨bp0, bp1⟩ := bP_le R.length hl4 a hR.2.2.2
  intro k
  induction k with
  | zero =>
    intro n μ _ hAt
    rw [M_CS_visitCorners_13, nI_1, lst, bs, if_pos (nI_le (by omega) (by omega))]
    exact ⟨μ, rfl, Go.refl hAt.2.2.2, fun i F full h1 h2 => absurd h2 (by omega)⟩
  | succ k ih =>
    intro n μ hk hAt
    obtain ⟨i, hi⟩ : ∃ i, i = sT (R.length + 1) - (k + 1) := ⟨_, rfl⟩
    have hn : i + 1 = sT (R.length + 1) - k := by omega
    obtain ⟨p1, p2⟩ := sets_pop R.length (by omega) i (by omega) (by omega) (by omega)
    have hAt' := hAt.2.2.1 (sN i) p2 p1
    have l0 : lnJ (70 + R.length) = 32 := lnJ_min (by omega)
    rw [← hi, show n + (k + 1) + 1 = (n + k + 1) + 1 by omega, M_CS_visitCorners_13, nI_1, lst, bs, if_neg (nI_ge (by omega) (by omega)), ldS_sets i (by omega), bs, hAt.2.1]
    have hsb := sub_bits (sN i) p2 (opn μ0) (opn_lt μ0)
    have go : ∀ μ1, Go μ0 μ μ1 → (∀ full, sN i < 16 → full < 16 → Hit0 μ0 R (sN i) full → Cov μ0 μ1 (pt (mn R) (tF μ0 full) (sN i))) → ∃ μ', M_CS_visitCorners_13 N (n + k + 1) (nI R.length) (70 + R.length) (nI i + 1) μ1 = some μ' ∧ Go μ0 μ μ' ∧ ∀ i' F full, i ≤ i' → i' < sT (R.length + 1) → sN i' = F → F < 16 → full < 16 → Hit0 μ0 R F full → Cov μ0 μ' (pt (mn R) (tF μ0 full) F) := by
      intro μ1 hg hc
      obtain ⟨μ', q1, q2, q3⟩ := ih n μ1 (by omega) (hAt.go hg hl4)
      refine ⟨μ', by rw [nI_1, hn]; exact q1, hg.trans q2, fun i' F full h1 h2 h3 h4 h5 hh => ?_⟩
      by_cases e : i' = i
      · subst h3
        rw [e] at hh h4 ⊢
        exact q2.2.2.2 _ hh.2.2.2.1 (hc full h4 h5 hh)
      · exact q3 i' F full (by omega) h2 h3 h4 h5 hh
    by_cases hs : (nI (sN i) &&& (nI (opn μ0) ^^^ -1)) = 0
    · rw [if_pos hs, ldJ_n (by omega) (by omega) (by rw [l0]; exact p2) (by rw [l0]; decide), bs, hAt', nI_1]
      have hsub := hsb.mp hs
      have hF16 : sN i < 16 := by
        apply Classical.byContradiction
        intro hge
        have h4 : ∀ G, G < 32 → ¬ G < 16 → G.testBit 4 = true := by decide
        have := hsub 4 (by decide) (h4 _ p2 hge)
        have := bit_lt4 (opn_lt μ0) this
        omega
      have hcmp : (lg_cmp (JJ (mn R (sN i))) 0 = 0) ↔ mn R (sN i) = 0 := by
        rw [cmp_eq, ← Int64.toInt_inj, JJ_bnd (hR.2.1.1 _ hF16) (by omega)]
        exact Iff.rfl
      by_cases hz : mn R (sN i) = 0
      · rw [if_pos (hcmp.mpr hz), ← nI_1]
        exact go μ (Go.refl hAt.2.2.2) (fun full _ _ hh => absurd hz hh.1)
      · rw [if_neg (fun q => hz (hcmp.mp q)), nm_eq, (ended8 (opn μ0) (opn_lt μ0) (sN i) hF16).1]
        obtain ⟨μ1, v1, v2, v3⟩ := visit_in (K := M_CS_visitCorners_13 N (n + k + 1)) (x1 := nI R.length) (x3 := nI i) hN hx hR hF16 p1 hz (fun j hj hb => hsub j (by omega) hb) 16 (N - 17) μ (by omega) hAt
        rw [show N - 17 + 16 + 1 = N by omega, Nat.sub_self, nI_0] at v1
        rw [v1]
        exact go μ1 v2 (fun full _ hfu hh => v3 full (by omega) hfu hh)
    · rw [if_neg hs]
      refine go μ (Go.refl hAt.2.2.2) (fun full h16 _ hh => absurd (hsb.mpr (fun b hb hbb => ?_)) hs)
      have b4 := bit_lt4 h16 hbb
      exact (opn_bit μ0 b4).mpr (hh.2.1 b b4 hbb).1
theorem s_visit {N m : Nat} {rl : Nat → Nat} {μ0 μ : Mem} {R : List (Nat → Int)} {a : Nat} (hN : 200 ≤ N) (hx : Cx μ0 m rl) (hR : RsOK μ0 R a) (hAt : At μ0 R μ) :
    ∃ μ', M_CS_visitCorners N (nI R.length) μ = some μ' ∧ Go μ0 μ μ' ∧ ∀ F full, F < 16 → full < 16 → Hit0 μ0 R F full → Cov μ0 μ' (pt (mn R) (tF μ0 full) F) := by
  have hl4 := hR.2.2.1
  have l2 := sT_le R.length (by omega)
  obtain ⟨μ', q1, q2, q3⟩ := visit_out hN hx hR (sT (R.length + 1) - sT R.length) (N - (sT (R.length + 1) - sT R.length) - 1) μ (Nat.le_refl _) hAt
  rw [show N - (sT (R.length + 1) - sT R.length) - 1 + (sT (R.length + 1) - sT R.length) + 1 = N by omega, show sT (R.length + 1) - (sT (R.length + 1) - sT R.length) = sT R.length by omega] at q1
  refine ⟨μ', ?_, q2, fun F full hF hfu hh => ?_⟩
  · rw [M_CS_visitCorners, ldA_n (by decide) (by decide) (by show R.length < 5; omega) (by decide), bs, ldS_starts R.length (by omega), bs]
    exact q1
  · have hp := mn_len R (show F < 32 by omega) hh.1
    obtain ⟨i, hi, h1, h2, h3⟩ := sets_of F (by omega)
    rw [hp] at h1 h2
    exact q3 i F full (by omega) h2 h3 hF hfu hh
