/-! PURE: CutSearch.tighten and search. -/
theorem fo_bd {μ : Mem} (hA : InvA μ) {w : Nat} (hw : w < 5) : (∀ c, c < 4 → bnd 100 (fo μ w c)) ∧ fo μ w 4 = 0 := by
  obtain ⟨n, -, -, -, -, -, ha, g6, -⟩ := hA
  refine ⟨fun c hc => ?_, ?_⟩
  · obtain ⟨e, a, b, -⟩ := ha c hc w hw
    unfold fo bnd
    rw [e, i2l_toInt]
    exact ⟨a, b⟩
  · unfold fo
    rw [g6 w hw]; rfl
theorem fo_5 {μ : Mem} (hA : InvA μ) : (∀ c, c < 4 → fo μ 5 c = 1) ∧ fo μ 5 4 = 0 ∧ (∀ c, c < 4 → fo μ 6 c = 0) ∧ fo μ 6 4 = 1 := by
  obtain ⟨n, -, -, -, -, -, -, -, g7, g8, g9, g10⟩ := hA
  refine ⟨fun c hc => ?_, ?_, fun c hc => ?_, ?_⟩
  · show (μ.2 52 c).toInt = 1
    rw [g7 c hc]; rfl
  · show (μ.2 52 4).toInt = 0
    rw [g8]; rfl
  · show (μ.2 53 c).toInt = 0
    rw [g9 c hc]; rfl
  · show (μ.2 53 4).toInt = 1
    rw [g10]; rfl
def rat (r : Nat) : Prop := r = 5 ∨ r = 6
theorem rat_fg {μ : Mem} {r : Nat} (h : RuleOK μ r) (hr : rat r) : fI μ r < 5 ∧ gI μ r < 5 ∧ 1 ≤ (μ.1 22 r).toInt ∧ (μ.1 22 r).toInt ≤ 100 ∧ 0 ≤ (μ.1 20 r).toInt ∧ (μ.1 20 r).toInt ≤ 100 ∧ 0 ≤ (μ.1 21 r).toInt ∧ (μ.1 21 r).toInt ≤ 100 := by
  obtain ⟨-, -, h3, -, h5, -⟩ := h
  obtain ⟨⟨f, g, hf, hg, e1, -, e2, -⟩, -, a, b, c, d⟩ := h5 hr
  unfold fI gI
  rw [e1, e2, nI_clamp (by omega), nI_clamp (by omega)]
  omega
theorem row_rat {μ : Mem} (hA : InvA μ) {r : Nat} (h : RuleOK μ r) (hr : rat r) : (∀ c, c < 4 → bnd 20000 (rwL μ r c) ∧ bnd 20000 (rwH μ r c)) ∧ bnd 0 (rwL μ r 4) ∧ bnd 0 (rwH μ r 4) := by
  obtain ⟨hf, hg, o1, o2, l1, l2, u1, u2⟩ := rat_fg h hr
  obtain ⟨bf, zf⟩ := fo_bd hA hf
  obtain ⟨bg, zg⟩ := fo_bd hA hg
  refine ⟨fun c hc => ?_, ?_, ?_⟩
  · have t1 := bd_mul (a := (μ.1 22 r).toInt) (A := 100) ⟨by omega, by omega⟩ (bf c hc)
    have t2 := bd_mul (a := (μ.1 20 r).toInt) (A := 100) ⟨by omega, by omega⟩ (bg c hc)
    have t3 := bd_mul (a := (μ.1 21 r).toInt) (A := 100) ⟨by omega, by omega⟩ (bg c hc)
    unfold rwL rwH
    rw [Int.neg_mul, Int.neg_mul]
    unfold bnd at *
    omega
  · unfold rwL; rw [zf, zg, Int.mul_zero, Int.mul_zero]; unfold bnd; omega
  · unfold rwH; rw [zf, zg, Int.mul_zero, Int.mul_zero]; unfold bnd; omega
theorem row_not {μ : Mem} (hA : InvA μ) {r : Nat} (hr8 : r < 8) (h : RuleOK μ r) (hr : ¬ rat r) : (∀ c, c < 4 → bnd 100 (rwL μ r c) ∧ bnd 100 (rwH μ r c)) ∧ bnd 100000 (rwL μ r 4) ∧ bnd 100000 (rwH μ r 4) := by
  obtain ⟨-, -, h3, h4, -, h6⟩ := h
  obtain ⟨f51, f54, f61, f64⟩ := fo_5 hA
  have six : gI μ r = 6 ∧ (μ.1 22 r).toInt = 1 ∧ -100000 ≤ (μ.1 20 r).toInt ∧ (μ.1 20 r).toInt ≤ 100000 ∧ -100000 ≤ (μ.1 21 r).toInt ∧ (μ.1 21 r).toInt ≤ 100000 ∧ (∀ c, c < 4 → bnd 100 (fo μ (fI μ r) c)) ∧ fo μ (fI μ r) 4 = 0 := by
    by_cases h5 : r < 5
    · obtain ⟨a, b, c, d, e⟩ := h4 h5
      have ef : fI μ r = r := by unfold fI; rw [a, nI_clamp (by omega)]
      rw [ef]
      obtain ⟨x, y⟩ := fo_bd hA h5
      refine ⟨by unfold gI; rw [b]; rfl, by rw [c]; rfl, by omega, by omega, by omega, by omega, x, y⟩
    · have e7 : r = 7 := by unfold rat at hr; omega
      obtain ⟨a, b, c, d, e⟩ := h6 e7
      have ef : fI μ r = 5 := by unfold fI; rw [a]; rfl
      rw [ef]
      refine ⟨by unfold gI; rw [b]; rfl, by rw [c]; rfl, by omega, by omega, by omega, by omega, fun c hc => ?_, f54⟩
      rw [f51 c hc]; unfold bnd; omega
  obtain ⟨g6, o1, l1, l2, u1, u2, bf, zf⟩ := six
  unfold rwL rwH
  rw [g6, o1, f64, zf]
  refine ⟨fun c hc => ?_, ?_, ?_⟩
  · rw [f61 c hc, Int.mul_zero, Int.mul_zero]
    have := bf c hc
    unfold bnd at *
    omega
  · unfold bnd; omega
  · unfold bnd; omega
theorem bP_S (k a : Nat) : bP (k + 1) a = (k + 1 : Int) * (100 * bP k a) := by
  show (k + 1 : Int) * fc k * 100 ^ (k + 1) * 200 ^ a = (k + 1 : Int) * (100 * (fc k * 100 ^ k * 200 ^ a))
  rw [Int.pow_succ]
  generalize (100 : Int) ^ k = x
  generalize (200 : Int) ^ a = y
  grind
theorem bP_A (k a : Nat) : bP (k + 1) (a + 1) = (k + 1 : Int) * (20000 * bP k a) := by
  show (k + 1 : Int) * fc k * 100 ^ (k + 1) * 200 ^ (a + 1) = (k + 1 : Int) * (20000 * (fc k * 100 ^ k * 200 ^ a))
  rw [Int.pow_succ, Int.pow_succ]
  generalize (100 : Int) ^ k = x
  generalize (200 : Int) ^ a = y
  grind
theorem bP_nn (k a : Nat) : 0 ≤ bP k a := by
  have hf : ∀ k, 0 ≤ fc k := fun k => by
    induction k with
    | zero => decide
    | succ k ih => exact Int.mul_nonneg (by omega) ih
  unfold bP
  exact Int.mul_nonneg (Int.mul_nonneg (hf k) (Int.pow_nonneg (by decide))) (Int.pow_nonneg (by decide))
theorem BdR_S {R : List (Nat → Int)} {a : Nat} (h : BdR R a) {r : Nat → Int} (h1 : ∀ c, c < 4 → bnd 100 (r c)) (h2 : bnd 100000 (r 4)) : BdR (r :: R) a := by
  have hp := bP_nn R.length a
  obtain ⟨q1, q2⟩ := mn_bd (r := r) (R := R) (m := 100) (P := bP R.length a) (o := 100000) (Q := 1000 * bP R.length a) hp (by omega) (by decide) (by decide) h1 h2 h.1 h.2
  unfold BdR
  rw [List.length_cons, bP_S]
  refine ⟨q1, fun G g1 g2 => ?_⟩
  have e : 1000 * ((R.length + 1 : Int) * (100 * bP R.length a)) = 100000 * bP R.length a + (R.length : Int) * (100 * (1000 * bP R.length a)) := by grind
  rw [e]
  exact q2 G g1 g2
theorem BdR_A {R : List (Nat → Int)} {a : Nat} (h : BdR R a) {r : Nat → Int} (h1 : ∀ c, c < 4 → bnd 20000 (r c)) (h2 : bnd 0 (r 4)) : BdR (r :: R) (a + 1) := by
  have hp := bP_nn R.length a
  obtain ⟨q1, q2⟩ := mn_bd (r := r) (R := R) (m := 20000) (P := bP R.length a) (o := 0) (Q := 1000 * bP R.length a) hp (by omega) (by decide) (by decide) h1 h2 h.1 h.2
  unfold BdR
  rw [List.length_cons, bP_A]
  refine ⟨q1, fun G g1 g2 => ?_⟩
  have e : 1000 * ((R.length + 1 : Int) * (20000 * bP R.length a)) = 0 * bP R.length a + (R.length : Int) * (20000 * (1000 * bP R.length a)) + 20000000 * bP R.length a := by grind
  rw [e]
  have := q2 G g1 g2
  unfold bnd at *
  omega
def NxOK (m : Nat) (rl : Nat → Nat) (fr a : Nat) : Prop := ∃ B, a ≤ B - 5 ∧ ∀ i, fr ≤ i → i < m → B ≤ rl i
theorem rows_single {μ0 : Mem} {m : Nat} {rl : Nat → Nat} (hx : Cx μ0 m rl) {R : List (Nat → Int)} {a fr i c : Nat} (hR : RsOK μ0 R a) (hn : NxOK m rl fr a) (hi : fr ≤ i) (ok : okI μ0 rl m (i, c)) (hd : R.length < 4) {row : Nat → Int} (hc : c = 0 ∧ row = rwL μ0 (rl i) ∨ c = 1 ∧ row = rwH μ0 (rl i)) : itR μ0 rl (i, c) = [row] ∧ ∃ a', RsOK μ0 (row :: R) a' ∧ NxOK m rl (i + 1) a' := by
  have him : i < m := ok.1
  have eit : itR μ0 rl (i, c) = [row] := by
    unfold itR
    rcases hc with ⟨rfl, rfl⟩ | ⟨rfl, rfl⟩
    · rfl
    · rfl
  refine ⟨eit, ?_⟩
  obtain ⟨r8, rT⟩ := hx.rl i him
  have hro := told_lt hx.2.1 r8 rT
  obtain ⟨B, hB1, hB2⟩ := hn
  have hBi := hB2 i hi him
  have mono : ∀ i', i + 1 ≤ i' → i' < m → rl i + 1 ≤ rl i' := fun i' h h' => hx.2.2.2.2.2.2.1 i i' (by omega) h'
  have rok : RowsOK μ0 (row :: R) := by
    have := rowsOK_add hx.2.1 hx.rl ok hR.1
    rw [eit] at this
    exact this
  by_cases hr : rat (rl i)
  · obtain ⟨b1, b2, b3⟩ := row_rat hx.1 hro hr
    refine ⟨a + 1, ⟨rok, ?_, by rw [List.length_cons]; omega, ?_⟩, rl i + 1, ?_, mono⟩
    · rcases hc with ⟨-, rfl⟩ | ⟨-, rfl⟩
      · exact BdR_A hR.2.1 (fun c hc => (b1 c hc).1) b2
      · exact BdR_A hR.2.1 (fun c hc => (b1 c hc).2) b3
    · unfold rat at hr; omega
    · unfold rat at hr; omega
  · obtain ⟨b1, b2, b3⟩ := row_not hx.1 r8 hro hr
    refine ⟨a, ⟨rok, ?_, by rw [List.length_cons]; omega, hR.2.2.2⟩, rl i + 1, by omega, mono⟩
    rcases hc with ⟨-, rfl⟩ | ⟨-, rfl⟩
    · exact BdR_S hR.2.1 (fun c hc => (b1 c hc).1) b2
    · exact BdR_S hR.2.1 (fun c hc => (b1 c hc).2) b3
def GoT (μ0 : Mem) (d : Nat) (μ μ' : Mem) : Prop := eqO WIs WJs μ μ' ∧ (∀ k, 70 ≤ k → k ≤ 70 + d → ∀ j, μ'.2 k j = μ.2 k j) ∧ μ'.1 4 9 = μ.1 4 9 ∧ SS μ0 μ' ∧ ∀ p, 0 < p 4 → Cov μ0 μ p → Cov μ0 μ' p
theorem GoT.trans {μ0 a b c : Mem} {d e : Nat} (h1 : GoT μ0 d a b) (h2 : GoT μ0 e b c) (he : d ≤ e) : GoT μ0 d a c := ⟨h1.1.trans h2.1, fun k k1 k2 j => (h2.2.1 k k1 (by omega) j).trans (h1.2.1 k k1 k2 j), h2.2.2.1.trans h1.2.2.1, h2.2.2.2.1, fun p hp hc => h2.2.2.2.2 p hp (h1.2.2.2.2 p hp hc)⟩
theorem GoT.refl {μ0 a : Mem} {d : Nat} (h : SS μ0 a) : GoT μ0 d a a := ⟨eqO.refl .., fun _ _ _ _ => rfl, rfl, h, fun _ _ q => q⟩
theorem Go.T {μ0 a b : Mem} {d : Nat} (h : Go μ0 a b) (hd : d ≤ 4) : GoT μ0 d a b := ⟨h.1.mono (fun _ q => q) (fun _ q => WJv_s q), fun k k1 k2 j => h.1.2 k j (by unfold WJv; omega), h.2.1, h.2.2.1, h.2.2.2⟩
theorem At.goT {μ0 : Mem} {R : List (Nat → Int)} {μ μ' : Mem} (h : At μ0 R μ) (g : GoT μ0 R.length μ μ') : At μ0 R μ' :=
  ⟨h.1.trans g.1, g.2.2.1.trans h.2.1, fun G hG hp => (g.2.1 (70 + R.length) (by omega) (by omega) G).trans (h.2.2.1 G hG hp), g.2.2.2.1⟩
def CovIts (μ0 : Mem) (m : Nat) (rl : Nat → Nat) (fr : Nat) (R : List (Nat → Int)) (μ : Mem) : Prop := ∀ (its : List (Nat × Nat)) (F full : Nat), (∀ x, x ∈ its → okI μ0 rl m x ∧ fr ≤ x.1) → its.Pairwise (fun a b => a.1 < b.1) → F < 16 → full < 16 → Hit0 μ0 (ro μ0 rl its R) F full → Cov μ0 μ (pt (mn (ro μ0 rl its R)) (tF μ0 full) F)
theorem CovIts.go {μ0 : Mem} {m : Nat} {rl : Nat → Nat} {fr d : Nat} {R : List (Nat → Int)} {μ μ' : Mem} (h : CovIts μ0 m rl fr R μ) (g : GoT μ0 d μ μ') : CovIts μ0 m rl fr R μ' := fun its F full h1 h2 h3 h4 h5 => g.2.2.2.2 _ h5.2.2.2.1 (h its F full h1 h2 h3 h4 h5)
def TOK (N : Nat) (μ0 : Mem) (m : Nat) (rl : Nat → Nat) (f : Nat) : Prop := ∀ (fr : Nat) (R : List (Nat → Int)) (a : Nat) (μ : Mem), fr ≤ m → RsOK μ0 R a → NxOK m rl fr a → 6 ≤ f + R.length → At μ0 R μ → ∃ μ', M_CS_tighten N f (nI fr) (nI R.length) μ = some μ' ∧ GoT μ0 R.length μ μ' ∧ CovIts μ0 m rl fr R μ'
/-- a row is added: the memory stands at the longer list; and if it fixes nothing, no point lies that way -/
theorem add_at {N m : Nat} {rl : Nat → Nat} {μ0 μ : Mem} {R : List (Nat → Int)} {row : Nat → Int} {a' k2 : Nat} (hN : 200 ≤ N) (hR' : RsOK μ0 (row :: R) a') (hAt : At μ0 R μ) (h1 : 47 ≤ k2) (h2 : k2 < 70) (hc : ∀ c, c < 5 → μ0.2 k2 c = JJ (row c)) :
    ∃ fl μ1, M_CS_add N (nI R.length) k2 μ = some (fl, μ1) ∧ (fl = 0 ∨ fl = 1) ∧ At μ0 (row :: R) μ1 ∧ GoT μ0 R.length μ μ1 ∧ (fl = 0 → ∀ (l : List (Nat → Int)) (F full : Nat), F < 16 → ¬ Hit0 μ0 (l ++ row :: R) F full) := by
  have hl := hR'.2.2.1
  rw [List.length_cons] at hl
  have l2 : lnJ k2 = 5 := by
    by_cases q : k2 < 54
    · have := lnJ_form (m := k2 - 47) (by omega)
      rw [show 47 + (k2 - 47) = k2 by omega] at this
      exact this
    · have := lnJ_side (m := k2 - 54) (by omega)
      rw [show 54 + (k2 - 54) = k2 by omega] at this
      exact this
  obtain ⟨fl, μ1, a1, a2, a3, a4, a5, a6⟩ := s_add (N := N) (d := R.length) (k2 := k2) (O := opn μ0) (r := row) (f := mn R) (μ0 := μ) (by omega) (by omega) (by omega) h2 (by omega) (by rw [l2]; decide) (opn_lt μ0) hAt.2.1 (fun c hcc => by rw [hAt.1.2 k2 c (by unfold WJs; omega)]; exact hc c hcc) hAt.2.2.1
  have hq : eqO WIs WJs μ μ1 := ⟨fun k j _ => by rw [a3], fun k j hk => a4 k j (fun e => hk (by unfold WJs; omega))⟩
  have ss : SS μ0 μ1 := hAt.2.2.2.of (fun k _ j => by rw [a3]) (fun j => a4 4 j (by omega))
  refine ⟨fl, μ1, a1, a2, ⟨hAt.1.trans hq, by rw [a3]; exact hAt.2.1, fun G hG hp => ?_, ss⟩, ⟨hq, fun k k1 k2 j => a4 k j (by omega), by rw [a3], ss, fun p _ hcv => hcv.of (fun k _ j => by rw [a3]) (fun j => a4 4 j (by omega))⟩, fun h0 l F full hF hh => ?_⟩
  · rw [List.length_cons] at hp ⊢
    have := a5 G hG hp
    rw [show 70 + (R.length + 1) = 71 + R.length by omega]
    exact this
  · obtain ⟨H, hH, hsub, hz⟩ := mn_suf l (show F < 32 by omega) hh.1
    have hp := mn_len (row :: R) hH hz
    rw [List.length_cons] at hp
    have hH16 : H < 16 := by
      apply Classical.byContradiction
      intro hge
      have h4 : ∀ G, G < 32 → ¬ G < 16 → G.testBit 4 = true := by decide
      have := hsub 4 (h4 _ hH hge)
      rw [f4_16 F hF] at this
      cases this
    have hz0 := a6 h0 H hH hp (fun b hb => by
      have b4 := bit_lt4 hH16 hb
      exact (opn_bit μ0 b4).mpr (hh.2.1 b b4 (hsub b hb)).1)
    have hb := hR'.2.1.1 H hH16
    have hle := bP_le (row :: R).length hR'.2.2.1 a' hR'.2.2.2
    have e : (JJ (ex row (mn R) H)).toInt = ex row (mn R) H := JJ_bnd hb (by omega)
    rw [hz0] at e
    exact hz e.symm
theorem one_item {N m f : Nat} {rl : Nat → Nat} {μ0 μ : Mem} {R : List (Nat → Int)} {row : Nat → Int} {a' k2 i c : Nat} (hN : 200 ≤ N) (hT : TOK N μ0 m rl f) (him : i < m) (eit : itR μ0 rl (i, c) = [row]) (hR' : RsOK μ0 (row :: R) a') (hn' : NxOK m rl (i + 1) a') (hf : 6 ≤ f + (R.length + 1)) (hAt : At μ0 R μ) (h1 : 47 ≤ k2) (h2 : k2 < 70) (hc : ∀ c, c < 5 → μ0.2 k2 c = JJ (row c)) :
    ∃ μ2, (∀ K : Mem → Option Mem, (bn2 (M_CS_add N (nI R.length) k2 μ) fun r61 μ61 => if r61 = 0 then K μ61 else (M_CS_tighten N f (nI i + 1) (nI R.length + 1) μ61).bind K) = K μ2) ∧ GoT μ0 R.length μ μ2 ∧
      ∀ (its : List (Nat × Nat)) (F full : Nat), (∀ x, x ∈ (i, c) :: its → okI μ0 rl m x) → ((i, c) :: its).Pairwise (fun a b => a.1 < b.1) → F < 16 → full < 16 → Hit0 μ0 (ro μ0 rl ((i, c) :: its) R) F full → Cov μ0 μ2 (pt (mn (ro μ0 rl ((i, c) :: its) R)) (tF μ0 full) F) := by
  obtain ⟨fl, μ1, a1, a2, a3, a4, a5⟩ := add_at (rl := rl) (m := m) hN hR' hAt h1 h2 hc
  have ero : ∀ its, ro μ0 rl ((i, c) :: its) R = ro μ0 rl its (row :: R) := fun its => by
    show ro μ0 rl its (itR μ0 rl (i, c) ++ R) = _
    rw [eit]; rfl
  rcases a2 with f0 | f1
  · refine ⟨μ1, fun K => by rw [a1, bs2, if_pos f0], a4, fun its F full _ _ hF _ hh => ?_⟩
    rw [ero, ro_rd] at hh
    exact absurd hh (a5 f0 _ F full hF)
  · obtain ⟨μ2, t1, t2, t3⟩ := hT (i + 1) (row :: R) a' μ1 (by omega) hR' hn' (by rw [List.length_cons]; omega) a3
    rw [List.length_cons] at t1 t2
    refine ⟨μ2, fun K => by rw [a1, bs2, if_neg (by rw [f1]; decide), nI_1, nI_1, t1, bs], a4.trans t2 (by omega), fun its F full hok hpw hF hfu hh => ?_⟩
    rw [ero] at hh ⊢
    have hpc := List.pairwise_cons.mp hpw
    exact t3 its F full (fun x hx => ⟨hok x (List.mem_cons_of_mem _ hx), by have := hpc.1 x hx; exact this⟩) hpc.2 hF hfu hh
theorem both_item {N m f : Nat} {rl : Nat → Nat} {μ0 μ : Mem} {R : List (Nat → Int)} {a fr i : Nat} (hN : 200 ≤ N) (hx : Cx μ0 m rl) (hT : TOK N μ0 m rl f) (hR : RsOK μ0 R a) (hn : NxOK m rl fr a) (hi : fr ≤ i) (him : i < m) (hne : μ0.1 20 (rl i) ≠ μ0.1 21 (rl i)) (hf : 6 ≤ f + (R.length + 1)) (hAt : At μ0 R μ) :
    ∃ μ2, (∀ K : Mem → Option Mem, (bn2 (M_CS_addBoth N (nI R.length) (nI (rl i)) μ) fun r61 μ61 => if r61 = 0 then K μ61 else (M_CS_tighten N f (nI i + 1) (nI R.length + 2) μ61).bind K) = K μ2) ∧ GoT μ0 R.length μ μ2 ∧
      ∀ (its : List (Nat × Nat)) (F full : Nat), (∀ x, x ∈ (i, 2) :: its → okI μ0 rl m x) → ((i, 2) :: its).Pairwise (fun a b => a.1 < b.1) → F < 16 → full < 16 → Hit0 μ0 (ro μ0 rl ((i, 2) :: its) R) F full → Cov μ0 μ2 (pt (mn (ro μ0 rl ((i, 2) :: its) R)) (tF μ0 full) F) := by
  obtain ⟨r8, rT⟩ := hx.rl i him
  have hro := told_lt hx.2.1 r8 rT
  have q18 : ∀ μ', eqO WIs WJs μ0 μ' → ∀ k, 18 ≤ k → k < 23 → ldI μ' k (nI (rl i)) = some (μ0.1 k (rl i)) := fun μ' hq k k1 k2 => by
    have l : lnI k = 8 := by
      have : k = 18 ∨ k = 19 ∨ k = 20 ∨ k = 21 ∨ k = 22 := by omega
      rcases this with rfl | rfl | rfl | rfl | rfl <;> rfl
    rw [ldI_n (by omega) (by omega) (by rw [l]; exact r8) (by rw [l]; decide), hq.1 k _ (by unfold WIs; omega)]
  have stop : ∀ μ1, M_CS_addBoth N (nI R.length) (nI (rl i)) μ = some (0, μ1) → GoT μ0 R.length μ μ1 → (∀ (its : List (Nat × Nat)) (F full : Nat), (∀ x, x ∈ (i, 2) :: its → okI μ0 rl m x) → F < 16 → ¬ Hit0 μ0 (ro μ0 rl ((i, 2) :: its) R) F full) →
      ∃ μ2, (∀ K : Mem → Option Mem, (bn2 (M_CS_addBoth N (nI R.length) (nI (rl i)) μ) fun r61 μ61 => if r61 = 0 then K μ61 else (M_CS_tighten N f (nI i + 1) (nI R.length + 2) μ61).bind K) = K μ2) ∧ GoT μ0 R.length μ μ2 ∧
      ∀ (its : List (Nat × Nat)) (F full : Nat), (∀ x, x ∈ (i, 2) :: its → okI μ0 rl m x) → ((i, 2) :: its).Pairwise (fun a b => a.1 < b.1) → F < 16 → full < 16 → Hit0 μ0 (ro μ0 rl ((i, 2) :: its) R) F full → Cov μ0 μ2 (pt (mn (ro μ0 rl ((i, 2) :: its) R)) (tF μ0 full) F) :=
    fun μ1 e1 e2 e3 => ⟨μ1, fun K => by rw [e1, bs2, if_pos rfl], e2, fun its F full hok _ hF _ hh => absurd hh (e3 its F full hok hF)⟩
  have ero : ∀ its, ro μ0 rl ((i, 2) :: its) R = ro μ0 rl its (fo μ0 (gI μ0 (rl i)) :: fo μ0 (fI μ0 (rl i)) :: R) := fun its => rfl
  by_cases h6 : μ0.1 19 (rl i) = 6
  · refine stop μ ?_ (GoT.refl hAt.2.2.2) (fun its F full hok hF hh => ?_)
    · rw [M_CS_addBoth, q18 μ hAt.1 19 (by omega) (by omega), bs, if_pos h6, reZ_0]
    · rcases (hok _ (List.mem_cons_self ..)).2 with q | ⟨-, q | ⟨-, q⟩⟩
      · exact absurd q (show ¬ (2 : Nat) = 0 by decide)
      · exact absurd q (show ¬ (2 : Nat) = 1 by decide)
      · exact q h6
  · by_cases hd : 4 < R.length + 2
    · refine stop μ ?_ (GoT.refl hAt.2.2.2) (fun its F full hok hF hh => ?_)
      · have hlt : (4 : Int32) < nI R.length + 2 := by
          rw [show nI R.length + 2 = nI (R.length + 2) from nI_add _ 2]
          exact nI_lt (a := 4) hd (by have := hR.2.2.1; omega)
        rw [M_CS_addBoth, q18 μ hAt.1 19 (by omega) (by omega), bs, if_neg h6, if_pos hlt, reZ_0]
      · rw [ero, ro_rd] at hh
        have := mn_len _ (show F < 32 by omega) hh.1
        rw [List.length_append, List.length_cons, List.length_cons] at this
        have h4 : ∀ F, F < 16 → pop8 F ≤ 4 := by decide
        have := h4 F hF
        omega
    · have hlt : ¬ (4 : Int32) < nI R.length + 2 := by
        rw [show nI R.length + 2 = nI (R.length + 2) from nI_add _ 2]
        exact nI_nlt (a := 4) (b := R.length + 2) (by omega) (by omega)
      -- it is a ratio
      have hrat : rat (rl i) := by
        apply Classical.byContradiction
        intro hnr
        obtain ⟨-, -, -, h4, -, h7⟩ := hro
        unfold rat at hnr
        by_cases h5 : rl i < 5
        · exact h6 (h4 h5).2.1
        · exact h6 (h7 (by omega)).2.1
      obtain ⟨hf5, hg5, -⟩ := rat_fg hro hrat
      obtain ⟨f, g, -, -, e18, e19, ef, eg, -⟩ := rule_facts r8 hro
      rw [ef] at hf5
      rw [eg] at hg5
      obtain ⟨bf, zf⟩ := fo_bd hx.1 hf5
      obtain ⟨bg, zg⟩ := fo_bd hx.1 hg5
      have okx : okI μ0 rl m (i, 2) := ⟨him, .inr ⟨hne, .inr ⟨rfl, h6⟩⟩⟩
      have rok2 : RowsOK μ0 (fo μ0 g :: fo μ0 f :: R) := by
        have := rowsOK_add hx.2.1 hx.rl okx hR.1
        unfold itR at this
        dsimp only at this
        rw [if_neg (by decide), if_neg (by decide), ef, eg] at this
        exact this
      have bd1 : BdR (fo μ0 f :: R) a := BdR_S hR.2.1 bf (by rw [zf]; unfold bnd; omega)
      have bd2 : BdR (fo μ0 g :: fo μ0 f :: R) a := BdR_S bd1 bg (by rw [zg]; unfold bnd; omega)
      rw [ef, eg] at ero
      -- the first row alone need not be one that a point is looked for at: only its bounds count
      have cell : ∀ w c, μ0.2 (47 + w) c = JJ (fo μ0 w c) := fun w c => by unfold fo; rw [JJ_self]
      have add1 : ∃ fl μ1, M_CS_add N (nI R.length) (47 + f) μ = some (fl, μ1) ∧ (fl = 0 ∨ fl = 1) ∧ At μ0 (fo μ0 f :: R) μ1 ∧ GoT μ0 R.length μ μ1 ∧ (fl = 0 → ∀ (l : List (Nat → Int)) (F full : Nat), F < 16 → ¬ Hit0 μ0 (l ++ fo μ0 f :: R) F full) := by
        have l2 : lnJ (47 + f) = 5 := lnJ_form (by omega)
        obtain ⟨fl, μ1, a1, a2, a3, a4, a5, a6⟩ := s_add (N := N) (d := R.length) (k2 := 47 + f) (O := opn μ0) (r := fo μ0 f) (f := mn R) (μ0 := μ) (by omega) (by omega) (by omega) (by omega) (by omega) (by rw [l2]; decide) (opn_lt μ0) hAt.2.1 (fun c hcc => by rw [hAt.1.2 (47 + f) c (by unfold WJs; omega)]; exact cell f c) hAt.2.2.1
        have hq : eqO WIs WJs μ μ1 := ⟨fun k j _ => by rw [a3], fun k j hk => a4 k j (fun e => hk (by unfold WJs; omega))⟩
        have ss : SS μ0 μ1 := hAt.2.2.2.of (fun k _ j => by rw [a3]) (fun j => a4 4 j (by omega))
        refine ⟨fl, μ1, a1, a2, ⟨hAt.1.trans hq, by rw [a3]; exact hAt.2.1, fun G hG hp => ?_, ss⟩, ⟨hq, fun k k1 k2 j => a4 k j (by omega), by rw [a3], ss, fun p _ hcv => hcv.of (fun k _ j => by rw [a3]) (fun j => a4 4 j (by omega))⟩, fun h0 l F full hF hh => ?_⟩
        · rw [List.length_cons] at hp ⊢
          have := a5 G hG hp
          rw [show 70 + (R.length + 1) = 71 + R.length by omega]
          exact this
        · obtain ⟨H, hH, hsub, hz⟩ := mn_suf l (show F < 32 by omega) hh.1
          have hp := mn_len (fo μ0 f :: R) hH hz
          rw [List.length_cons] at hp
          have hH16 : H < 16 := by
            apply Classical.byContradiction
            intro hge
            have h4 : ∀ G, G < 32 → ¬ G < 16 → G.testBit 4 = true := by decide
            have := hsub 4 (h4 _ hH hge)
            rw [f4_16 F hF] at this
            cases this
          have hz0 := a6 h0 H hH hp (fun b hb => by
            have b4 := bit_lt4 hH16 hb
            exact (opn_bit μ0 b4).mpr (hh.2.1 b b4 (hsub b hb)).1)
          have hb := bd1.1 H hH16
          have hle := bP_le (fo μ0 f :: R).length (by rw [List.length_cons]; omega) a hR.2.2.2
          have e : (JJ (ex (fo μ0 f) (mn R) H)).toInt = ex (fo μ0 f) (mn R) H := JJ_bnd hb (by omega)
          rw [hz0] at e
          exact hz e.symm
      obtain ⟨fl, μ1, a1, a2, a3, a4, a5⟩ := add1
      rcases a2 with f0 | f1
      · refine stop μ1 ?_ a4 (fun its F full hok hF hh => ?_)
        · rw [M_CS_addBoth, q18 μ hAt.1 19 (by omega) (by omega), bs, if_neg h6, if_neg hlt, q18 μ hAt.1 18 (by omega) (by omega), bs, e18, ldA_n (by decide) (by decide) (by show f < 7; omega) (by decide), bs]
          show bn2 (M_CS_add N (nI R.length) (47 + f) μ) _ = _
          rw [a1, bs2, if_pos f0, reZ_0]
        · rw [ero, ro_rd] at hh
          have : rd μ0 rl its.reverse ++ fo μ0 g :: fo μ0 f :: R = (rd μ0 rl its.reverse ++ [fo μ0 g]) ++ fo μ0 f :: R := by rw [List.append_assoc]; rfl
          rw [this] at hh
          exact a5 f0 _ F full hF hh
      · have hR2 : RsOK μ0 (fo μ0 g :: fo μ0 f :: R) a := ⟨rok2, bd2, by rw [List.length_cons, List.length_cons]; omega, hR.2.2.2⟩
        obtain ⟨gl, μ2, b1, b2, b3, b4, b5⟩ := add_at (rl := rl) (m := m) (k2 := 47 + g) hN hR2 a3 (by omega) (by omega) (fun c _ => cell g c)
        rw [List.length_cons] at b1 b4
        have hq1 : eqO WIs WJs μ0 μ1 := a3.1
        have run : M_CS_addBoth N (nI R.length) (nI (rl i)) μ = if gl = 0 then reZ 0 μ2 else reZ 1 μ2 := by
          rw [M_CS_addBoth, q18 μ hAt.1 19 (by omega) (by omega), bs, if_neg h6, if_neg hlt, q18 μ hAt.1 18 (by omega) (by omega), bs, e18, ldA_n (by decide) (by decide) (by show f < 7; omega) (by decide), bs]
          show bn2 (M_CS_add N (nI R.length) (47 + f) μ) _ = _
          rw [a1, bs2, if_neg (by rw [f1]; decide), q18 μ1 hq1 19 (by omega) (by omega), bs, e19, ldA_n (by decide) (by decide) (by show g < 7; omega) (by decide), bs]
          show bn2 (M_CS_add N (nI R.length + 1) (47 + g) μ1) _ = _
          rw [nI_1, b1, bs2]
        rcases b2 with g0 | g1
        · refine stop μ2 (by rw [run, if_pos g0, reZ_0]) (a4.trans b4 (by omega)) (fun its F full hok hF hh => ?_)
          rw [ero, ro_rd] at hh
          exact b5 g0 _ F full hF hh
        · have hn2 : NxOK m rl (i + 1) a := by
            obtain ⟨B, hB1, hB2⟩ := hn
            exact ⟨B, hB1, fun i' h h' => hB2 i' (by omega) h'⟩
          obtain ⟨μ3, t1, t2, t3⟩ := hT (i + 1) (fo μ0 g :: fo μ0 f :: R) a μ2 (by omega) hR2 hn2 (by rw [List.length_cons, List.length_cons]; omega) b3
          rw [List.length_cons, List.length_cons] at t1 t2
          refine ⟨μ3, fun K => ?_, (a4.trans b4 (by omega)).trans t2 (by omega), fun its F full hok hpw hF hfu hh => ?_⟩
          · rw [run, if_neg (by rw [g1]; decide), reZ_1, bs2, if_neg (by decide), nI_1, show nI R.length + 2 = nI (R.length + 2) from nI_add _ 2, t1, bs]
          · rw [ero] at hh ⊢
            have hpc := List.pairwise_cons.mp hpw
            exact t3 its F full (fun x hxx => ⟨hok x (List.mem_cons_of_mem _ hxx), by have := hpc.1 x hxx; exact this⟩) hpc.2 hF hfu hh
theorem tight_loop {N m f : Nat} {rl : Nat → Nat} {μ0 : Mem} {R : List (Nat → Int)} {a fr : Nat} (hN : 200 ≤ N) (hx : Cx μ0 m rl) (hT : TOK N μ0 m rl f) (hR : RsOK μ0 R a) (hn : NxOK m rl fr a) (hd : R.length < 4) (hf : 6 ≤ f + (R.length + 1)) :
    ∀ (k n : Nat) (μ : Mem), k ≤ m → fr ≤ m - k → At μ0 R μ → ∃ μ', M_CS_tighten_21 N (M_CS_tighten N f) (n + k + 1) (nI R.length) (nI (m - k)) μ = some μ' ∧ GoT μ0 R.length μ μ' ∧
      ∀ (x : Nat × Nat) (its : List (Nat × Nat)) (F full : Nat), m - k ≤ x.1 → (∀ y, y ∈ x :: its → okI μ0 rl m y) → (x :: its).Pairwise (fun a b => a.1 < b.1) → F < 16 → full < 16 → Hit0 μ0 (ro μ0 rl (x :: its) R) F full → Cov μ0 μ' (pt (mn (ro μ0 rl (x :: its) R)) (tF μ0 full) F) := by
  obtain ⟨hA, hIR, hS⟩ := id hx
  have hm8 : m ≤ 8 := hS.1
  intro k
  induction k with
  | zero =>
    intro n μ _ _ hAt
    have h3 : μ.1 3 0 = nI m := by rw [hAt.1.1 3 0 (by unfold WIs; omega), hS.2.1]
    rw [M_CS_tighten_21, if_pos (by rw [h3]; exact nI_le (by omega) (by omega))]
    exact ⟨μ, rfl, GoT.refl hAt.2.2.2, fun x its F full h1 h2 => absurd (h2 x (List.mem_cons_self ..)).1 (by omega)⟩
  | succ k ih =>
    intro n μ hk hfr hAt
    obtain ⟨i, hi⟩ : ∃ i, i = m - (k + 1) := ⟨_, rfl⟩
    have him : i < m := by omega
    have hn1 : i + 1 = m - k := by omega
    have h3 : μ.1 3 0 = nI m := by rw [hAt.1.1 3 0 (by unfold WIs; omega), hS.2.1]
    obtain ⟨s23, s8, sT⟩ := hS.2.2.1 i him
    have hro := told_lt hIR s8 sT
    have h4n : ¬ (4 : Int32) ≤ nI R.length := nI_ge (a := R.length) (b := 4) hd (by decide)
    have e2i : (2 : Int32) * nI i = nI (2 * i) := by
      have : ∀ m, m < 8 → (2 : Int32) * nI m = nI (2 * m) := by decide
      exact this i (by omega)
    rw [← hi, show n + (k + 1) + 1 = (n + k + 1) + 1 by omega, M_CS_tighten_21, if_neg (by rw [h3]; exact nI_ge him (by omega)), if_neg h4n, ldI_n (by decide) (by decide) (by show i < 8; omega) (by decide), bs, hAt.1.1 23 i (by unfold WIs; omega), s23, e2i, ldA_n (by decide) (by decide) (by show 2 * i < 16; omega) (by decide), bs]
    -- the low side
    have cellS : ∀ k, k < 2 * m → ∀ c, c < 5 → μ0.2 (54 + k) c = JJ (rS μ0 rl k c) := hS.2.2.2.2.2
    obtain ⟨eL, aL, hRL, hnL⟩ := rows_single (c := 0) hx hR hn (show fr ≤ i by omega) ⟨him, .inl rfl⟩ hd (.inl ⟨rfl, rfl⟩)
    obtain ⟨μ1, k1, g1, c1⟩ := one_item (k2 := 54 + 2 * i) hN hT him eL hRL hnL hf hAt (by omega) (by omega) (fun c hc => by rw [cellS (2 * i) (by omega) c hc, rS_0 μ0 rl (by omega), show 2 * i / 2 = i by omega])
    have ld : ∀ μ', eqO WIs WJs μ0 μ' → ∀ k, 18 ≤ k → k < 23 → ldI μ' k (nI (rl i)) = some (μ0.1 k (rl i)) := fun μ' hq k k1 k2 => by
      have l : lnI k = 8 := by
        have : k = 18 ∨ k = 19 ∨ k = 20 ∨ k = 21 ∨ k = 22 := by omega
        rcases this with rfl | rfl | rfl | rfl | rfl <;> rfl
      rw [ldI_n (by omega) (by omega) (by rw [l]; exact s8) (by rw [l]; decide), hq.1 k _ (by unfold WIs; omega)]
    have hAt1 := hAt.goT g1
    -- the rest of the loop, from any memory that has met all of this rule's points
    have fin : ∀ μ9, GoT μ0 R.length μ μ9 → (∀ (c : Nat) (its : List (Nat × Nat)) (F full : Nat), (∀ x, x ∈ (i, c) :: its → okI μ0 rl m x) → ((i, c) :: its).Pairwise (fun a b => a.1 < b.1) → F < 16 → full < 16 → Hit0 μ0 (ro μ0 rl ((i, c) :: its) R) F full → Cov μ0 μ9 (pt (mn (ro μ0 rl ((i, c) :: its) R)) (tF μ0 full) F)) →
        ∃ μ', M_CS_tighten_21 N (M_CS_tighten N f) (n + k + 1) (nI R.length) (nI i + 1) μ9 = some μ' ∧ GoT μ0 R.length μ μ' ∧ ∀ (x : Nat × Nat) (its : List (Nat × Nat)) (F full : Nat), i ≤ x.1 → (∀ y, y ∈ x :: its → okI μ0 rl m y) → (x :: its).Pairwise (fun a b => a.1 < b.1) → F < 16 → full < 16 → Hit0 μ0 (ro μ0 rl (x :: its) R) F full → Cov μ0 μ' (pt (mn (ro μ0 rl (x :: its) R)) (tF μ0 full) F) := by
      intro μ9 g9 c9
      obtain ⟨μ', t1, t2, t3⟩ := ih n μ9 (by omega) (by omega) (hAt.goT g9)
      refine ⟨μ', by rw [nI_1, hn1]; exact t1, g9.trans t2 (by omega), fun x its F full h1 h2 h3 h4 h5 hh => ?_⟩
      by_cases e : x.1 = i
      · obtain ⟨xi, xc⟩ := x
        dsimp only at e
        subst e
        exact t2.2.2.2.2 _ hh.2.2.2.1 (c9 xc its F full h2 h3 h4 h5 hh)
      · exact t3 x its F full (by omega) h2 h3 h4 h5 hh
    have start : ∀ (X : Mem → Option Mem), (∃ μ', X μ1 = some μ' ∧ GoT μ0 R.length μ μ' ∧ ∀ (x : Nat × Nat) (its : List (Nat × Nat)) (F full : Nat), i ≤ x.1 → (∀ y, y ∈ x :: its → okI μ0 rl m y) → (x :: its).Pairwise (fun a b => a.1 < b.1) → F < 16 → full < 16 → Hit0 μ0 (ro μ0 rl (x :: its) R) F full → Cov μ0 μ' (pt (mn (ro μ0 rl (x :: its) R)) (tF μ0 full) F)) → ∃ μ', (bn2 (M_CS_add N (nI R.length) (54 + 2 * i) μ) fun r61 μ61 => if r61 = 0 then X μ61 else (M_CS_tighten N f (nI i + 1) (nI R.length + 1) μ61).bind X) = some μ' ∧ GoT μ0 R.length μ μ' ∧ ∀ (x : Nat × Nat) (its : List (Nat × Nat)) (F full : Nat), i ≤ x.1 → (∀ y, y ∈ x :: its → okI μ0 rl m y) → (x :: its).Pairwise (fun a b => a.1 < b.1) → F < 16 → full < 16 → Hit0 μ0 (ro μ0 rl (x :: its) R) F full → Cov μ0 μ' (pt (mn (ro μ0 rl (x :: its) R)) (tF μ0 full) F) := by
      rintro X ⟨μ', x1, x2, x3⟩
      exact ⟨μ', (k1 X).trans x1, x2, x3⟩
    refine start (M_CS_tighten_77 N (M_CS_tighten N f) (M_CS_tighten_21 N (M_CS_tighten N f) (n + k + 1)) (nI R.length) (nI i) (nI (rl i))) ?_
    rw [M_CS_tighten_77, ld μ1 hAt1.1 20 (by omega) (by omega), bs, ld μ1 hAt1.1 21 (by omega) (by omega), bs]
    by_cases hlh : μ0.1 20 (rl i) = μ0.1 21 (rl i)
    · rw [if_pos hlh]
      refine fin μ1 g1 (fun c its F full hok hpw hF hfu hh => ?_)
      rcases (hok _ (List.mem_cons_self ..)).2 with q | ⟨q, -⟩
      · have q' : c = 0 := q
        subst q'
        exact c1 its F full hok hpw hF hfu hh
      · exact absurd hlh q
    · rw [if_neg hlh, e2i, nI_1, ldA_n (by decide) (by decide) (by show 2 * i + 1 < 16; omega) (by decide), bs]
      obtain ⟨eH, aH, hRH, hnH⟩ := rows_single (c := 1) hx hR hn (show fr ≤ i by omega) ⟨him, .inr ⟨hlh, .inl rfl⟩⟩ hd (.inr ⟨rfl, rfl⟩)
      obtain ⟨μ2, k2, g2, c2⟩ := one_item (k2 := 54 + (2 * i + 1)) hN hT him eH hRH hnH hf hAt1 (by omega) (by omega) (fun c hc => by rw [cellS (2 * i + 1) (by omega) c hc, rS_1 μ0 rl (by omega), show (2 * i + 1) / 2 = i by omega])
      have hAt2 := hAt1.goT g2
      obtain ⟨μ3, k3, g3, c3⟩ := both_item (i := i) hN hx hT hR hn (by omega) him hlh hf hAt2
      obtain ⟨μ', t1, t2, t3⟩ := fin μ3 ((g1.trans g2 (Nat.le_refl _)).trans g3 (Nat.le_refl _)) (fun c its F full hok hpw hF hfu hh => by
        rcases (hok _ (List.mem_cons_self ..)).2 with q | ⟨-, q | ⟨q, -⟩⟩
        · have q' : c = 0 := q
          subst q'
          exact g3.2.2.2.2 _ hh.2.2.2.1 (g2.2.2.2.2 _ hh.2.2.2.1 (c1 its F full hok hpw hF hfu hh))
        · have q' : c = 1 := q
          subst q'
          exact g3.2.2.2.2 _ hh.2.2.2.1 (c2 its F full hok hpw hF hfu hh)
        · have q' : c = 2 := q
          subst q'
          exact c3 its F full hok hpw hF hfu hh)
      refine ⟨μ', ?_, t2, t3⟩
      refine (k2 (M_CS_tighten_134 N (M_CS_tighten N f) (M_CS_tighten_21 N (M_CS_tighten N f) (n + k + 1)) (nI R.length) (nI i) (nI (rl i)))).trans ?_
      rw [M_CS_tighten_134]
      exact (k3 (M_CS_tighten_21 N (M_CS_tighten N f) (n + k + 1) (nI R.length) (nI i + 1))).trans t1
theorem tight_all {N m : Nat} {rl : Nat → Nat} {μ0 : Mem} (hN : 200 ≤ N) (hx : Cx μ0 m rl) : ∀ f, TOK N μ0 m rl f := by
  intro f
  induction f with
  | zero =>
    intro fr R a μ _ hR _ h6 _
    have := hR.2.2.1
    omega
  | succ f ih =>
    intro fr R a μ hfr hR hn h6 hAt
    have hl := hR.2.2.1
    have hm8 : m ≤ 8 := hx.2.2.1
    obtain ⟨μ1, v1, v2, v3⟩ := s_visit hN hx hR hAt
    have hle : nI R.length ≤ (4 : Int32) := nI_le (b := 4) hl (by decide)
    rw [M_CS_tighten, if_neg (nI_pos (by omega)), if_neg (nI_pos (by omega)), if_pos hle, v1, bs]
    have hAt1 := hAt.go v2 hl
    by_cases hd : R.length < 4
    · obtain ⟨μ', t1, t2, t3⟩ := tight_loop hN hx ih hR hn hd (by omega) (m - fr) (N - (m - fr) - 1) μ1 (by omega) (by omega) hAt1
      rw [show N - (m - fr) - 1 + (m - fr) + 1 = N by omega, show m - (m - fr) = fr by omega] at t1
      refine ⟨μ', t1, (v2.T hl).trans t2 (Nat.le_refl _), fun its F full h1 h2 h3 h4 h5 => ?_⟩
      cases its with
      | nil => exact t2.2.2.2.2 _ h5.2.2.2.1 (v3 F full h3 h4 h5)
      | cons x its => exact t3 x its F full (by rw [show m - (m - fr) = fr by omega]; exact (h1 x (List.mem_cons_self ..)).2) (fun y hy => (h1 y hy).1) h2 h3 h4 h5
    · have h4n : (4 : Int32) ≤ nI R.length := nI_le (a := 4) (by omega) (by omega)
      obtain ⟨n, hNn⟩ : ∃ n, N = n + 1 := ⟨N - 1, by omega⟩
      have e : M_CS_tighten_21 N (M_CS_tighten N f) N (nI R.length) (nI fr) μ1 = some μ1 := by
        conv => lhs; arg 3; rw [hNn]
        rw [M_CS_tighten_21]
        by_cases q : μ1.1 3 0 ≤ nI fr
        · rw [if_pos q]
        · rw [if_neg q, if_pos h4n]
      refine ⟨μ1, e, v2.T hl, fun its F full h1 h2 h3 h4 h5 => ?_⟩
      cases its with
      | nil => exact v3 F full h3 h4 h5
      | cons x its =>
        exfalso
        rw [ro_rd, List.reverse_cons, rd_app, List.append_assoc] at h5
        have := mn_len _ (show F < 32 by omega) h5.1
        rw [List.length_append, List.length_append] at this
        have l1 : 1 ≤ (rd μ0 rl [x]).length := by
          show 1 ≤ (itR μ0 rl x ++ []).length
          unfold itR
          by_cases q : x.2 = 0
          · rw [if_pos q]; simp
          · by_cases q' : x.2 = 1
            · rw [if_neg q, if_pos q']; simp
            · rw [if_neg q, if_neg q']; simp
        have h4' : ∀ F, F < 16 → pop8 F ≤ 4 := by decide
        have := h4' F h3
        omega
