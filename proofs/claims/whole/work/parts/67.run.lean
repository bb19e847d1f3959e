/-! PURE: run. -/
theorem rS_bd {μ : Mem} {m : Nat} {rl : Nat → Nat} (hA : InvA μ) (hR : InvR μ) (hl : RlOK μ rl m) {k : Nat} (hk : k < 2 * m) : (∀ c, c < 4 → bnd 20000 (rS μ rl k c)) ∧ bnd 100000 (rS μ rl k 4) := by
  obtain ⟨r8, rT⟩ := hl (k / 2) (by omega)
  have hro := told_lt hR r8 rT
  have wk : ∀ {a b z : Int}, a ≤ b → bnd a z → bnd b z := fun h q => by unfold bnd at *; omega
  by_cases hr : rat (rl (k / 2))
  · obtain ⟨b1, b2, b3⟩ := row_rat hA hro hr
    rcases (by omega : k % 2 = 0 ∨ k % 2 = 1) with e | e
    · rw [rS_0 μ rl e]; exact ⟨fun c hc => (b1 c hc).1, wk (by decide) b2⟩
    · rw [rS_1 μ rl e]; exact ⟨fun c hc => (b1 c hc).2, wk (by decide) b3⟩
  · obtain ⟨b1, b2, b3⟩ := row_not hA r8 hro hr
    rcases (by omega : k % 2 = 0 ∨ k % 2 = 1) with e | e
    · rw [rS_0 μ rl e]; exact ⟨fun c hc => wk (by decide) (b1 c hc).1, b2⟩
    · rw [rS_1 μ rl e]; exact ⟨fun c hc => wk (by decide) (b1 c hc).2, b3⟩
theorem Wsc_of {μa μb : Mem} {m : Nat} {rl : Nat → Nat} (hx : Cx μa m rl) (hq : eqO WIs WJs μa μb) : Wsc μa m rl μb := by
  obtain ⟨hA, hR, s1, s2, s3, s4, s5, s6⟩ := id hx
  have gi : ∀ k j, k ≠ 4 → k ≠ 13 → k ≠ 24 → μb.1 k j = μa.1 k j := fun k j h1 h2 h3 => hq.1 k j (fun q => by unfold WIs at q; omega)
  have gj : ∀ k j, k ≠ 4 → k ≠ 43 → k ≠ 44 → ¬ (70 ≤ k ∧ k < 75) → μb.2 k j = μa.2 k j := fun k j h1 h2 h3 h4 => hq.2 k j (fun q => by unfold WJs at q; omega)
  refine ⟨s1, by rw [gi _ _ (by omega) (by omega) (by omega)]; exact s2, fun k hk c hc => by rw [gj _ _ (by omega) (by omega) (by omega) (by omega)]; exact s6 k hk c hc, fun i _ => gi _ _ (by omega) (by omega) (by omega), fun i hi => ?_, fun k hk => (rS_bd hA hR hx.rl hk).1, fun k hk => (rS_bd hA hR hx.rl hk).2, stk_bd hA, fun i hi => ?_⟩
  · obtain ⟨n, -, -, -, -, hc, -⟩ := hA
    rw [gj _ _ (by omega) (by omega) (by omega) (by omega), (hc i hi).1, i2l_J]
    rfl
  · obtain ⟨n, -, -, -, -, hc, -⟩ := hA
    exact ⟨(hc i hi).2.1, (hc i hi).2.2.1⟩
theorem Fe_I {a b : Mem} (h : Inp a b) (y : Nat) : Fe b y ↔ Fe a y := by
  unfold Fe
  rw [stk_I h, Tn_I h]
  refine and_congr Iff.rfl ?_
  exact ⟨fun q r hr ht => (kp_I h r _ _).1 (q r hr ht), fun q r hr ht => (kp_I h r _ _).2 (q r hr ht)⟩
theorem Fe_corner {μ : Mem} {n : Nat} (h : Rx μ n) {y : Nat} (hy : Fe μ y) : ∃ q, Corner μ q ∧ Feas μ q := by
  refine some_corner h (p := fun j => if j = 4 then 1 else mx y j) ⟨by show (0 : Int) < 1; decide, fun j hj => ?_⟩ (fun r hr ht => ?_)
  · have := hy.1 j hj
    dsimp only
    rw [if_neg (by omega), if_pos rfl]
    unfold mx at *
    omega
  · exact (kp_congr (μ0 := μ) (μ := μ) (r := r) (D := 1) (fun _ _ _ => rfl) (fun i hi => by rw [if_neg (by omega)])).2 (hy.2 r hr ht)
theorem SS.facts {μ0 μ : Mem} (hA : InvA μ0) (h : SS μ0 μ) : (μ.1 4 10 = 0 ∨ μ.1 4 10 = 1) ∧ 0 < (μ.2 4 12).toInt ∧ bnd 3600000000000000000 (μ.2 4 11).toInt ∧ ∃ bc : Nat, bc ≤ 256 ∧ μ.1 4 8 = nI bc ∧ (∀ i, i < bc → ∃ b : Nat, b < 256 ∧ μ.1 24 i = nI b) ∧ ∀ k, k < 256 → μ.1 13 k = 0 ∨ ∃ i, i < bc ∧ μ.1 24 i = nI k := by
  obtain ⟨⟨bc, a1, a2, a3, a4, a5, a6⟩, a7⟩ := h
  have tail : ∃ bc : Nat, bc ≤ 256 ∧ μ.1 4 8 = nI bc ∧ (∀ i, i < bc → ∃ b : Nat, b < 256 ∧ μ.1 24 i = nI b) ∧ ∀ k, k < 256 → μ.1 13 k = 0 ∨ ∃ i, i < bc ∧ μ.1 24 i = nI k := by
    refine ⟨bc, by omega, a2, fun i hi => ?_, fun k hk => ?_⟩
    · obtain ⟨b, -, b1, b2, -⟩ := a5 i hi
      exact ⟨b, b1, b2⟩
    · rcases a6 k hk with z | ⟨-, z⟩
      · exact Or.inl z
      · exact Or.inr z
  rcases a7 with ⟨b1, b2, b3⟩ | ⟨b1, p, b2, b3, b4, b5, b6⟩
  · refine ⟨Or.inl b1, by rw [b3]; decide, by rw [b2]; unfold bnd; decide, tail⟩
  · exact ⟨Or.inr b1, by rw [b5]; exact b2.1.1, by rw [b4]; exact (price_bnd hA b2.1 b6).1, tail⟩
/-- the class's run -/
theorem run_class {N : Nat} (hN : 10300 ≤ N) {μ : Mem} (hI : Inv μ) :
    ∃ μa μe bc n g, M_RP_run N μ = some (if μe.1 6 0 = 0 then (if μe.1 6 4 = 0 then 2 else 1) else 0, μe) ∧ Inp μ μa ∧ Inp μa μe ∧ Rx μa n ∧ Cut μa μe ∧ bc ≤ 256 ∧ (μe.1 6 4 = 0 → μe.1 4 8 = nI bc) ∧ Bst μa 10000 μe ∧ InvS μe ∧
      μe.1 6 0 = μe.1 5 6 ∧ μe.1 6 1 = nI n ∧ (∀ i, i < 4 → μe.1 27 i = μe.1 26 i) ∧ μe.2 6 3 = μe.2 5 7 ∧ μe.1 6 4 = μe.1 4 10 ∧ μe.1 6 7 = (if μe.1 4 10 = 0 then nI (cl (allB μe bc) (Tn μa) 256).1 else 0) ∧
      0 < g ∧ (μe.2 4 11).toInt = g * (μe.2 6 5).toInt ∧ (μe.2 4 12).toInt = g * (μe.2 6 6).toInt ∧ Nat.gcd (μe.2 6 5).toInt.natAbs (μe.2 6 6).toInt.natAbs = 1 ∧ 0 < (μe.2 6 6).toInt := by
  obtain ⟨hA, hR, hS, hF⟩ := hI
  obtain ⟨μa, m, rl, a1, a2, a3⟩ := s_build (N := N) (by omega) hR
  have ai : ∀ k j, k ≠ 3 → k ≠ 23 → μa.1 k j = μ.1 k j := fun k j h1 h2 => a2.1 k j (fun q => by unfold WIb at q; omega)
  have aj : ∀ k j, ¬ (54 ≤ k ∧ k < 70) → μa.2 k j = μ.2 k j := fun k j h => a2.2 k j (fun q => by unfold WJb at q; omega)
  have iA : Inp μ μa := Inp.ofO a2 (fun k h => by unfold WIb at h; omega) (fun k h => by unfold WJb at h; omega)
  have hAa := iA.A hA
  have hRa := iA.R hR
  have hSa : InvS μa := hS.of (ai _ _ (by omega) (by omega)) (fun i => ai _ _ (by omega) (by omega)) (fun i => ai _ _ (by omega) (by omega)) (fun i => aj _ _ (by omega)) (aj _ _ (by omega)) (fun i => ai _ _ (by omega) (by omega)) (fun i => ai _ _ (by omega) (by omega))
  have hx : Cx μa m rl := ⟨hAa, hRa, Sides_I iA hR a3⟩
  obtain ⟨n, hn4, h1n, h7n, -⟩ := id hAa
  have hRx : Rx μa n := ⟨hAa, hRa, hn4, h7n⟩
  obtain ⟨μb, b1, b2, b3⟩ := s_search (N := N) (by omega) hx hSa
  have bi : ∀ k j, k ≠ 4 → k ≠ 13 → k ≠ 24 → μb.1 k j = μa.1 k j := fun k j h1 h2 h3 => b2.1 k j (fun q => by unfold WIs at q; omega)
  have bj : ∀ k j, k ≠ 4 → k ≠ 43 → k ≠ 44 → ¬ (70 ≤ k ∧ k < 75) → μb.2 k j = μa.2 k j := fun k j h1 h2 h3 h4 => b2.2 k j (fun q => by unfold WJs at q; omega)
  have hFS : FeS μa m rl := fun y => Fe_sides hAa hRa hx.rl hx.sur y
  obtain ⟨f01, f12, f11, bc, fbc, f8, f24, f13⟩ := b3.1.facts hAa
  -- the whole search
  obtain ⟨μc, c1, c2, c3, c4⟩ : ∃ μc, M_WS_search N (μb.1 4 10) μb = some μc ∧ eqO WIz WJz μb μc ∧ μc.2 45 4 = 0 ∧ Bst μa 10000 μc := by
    have h84 : ∀ j, j < 16 → μb.2 84 j = 0 := fun j hj => by rw [bj _ _ (by omega) (by omega) (by omega) (by omega)]; exact hSa.2.1 j hj
    have h45 : μb.2 45 4 = 0 := by rw [bj _ _ (by omega) (by omega) (by omega) (by omega)]; exact hSa.2.2.1
    rcases f01 with z | z
    · refine ⟨(upI μb.1 5 6 0, upJ μb.2 5 7 0), ?_, ⟨fun k j q => ?_, fun k j q => ?_⟩, ?_, Or.inl ⟨upI_at μb.1 5 6 0, fun y _ hy => ?_⟩⟩
      · unfold M_WS_search pZ
        rw [z, if_pos (Or.inl rfl), bs, pJ, bs, if_pos rfl]
      · dsimp only; exact upI_ne (fun e => q (by unfold WIz; omega)) j
      · dsimp only; exact upJ_ne (fun e => q (by unfold WJz; omega)) j
      · dsimp only; rw [upJ_ne (by omega)]; exact h45
      · obtain ⟨p, p1, p2⟩ := Fe_corner hRx hy
        obtain ⟨i, bc', e1, e2, e3, e4⟩ := (b3.2 p p1).2 z
        obtain ⟨⟨bc2, s1, s2, s3, s4, s5, -⟩, -⟩ := b3.1
        have : bc' = bc2 := by rw [s2] at e1; exact ((nI_eq (by omega) (by omega)).1 e1).symm
        subst this
        obtain ⟨b, q0, q1, q2, -⟩ := s5 i e3
        rw [q2, (feas_unk μa p).1 p2] at e4
        have := (nI_eq (by omega) (by omega)).1 e4
        omega
    · rw [z]
      exact s_wsearch (by omega) hFS (Wsc_of hx b2) h84 h45
  have ci : ∀ k j, k ≠ 5 → k ≠ 25 → k ≠ 26 → μc.1 k j = μb.1 k j := fun k j h1 h2 h3 => c2.1 k j (fun q => by unfold WIz at q; omega)
  have cj : ∀ k j, k ≠ 5 → k ≠ 45 → ¬ (75 ≤ k ∧ k < 84) → μc.2 k j = μb.2 k j := fun k j h1 h2 h3 => c2.2 k j (fun q => by unfold WJz at q; omega)
  have T2 : μa.1 2 0 = nI (Tn μa) := by
    obtain ⟨T, hT, h2, -⟩ := hRa
    unfold Tn
    rw [h2, nI_clamp (by omega)]
  obtain ⟨μd, d1, d2, d3, d4, d5, g, d6, d7, d8, d9, d10⟩ := s_takeCut (N := N) (by omega) (μ := μc) (bc := bc) (T := Tn μa) (by rw [ci _ _ (by omega) (by omega) (by omega)]; exact f01) (by rw [cj _ _ (by omega) (by omega) (by omega)]; exact f12) (by rw [cj _ _ (by omega) (by omega) (by omega)]; exact f11) (fun _ => by rw [ci _ _ (by omega) (by omega) (by omega)]; exact f8) fbc (by rw [ci _ _ (by omega) (by omega) (by omega), bi _ _ (by omega) (by omega) (by omega)]; exact T2)
  obtain ⟨μe, e1, e2, e3, e4, e5, e6, e7, e8⟩ := s_takeWhole (N := N) (by omega) (μ := μd) (x2 := μd.1 1 0) (by rw [d2 _ _ (by omega)]; exact c4.sui)
  have gi : ∀ k j, k ≠ 6 → k ≠ 27 → μe.1 k j = μc.1 k j := fun k j h1 h2 => (e2 k j h1 h2).trans (d2 k j h1)
  have gj : ∀ k j, k ≠ 6 → μe.2 k j = μc.2 k j := fun k j h => (e7 k j (fun q => h q.1)).trans (d3 k j h)
  have hi : ∀ k j, k ≠ 6 → k ≠ 27 → k ≠ 5 → k ≠ 25 → k ≠ 26 → k ≠ 4 → k ≠ 13 → k ≠ 24 → μe.1 k j = μa.1 k j := fun k j h1 h2 h3 h4 h5 h6 h7 h8 => (gi k j h1 h2).trans ((ci k j h3 h4 h5).trans (bi k j h6 h7 h8))
  have hj : ∀ k j, k ≠ 6 → k ≠ 5 → k ≠ 45 → ¬ (70 ≤ k ∧ k < 84) → k ≠ 4 → k ≠ 43 → k ≠ 44 → μe.2 k j = μa.2 k j := fun k j h1 h2 h3 h4 h5 h6 h7 => (gj k j h1).trans ((cj k j h2 h3 (by omega)).trans (bj k j h5 h6 h7 (by omega)))
  have iE : Inp μa μe := ⟨⟨hi _ _ (by omega) (by omega) (by omega) (by omega) (by omega) (by omega) (by omega) (by omega), hi _ _ (by omega) (by omega) (by omega) (by omega) (by omega) (by omega) (by omega) (by omega), hi _ _ (by omega) (by omega) (by omega) (by omega) (by omega) (by omega) (by omega) (by omega)⟩, fun k i q => hi _ _ (by omega) (by omega) (by omega) (by omega) (by omega) (by omega) (by omega) (by omega), fun k i q => hj _ _ (by omega) (by omega) (by omega) (by omega) (by omega) (by omega) (by omega)⟩
  have s4i : ∀ k, WIs k → ∀ j, μe.1 k j = μb.1 k j := fun k hk j => by
    unfold WIs at hk
    rw [gi _ _ (by omega) (by omega), ci _ _ (by omega) (by omega) (by omega)]
  have s4j : ∀ j, μe.2 4 j = μb.2 4 j := fun j => by rw [gj _ _ (by omega), cj _ _ (by omega) (by omega) (by omega)]
  have hCut : Cut μa μe := ⟨b3.1.of s4i s4j, fun p hp => (b3.2 p hp).of s4i s4j⟩
  have w4 : WIs 4 := Or.inl rfl
  have e410 : μe.1 4 10 = μc.1 4 10 := gi _ _ (by omega) (by omega)
  have e64 : μe.1 6 4 = μe.1 4 10 := by rw [e3 4 (by omega) (by omega), d4, e410]
  have e60 : μe.1 6 0 = μe.1 5 6 := by rw [e4, e2 5 6 (by omega) (by omega)]
  have eB : allB μe bc = allB μc bc := by
    funext S
    unfold allB
    have : ∀ i, μe.1 24 i = μc.1 24 i := fun i => gi _ _ (by omega) (by omega)
    simp only [this]
  have e65 : μe.2 6 5 = μd.2 6 5 := e7 _ _ (by omega)
  have e66 : μe.2 6 6 = μd.2 6 6 := e7 _ _ (by omega)
  have e411 : μe.2 4 11 = μc.2 4 11 := gj _ _ (by omega)
  have e412 : μe.2 4 12 = μc.2 4 12 := gj _ _ (by omega)
  refine ⟨μa, μe, bc, n, g, ?_, iA, iE, hRx, hCut, fbc, fun _ => by rw [s4i 4 w4]; exact f8, c4.of (gi _ _ (by omega) (by omega)) (fun i => gi _ _ (by omega) (by omega)) (gj _ _ (by omega)), ?_, e60, ?_, fun i hi4 => ?_, ?_, e64, ?_, d6, by rw [e411, e65]; exact d7, by rw [e412, e66]; exact d8, by rw [e65, e66]; exact d9, by rw [e66]; exact d10⟩
  · unfold M_RP_run
    rw [a1, bs, b1, bs, c1, bs, d1, bs, e1, bs, e60, e64]
    by_cases q : μe.1 5 6 = 0
    · rw [if_pos q, if_pos q]
      by_cases q' : μe.1 4 10 = 0
      · rw [if_pos q', if_pos q']
      · rw [if_neg q', if_neg q']
    · rw [if_neg q, if_neg q]
  · refine ⟨⟨bc, fbc, by rw [s4i 4 w4]; exact f8, fun i hi' => by rw [s4i 24 (Or.inr (Or.inr rfl))]; exact f24 i hi', fun k hk => ?_⟩, fun j hj' => ?_, ?_, fun r hr => ?_⟩
    · rw [s4i 13 (Or.inr (Or.inl rfl))]
      rcases f13 k hk with z | ⟨i, i1, i2⟩
      · exact Or.inl z
      · exact Or.inr ⟨i, i1, by rw [s4i 24 (Or.inr (Or.inr rfl))]; exact i2⟩
    · rw [gj _ _ (by omega), cj _ _ (by omega) (by omega) (by omega), bj _ _ (by omega) (by omega) (by omega) (by omega)]; exact hSa.2.1 j hj'
    · rw [gj _ _ (by omega)]; exact c3
    · rw [hi 34 _ (by omega) (by omega) (by omega) (by omega) (by omega) (by omega) (by omega) (by omega), hi 35 _ (by omega) (by omega) (by omega) (by omega) (by omega) (by omega) (by omega) (by omega)]; exact hSa.2.2.2 r hr
  · rw [e5, d2 _ _ (by omega), ci _ _ (by omega) (by omega) (by omega), bi _ _ (by omega) (by omega) (by omega)]; exact h1n
  · rw [e6 i hi4, e2 26 i (by omega) (by omega)]
  · rw [e8, e7 5 7 (by omega)]
  · rw [e3 7 (by omega) (by omega), d5, eB, e410]
