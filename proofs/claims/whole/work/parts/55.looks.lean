/-! PURE: the reference looks at all points. -/
def Vis (μb : Mem) (n a b c d : Nat) (μ : Mem) : Prop := mn (r4 (rM μb n) (ky4 a b c d)) 15 ≠ 0 → ∀ p, Corner μb p → (∀ i, i < 4 → dot5i (rM μb n (ky4 a b c d i)) p = 0) → RCov μb μ p
theorem Vis.go {μb : Mem} {n a b c d : Nat} {μ μ' : Mem} (h : Vis μb n a b c d μ) (g : Look μb n μ μ') : Vis μb n a b c d μ' := fun hz p hp ht => g.2.2 p hp.1.1 (h hz p hp ht)
theorem look_keys {N n : Nat} (hN : 200 ≤ N) {μb : Mem} (h : Rx μb n) {a b c d : Nat} (ha : isL μb n a) (hb : isL μb n b) (hc : isL μb n c) (hd : isL μb n d) {μ : Mem} (hw : RW μb n μ) (hs : RSS μb μ) :
    ∃ μ', (∀ K : Mem → Option Mem, ((stI μ 39 0 (nI a)).bind fun μ110 => (stI μ110 39 1 (nI b)).bind fun μ117 => (stI μ117 39 2 (nI c)).bind fun μ124 => (stI μ124 39 3 (nI d)).bind fun μ132 => (M_Mo_lookAtCorner N μ132).bind K) = K μ') ∧ Look μb n μ μ' ∧ Vis μb n a b c d μ' := by
  have s0 : ∀ (μ : Mem) (i : Nat) (v : Int32), i < 4 → stI μ 39 (nI i) v = some (upI μ.1 39 i v, μ.2) := fun μ i v hi => stI_n (by decide) (by decide) (by show i < 4; omega) (by decide)
  have hw' : RW μb n (upI (upI (upI (upI μ.1 39 0 (nI a)) 39 1 (nI b)) 39 2 (nI c)) 39 3 (nI d), μ.2) := by
    refine ⟨fun k j q1 q2 q3 q4 => ?_, hw.2.1, fun k hk x hx => ?_, fun k hk => ?_⟩
    · dsimp only
      rw [upI_ne q4, upI_ne q4, upI_ne q4, upI_ne q4]; exact hw.1 k j q1 q2 q3 q4
    · dsimp only
      rw [upI_ne (by omega), upI_ne (by omega), upI_ne (by omega), upI_ne (by omega)]; exact hw.2.2.1 k hk x hx
    · dsimp only
      rw [upI_ne (by omega), upI_ne (by omega), upI_ne (by omega), upI_ne (by omega)]; exact hw.2.2.2 k hk
  have e16 : ∀ x, upI (upI (upI (upI μ.1 39 0 (nI a)) 39 1 (nI b)) 39 2 (nI c)) 39 3 (nI d) 16 x = μ.1 16 x := fun x => by
    rw [upI_ne (by omega), upI_ne (by omega), upI_ne (by omega), upI_ne (by omega)]
  have hs' : RSS μb (upI (upI (upI (upI μ.1 39 0 (nI a)) 39 1 (nI b)) 39 2 (nI c)) 39 3 (nI d), μ.2) := by
    refine ⟨fun x hx => ?_, hs.2⟩
    dsimp only
    rw [e16]
    exact hs.1 x hx
  have hk : ∀ i, i < 4 → (upI (upI (upI (upI μ.1 39 0 (nI a)) 39 1 (nI b)) 39 2 (nI c)) 39 3 (nI d)) 39 i = nI (ky4 a b c d i) ∧ isL μb n (ky4 a b c d i) := by
    intro i hi
    rcases (by omega : i = 0 ∨ i = 1 ∨ i = 2 ∨ i = 3) with rfl | rfl | rfl | rfl
    · exact ⟨by rw [upI_pl (by omega), upI_pl (by omega), upI_pl (by omega), upI_at]; rfl, ha⟩
    · exact ⟨by rw [upI_pl (by omega), upI_pl (by omega), upI_at]; rfl, hb⟩
    · exact ⟨by rw [upI_pl (by omega), upI_at]; rfl, hc⟩
    · exact ⟨by rw [upI_at]; rfl, hd⟩
  obtain ⟨μ', l1, l2, l3⟩ := s_look hN h hw' hs' hk
  refine ⟨μ', fun K => ?_, ⟨l2.1, l2.2.1, fun p hp q => l2.2.2 p hp ?_⟩, l3⟩
  · have a0 := s0 μ 0 (nI a) (by omega)
    have a1 := s0 (upI μ.1 39 0 (nI a), μ.2) 1 (nI b) (by omega)
    have a2 := s0 (upI (upI μ.1 39 0 (nI a)) 39 1 (nI b), μ.2) 2 (nI c) (by omega)
    have a3 := s0 (upI (upI (upI μ.1 39 0 (nI a)) 39 1 (nI b)) 39 2 (nI c), μ.2) 3 (nI d) (by omega)
    have n0 : nI 0 = 0 := rfl
    have n1 : nI 1 = 1 := rfl
    have n2 : nI 2 = 2 := rfl
    have n3 : nI 3 = 3 := rfl
    rw [n0] at a0
    rw [n1] at a1
    rw [n2] at a2
    rw [n3] at a3
    rw [a0, bs, a1, bs, a2, bs, a3, bs, l1, bs]
  · refine ⟨?_, q.2⟩
    dsimp only
    rw [e16]
    exact q.1
theorem look_d {N n : Nat} (hN : 200 ≤ N) {μb : Mem} (h : Rx μb n) {K29 : Int32 → Mem → Option Mem} {K39 : Int32 → Int32 → Mem → Option Mem} {K58 : Int32 → Int32 → Int32 → Mem → Option Mem} {a b c : Nat} (ha : isL μb n a) (hb : isL μb n b) (hc : c < 24) : ∀ (k m : Nat) (μ : Mem), k ≤ 24 → RW μb n μ → RSS μb μ →
    ∃ μ', M_Mo_lookAtCorners_78 N K29 K39 K58 (m + k + 1) (nI a) (nI b) (nI c) (nI (24 - k)) μ = K58 (nI a) (nI b) (nI (c + 1)) μ' ∧ Look μb n μ μ' ∧ ∀ d, 24 - k ≤ d → d < 24 → isL μb n c → isL μb n d → Vis μb n a b c d μ' := by
  intro k
  induction k with
  | zero =>
    intro m μ _ hw hs
    refine ⟨μ, ?_, Look.refl hw hs, fun d h1 h2 => absurd h1 (by omega)⟩
    rw [M_Mo_lookAtCorners_78, if_pos (by decide), nI_1]
  | succ k ih =>
    intro m μ hk hw hs
    have n24 : ¬ (24 : Int32) ≤ nI (24 - (k + 1)) := nI_ge (a := 24 - (k + 1)) (b := 24) (by omega) (by omega)
    rw [show m + (k + 1) + 1 = (m + k + 1) + 1 by omega, M_Mo_lookAtCorners_78, if_neg n24, ldZ_n (by decide) (by decide) (by show c < 24; omega) (by decide), bs, hw.2.2.2 c hc]
    by_cases hLc : isL μb n c
    · rw [(LB_iff h.2.1 hc).2 hLc, if_neg (by decide), ldZ_n (by decide) (by decide) (by show 24 - (k + 1) < 24; omega) (by decide), bs, hw.2.2.2 _ (by omega)]
      by_cases hLd : isL μb n (24 - (k + 1))
      · obtain ⟨μ1, l1, l2, l3⟩ := look_keys hN h ha hb hLc hLd hw hs
        obtain ⟨μ2, g1, g2, g3⟩ := ih m μ1 (by omega) l2.1 l2.2.1
        refine ⟨μ2, ?_, l2.trans g2, fun d h1 h2 h3 h4 => ?_⟩
        · rw [(LB_iff h.2.1 (by omega)).2 hLd, if_neg (by decide), l1, nI_1, show 24 - (k + 1) + 1 = 24 - k by omega]
          exact g1
        · by_cases e : d = 24 - (k + 1)
          · rw [e]; exact l3.go g2
          · exact g3 d (by omega) h2 h3 h4
      · have z : LB μb n (24 - (k + 1)) = 0 := (LB_01 h.2.1 (by omega)).resolve_right (fun q => hLd ((LB_iff h.2.1 (by omega)).1 q))
        obtain ⟨μ2, g1, g2, g3⟩ := ih m μ (by omega) hw hs
        refine ⟨μ2, ?_, g2, fun d h1 h2 h3 h4 => ?_⟩
        · rw [z, if_pos rfl, nI_1, show 24 - (k + 1) + 1 = 24 - k by omega]
          exact g1
        · by_cases e : d = 24 - (k + 1)
          · rw [e] at h4; exact absurd h4 hLd
          · exact g3 d (by omega) h2 h3 h4
    · have z : LB μb n c = 0 := (LB_01 h.2.1 hc).resolve_right (fun q => hLc ((LB_iff h.2.1 hc).1 q))
      refine ⟨μ, ?_, Look.refl hw hs, fun d _ _ h3 => absurd h3 hLc⟩
      rw [z, if_pos rfl, nI_1]
theorem look_c {N n : Nat} (hN : 200 ≤ N) {μb : Mem} (h : Rx μb n) {K29 : Int32 → Mem → Option Mem} {K39 : Int32 → Int32 → Mem → Option Mem} {a b : Nat} (ha : isL μb n a) (hb : b < 24) : ∀ (k m : Nat) (μ : Mem), k ≤ 24 → RW μb n μ → RSS μb μ →
    ∃ μ', M_Mo_lookAtCorners_58 N K29 K39 (m + k + 1) (nI a) (nI b) (nI (24 - k)) μ = K39 (nI a) (nI (b + 1)) μ' ∧ Look μb n μ μ' ∧ ∀ c d, 24 - k ≤ c → c < d → d < 24 → isL μb n b → isL μb n c → isL μb n d → Vis μb n a b c d μ' := by
  intro k
  induction k with
  | zero =>
    intro m μ _ hw hs
    refine ⟨μ, ?_, Look.refl hw hs, fun c d h1 h2 h3 => absurd h1 (by omega)⟩
    rw [M_Mo_lookAtCorners_58, if_pos (by decide), nI_1]
  | succ k ih =>
    intro m μ hk hw hs
    have n24 : ¬ (24 : Int32) ≤ nI (24 - (k + 1)) := nI_ge (a := 24 - (k + 1)) (b := 24) (by omega) (by omega)
    rw [show m + (k + 1) + 1 = (m + k + 1) + 1 by omega, M_Mo_lookAtCorners_58, if_neg n24, ldZ_n (by decide) (by decide) (by show b < 24; omega) (by decide), bs, hw.2.2.2 b hb]
    by_cases hLb : isL μb n b
    · rw [(LB_iff h.2.1 hb).2 hLb, if_neg (by decide), nm_eq, nI_1]
      obtain ⟨μ1, d1, d2, d3⟩ := look_d (K29 := K29) (K39 := K39) (K58 := M_Mo_lookAtCorners_58 N K29 K39 (m + k + 1)) hN h ha hLb (c := 24 - (k + 1)) (by omega) (24 - (24 - (k + 1) + 1)) (N - (24 - (24 - (k + 1) + 1)) - 1) μ (by omega) hw hs
      rw [show N - (24 - (24 - (k + 1) + 1)) - 1 + (24 - (24 - (k + 1) + 1)) + 1 = N by omega, show 24 - (24 - (24 - (k + 1) + 1)) = 24 - (k + 1) + 1 by omega] at d1
      obtain ⟨μ2, g1, g2, g3⟩ := ih m μ1 (by omega) d2.1 d2.2.1
      refine ⟨μ2, ?_, d2.trans g2, fun c d h1 h2 h3 h4 h5 h6 => ?_⟩
      · rw [d1, show 24 - (k + 1) + 1 = 24 - k by omega]
        exact g1
      · by_cases e : c = 24 - (k + 1)
        · rw [e]; exact (d3 d (by omega) h3 (by rw [← e]; exact h5) h6).go g2
        · exact g3 c d (by omega) h2 h3 h4 h5 h6
    · have z : LB μb n b = 0 := (LB_01 h.2.1 hb).resolve_right (fun q => hLb ((LB_iff h.2.1 hb).1 q))
      refine ⟨μ, ?_, Look.refl hw hs, fun c d _ _ _ h4 => absurd h4 hLb⟩
      rw [z, if_pos rfl, nI_1]
theorem look_b {N n : Nat} (hN : 200 ≤ N) {μb : Mem} (h : Rx μb n) {K29 : Int32 → Mem → Option Mem} {a : Nat} (ha : a < 24) : ∀ (k m : Nat) (μ : Mem), k ≤ 24 → RW μb n μ → RSS μb μ →
    ∃ μ', M_Mo_lookAtCorners_39 N K29 (m + k + 1) (nI a) (nI (24 - k)) μ = K29 (nI (a + 1)) μ' ∧ Look μb n μ μ' ∧ ∀ b c d, 24 - k ≤ b → b < c → c < d → d < 24 → isL μb n a → isL μb n b → isL μb n c → isL μb n d → Vis μb n a b c d μ' := by
  intro k
  induction k with
  | zero =>
    intro m μ _ hw hs
    refine ⟨μ, ?_, Look.refl hw hs, fun b c d h1 h2 h3 h4 => absurd h1 (by omega)⟩
    rw [M_Mo_lookAtCorners_39, if_pos (by decide), nI_1]
  | succ k ih =>
    intro m μ hk hw hs
    have n24 : ¬ (24 : Int32) ≤ nI (24 - (k + 1)) := nI_ge (a := 24 - (k + 1)) (b := 24) (by omega) (by omega)
    rw [show m + (k + 1) + 1 = (m + k + 1) + 1 by omega, M_Mo_lookAtCorners_39, if_neg n24, ldZ_n (by decide) (by decide) (by show a < 24; omega) (by decide), bs, hw.2.2.2 a ha]
    by_cases hLa : isL μb n a
    · rw [(LB_iff h.2.1 ha).2 hLa, if_neg (by decide), nm_eq, nI_1]
      obtain ⟨μ1, d1, d2, d3⟩ := look_c (K29 := K29) (K39 := M_Mo_lookAtCorners_39 N K29 (m + k + 1)) hN h hLa (b := 24 - (k + 1)) (by omega) (24 - (24 - (k + 1) + 1)) (N - (24 - (24 - (k + 1) + 1)) - 1) μ (by omega) hw hs
      rw [show N - (24 - (24 - (k + 1) + 1)) - 1 + (24 - (24 - (k + 1) + 1)) + 1 = N by omega, show 24 - (24 - (24 - (k + 1) + 1)) = 24 - (k + 1) + 1 by omega] at d1
      obtain ⟨μ2, g1, g2, g3⟩ := ih m μ1 (by omega) d2.1 d2.2.1
      refine ⟨μ2, ?_, d2.trans g2, fun b c d h1 h2 h3 h4 h5 h6 h7 h8 => ?_⟩
      · rw [d1, show 24 - (k + 1) + 1 = 24 - k by omega]
        exact g1
      · by_cases e : b = 24 - (k + 1)
        · rw [e]; exact (d3 c d (by omega) h3 h4 (by rw [← e]; exact h6) h7 h8).go g2
        · exact g3 b c d (by omega) h2 h3 h4 h5 h6 h7 h8
    · have z : LB μb n a = 0 := (LB_01 h.2.1 ha).resolve_right (fun q => hLa ((LB_iff h.2.1 ha).1 q))
      refine ⟨μ, ?_, Look.refl hw hs, fun b c d _ _ _ _ h5 => absurd h5 hLa⟩
      rw [z, if_pos rfl, nI_1]
theorem look_a {N n : Nat} (hN : 200 ≤ N) {μb : Mem} (h : Rx μb n) : ∀ (k m : Nat) (μ : Mem), k ≤ 24 → RW μb n μ → RSS μb μ →
    ∃ μ', M_Mo_lookAtCorners_29 N (m + k + 1) (nI (24 - k)) μ = some μ' ∧ Look μb n μ μ' ∧ ∀ a b c d, 24 - k ≤ a → a < b → b < c → c < d → d < 24 → isL μb n a → isL μb n b → isL μb n c → isL μb n d → Vis μb n a b c d μ' := by
  intro k
  induction k with
  | zero =>
    intro m μ _ hw hs
    refine ⟨μ, ?_, Look.refl hw hs, fun a b c d h1 h2 h3 h4 h5 => absurd h1 (by omega)⟩
    rw [M_Mo_lookAtCorners_29, if_pos (by decide)]
  | succ k ih =>
    intro m μ hk hw hs
    have n24 : ¬ (24 : Int32) ≤ nI (24 - (k + 1)) := nI_ge (a := 24 - (k + 1)) (b := 24) (by omega) (by omega)
    rw [show m + (k + 1) + 1 = (m + k + 1) + 1 by omega, M_Mo_lookAtCorners_29, if_neg n24, nm_eq, nI_1]
    obtain ⟨μ1, d1, d2, d3⟩ := look_b (K29 := M_Mo_lookAtCorners_29 N (m + k + 1)) hN h (a := 24 - (k + 1)) (by omega) (24 - (24 - (k + 1) + 1)) (N - (24 - (24 - (k + 1) + 1)) - 1) μ (by omega) hw hs
    rw [show N - (24 - (24 - (k + 1) + 1)) - 1 + (24 - (24 - (k + 1) + 1)) + 1 = N by omega, show 24 - (24 - (24 - (k + 1) + 1)) = 24 - (k + 1) + 1 by omega] at d1
    obtain ⟨μ2, g1, g2, g3⟩ := ih m μ1 (by omega) d2.1 d2.2.1
    refine ⟨μ2, ?_, d2.trans g2, fun a b c d h1 h2 h3 h4 h5 h6 h7 h8 h9 => ?_⟩
    · rw [d1, show 24 - (k + 1) + 1 = 24 - k by omega]
      exact g1
    · by_cases e : a = 24 - (k + 1)
      · rw [e]; exact (d3 b c d (by omega) h3 h4 h5 (by rw [← e]; exact h6) h7 h8 h9).go g2
      · exact g3 a b c d (by omega) h2 h3 h4 h5 h6 h7 h8 h9
theorem clear_kept {N : Nat} : ∀ (k m : Nat) (μ : Mem), k ≤ 256 → ∃ μ', M_Mo_lookAtCorners_2 N (m + k + 1) (nI (256 - k)) μ = M_Mo_lookAtCorners_29 N N 0 μ' ∧ (∀ a b, a ≠ 16 → μ'.1 a b = μ.1 a b) ∧ (∀ b, b < 256 - k → μ'.1 16 b = μ.1 16 b) ∧ (∀ b, 256 - k ≤ b → b < 256 → μ'.1 16 b = 0) ∧ μ'.2 7 15 = 0 ∧ ∀ a b, ¬ (a = 7 ∧ b = 15) → μ'.2 a b = μ.2 a b := by
  intro k
  induction k with
  | zero =>
    intro m μ _
    refine ⟨(μ.1, upJ μ.2 7 15 0), ?_, fun _ _ _ => rfl, fun _ _ => rfl, fun b h1 h2 => absurd h1 (by omega), upJ_at μ.2 7 15 0, fun a b q => ?_⟩
    · rw [M_Mo_lookAtCorners_2, if_pos (by decide +kernel), pJ, bs]
    · dsimp only
      by_cases e : a = 7
      · rw [upJ_pl (by omega)]
      · rw [upJ_ne e]
  | succ k ih =>
    intro m μ hk
    have n256 : ¬ (256 : Int32) ≤ nI (256 - (k + 1)) := nI_ge (a := 256 - (k + 1)) (b := 256) (by omega) (by omega)
    obtain ⟨μ', a1, a2, a3, a4, a5, a6⟩ := ih m (upI μ.1 16 (256 - (k + 1)) 0, μ.2) (by omega)
    refine ⟨μ', ?_, fun a b q => (a2 a b q).trans (upI_ne q b), fun b hb => (a3 b (by omega)).trans (upI_pl (by omega)), fun b h1 h2 => ?_, a5, fun a b q => a6 a b q⟩
    · rw [show m + (k + 1) + 1 = (m + k + 1) + 1 by omega, M_Mo_lookAtCorners_2, if_neg n256, stZ_n (by decide) (by decide) (Or.inl rfl) (by show 256 - (k + 1) < 256; omega) (by decide), bs, nI_1, show 256 - (k + 1) + 1 = 256 - k by omega]
      exact a1
    · by_cases e : b = 256 - (k + 1)
      · rw [a3 b (by omega), e]
        exact upI_at μ.1 16 _ 0
      · exact a4 b (by omega) h2
/-- how the reference's looks end -/
theorem s_looks {N n : Nat} (hN : 300 ≤ N) {μb : Mem} (h : Rx μb n) {μ : Mem} (hw : RW μb n μ) : ∃ μ', M_Mo_lookAtCorners N μ = some μ' ∧ RW μb n μ' ∧ RSS μb μ' ∧ ∀ p, Corner μb p → RCov μb μ' p := by
  obtain ⟨μ1, a1, a2, a3, a4, a5, a6⟩ := clear_kept (N := N) 256 (N - 257) μ (by omega)
  rw [show N - 257 + 256 + 1 = N by omega] at a1
  have hw1 : RW μb n μ1 := by
    refine ⟨fun k j q1 q2 q3 q4 => by rw [a2 k j q3]; exact hw.1 k j q1 q2 q3 q4, fun k j q1 q2 => by rw [a6 k j (fun q => q2 ⟨q.1, by omega⟩)]; exact hw.2.1 k j q1 q2, fun k hk x hx => by rw [a2 _ _ (by omega)]; exact hw.2.2.1 k hk x hx, fun k hk => by rw [a2 _ _ (by omega)]; exact hw.2.2.2 k hk⟩
  have hs1 : RSS μb μ1 := ⟨fun b hb => Or.inl (a4 b (by omega) hb), Or.inl a5⟩
  obtain ⟨μ2, b1, b2, b3⟩ := look_a (N := N) (by omega) h 24 (N - 25) μ1 (by omega) hw1 hs1
  rw [show N - 25 + 24 + 1 = N by omega] at b1
  refine ⟨μ2, ?_, b2.1, b2.2.1, fun p hp => ?_⟩
  · exact a1.trans b1
  · obtain ⟨a, b, c, d, l1, l2, l3, l4, i1, i2, i3, i4, hz, ht⟩ := ref_complete h hp
    exact b3 a b c d (by omega) l1 l2 l3 l4 i1 i2 i3 i4 hz p hp ht
