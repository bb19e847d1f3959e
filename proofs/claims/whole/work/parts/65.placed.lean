/-! PURE: place at each lot; the whole search. -/
theorem nI_of_int {v : Int32} (h : 0 ≤ v.toInt) : v = nI v.toInt.toNat := by
  have hb := Int32.toInt_lt v
  apply Int32.toInt_inj.1
  rw [nI_toInt (by omega)]
  omega
theorem place_last {N m d : Nat} {rl : Nat → Nat} {μ0 : Mem} (hN : 20 ≤ N) (hF : FeS μ0 m rl) : PL N μ0 m rl (d + 1) 3 := by
  intro x μ hx hS
  obtain ⟨v, w, m1, m2, m3, m4, m5, m6, m7⟩ := s_loads hN (by omega) hx hS
  obtain ⟨hb, s2, s3, s4⟩ := hS
  have c42 := hb.1.2.2.2.2.1 3 (by omega)
  have p3 : pc x 3 + 10 ^ (4 - 3) = pc x 3 + 10 := rfl
  have e3 : nI 3 = 3 := rfl
  have unf : M_WS_place N (d + 1) (nI 3) (JJ (spn μ0 x 3)) μ = if v < w then some μ else (if (0 : Int32) ≤ lg_cmp (JJ (cts μ0 3)) 0 then M_WS_place_99 N (M_WS_place N d) (nI 3) (JJ (spn μ0 x 3)) w μ else M_WS_place_99 N (M_WS_place N d) (nI 3) (JJ (spn μ0 x 3)) v μ) := by
    rw [M_WS_place, if_neg (by decide), if_pos (by decide), m1, bs2, m2, bs2, if_pos (by decide), ldJ_n (by decide) (by decide) (by decide) (by decide), bs, c42]
  -- the mixes with these lots
  have dig : ∀ z, z ≤ 9 → (∀ i, i < 3 → dgt (pc x 3 + z) i = x i) ∧ dgt (pc x 3 + z) 3 = z := by
    intro z hz
    have a := pc_dg (x := x) (l := 3) (y := pc x 3 + z) (by omega) (fun i hi => (hx i hi).1) (by omega) (by rw [p3]; omega)
    refine ⟨a, ?_⟩
    rw [dg_3, pc_3]
    omega
  have feq : ∀ z, z ≤ 9 → (Fe μ0 (pc x 3 + z) ↔ w.toInt ≤ (z : Int) ∧ (z : Int) ≤ v.toInt) := by
    intro z hz
    obtain ⟨d1, d2⟩ := dig z hz
    rw [m7 (z : Int) (by omega) (by omega), hF]
    have esv : ∀ k, sv (rS μ0 rl k) (dgt (pc x 3 + z)) 4 = sv (rS μ0 rl k) x 3 + rch μ0 (rS μ0 rl k) (3 - 3) + rS μ0 rl k 3 * (z : Int) := fun k => by
      show sv (rS μ0 rl k) (dgt (pc x 3 + z)) 3 + rS μ0 rl k 3 * (dgt (pc x 3 + z) 3 : Int) = sv (rS μ0 rl k) x 3 + 0 + rS μ0 rl k 3 * (z : Int)
      rw [sv_congr 3 d1, d2]
      omega
    constructor
    · rintro ⟨b, s⟩
      refine ⟨?_, fun k hk => by rw [← esv]; exact s k hk⟩
      have := b 3 (by omega)
      unfold mx at this
      rw [d2] at this
      exact this
    · rintro ⟨b, s⟩
      refine ⟨fun i hi => ?_, fun k hk => by rw [esv]; exact s k hk⟩
      unfold mx
      by_cases e : i = 3
      · rw [e, d2]; exact b
      · rw [d1 i (by omega)]; exact (hx i (by omega)).2
  have pr : ∀ z, z ≤ 9 → price μ0 (mx (pc x 3 + z)) = spn μ0 x 3 + cts μ0 3 * (z : Int) := by
    intro z hz
    obtain ⟨d1, d2⟩ := dig z hz
    rw [← spn_price]
    show spn μ0 (dgt (pc x 3 + z)) 3 + cts μ0 3 * (dgt (pc x 3 + z) 3 : Int) = _
    rw [spn_congr 3 d1, d2]
  have ys : ∀ y, pc x 3 ≤ y → y < pc x 3 + 10 → ∃ z, z ≤ 9 ∧ y = pc x 3 + z := fun y h1 h2 => ⟨y - pc x 3, by omega, by omega⟩
  have cb := hb.1.2.2.2.2.2.2.2.2 3 (by omega)
  have sb := spn_bd hb.1 (x := x) 3 (by omega) (fun i hi => (hx i hi).1)
  rw [unf, p3]
  by_cases hvw : v.toInt < w.toInt
  · rw [if_pos (by rw [Int32.lt_iff_toInt_lt]; exact hvw)]
    refine ⟨μ, rfl, Fr.refl 3 μ, s4.skip (by omega) (fun y h1 h2 hy => ?_)⟩
    obtain ⟨z, hz, rfl⟩ := ys y h1 h2
    have := (feq z hz).1 hy
    omega
  · rw [if_neg (by rw [Int32.lt_iff_toInt_lt]; exact hvw)]
    -- one number is offered
    have give : ∀ u : Int32, w.toInt ≤ u.toInt → u.toInt ≤ v.toInt → (∀ z : Nat, z ≤ 9 → w.toInt ≤ (z : Int) → (z : Int) ≤ v.toInt → cts μ0 3 * u.toInt ≤ cts μ0 3 * (z : Int) ∧ (cts μ0 3 * (z : Int) = cts μ0 3 * u.toInt → u.toInt ≤ (z : Int))) → ∃ μ', M_WS_place_99 N (M_WS_place N d) (nI 3) (JJ (spn μ0 x 3)) u μ = some μ' ∧ Fr 3 μ μ' ∧ Bst μ0 (pc x 3 + 10) μ' := by
      intro u u1 u2 u3
      obtain ⟨q, hq⟩ : ∃ q : Nat, q = u.toInt.toNat := ⟨_, rfl⟩
      have eq : (q : Int) = u.toInt := by omega
      have q9 : q ≤ 9 := by omega
      obtain ⟨d1, d2⟩ := dig q q9
      have hpq := pr q q9
      have pbd : bnd 1000000 (price μ0 (mx (pc x 3 + q))) := by
        rw [hpq]
        have := bd_mul cb (show bnd 9 (q : Int) by unfold bnd; omega)
        unfold bnd at *
        omega
      have ev : u.toInt64 = JJ (q : Int) := by rw [i2l_J, eq]
      have uq : u = nI q := by rw [hq]; exact nI_of_int (by omega)
      obtain ⟨μ', o1, o2, o3, o4⟩ := s_offer (N := N) (c := pc x 3) (c' := pc x 3 + 10) (z := pc x 3 + q) (μ := (upI μ.1 25 3 u, μ.2)) (by omega) (s4.of (by dsimp only; rw [upI_ne (by omega)]) (fun i => by dsimp only; rw [upI_ne (by omega)]) rfl) (by omega) (by omega) ((feq q q9).2 ⟨by omega, by omega⟩) (fun i hi => by
        dsimp only
        by_cases e : i = 3
        · rw [e, upI_at, d2, uq]
        · rw [upI_pl e, d1 i (by omega)]; exact s2 i (by omega)) pbd (fun y h1 h2 hy => by
        obtain ⟨z, hz, rfl⟩ := ys y h1 h2
        obtain ⟨f1, f2⟩ := (feq z hz).1 hy
        obtain ⟨g1, g2⟩ := u3 z hz f1 f2
        rw [hpq, pr z hz]
        rw [← eq] at g1 g2
        exact ⟨by omega, fun e => by have := g2 (by omega); omega⟩)
      refine ⟨μ', ?_, ⟨⟨fun k j h => ?_, fun k j h => ?_⟩, fun i hi => ?_, fun i hi k => ?_⟩, o2⟩
      · unfold M_WS_place_99
        rw [stI_n (by decide) (by decide) (by decide) (by decide), bs, ldJ_n (by decide) (by decide) (by decide) (by decide), bs]
        dsimp only
        rw [c42, ev, JJ_mul, JJ_add, ← hpq, o1, bs]
      · unfold WIw at h
        rw [o3 k j (by omega) (by omega)]
        dsimp only
        rw [upI_ne (by omega)]
      · unfold WJx at h
        exact o4 k j (by omega)
      · rw [o3 25 i (by omega) (by omega)]
        exact upI_pl (by omega)
      · exact o4 _ _ (by omega)
    have eC : (JJ (cts μ0 3)).toInt = cts μ0 3 := JJ_bnd cb (by decide)
    by_cases hc : 0 ≤ cts μ0 3
    · rw [if_pos ((cmp_z _).2 (by rw [eC]; exact hc))]
      refine give w (Int.le_refl _) (by omega) (fun z _ h1 _ => ⟨Int.mul_le_mul_of_nonneg_left h1 hc, fun _ => h1⟩)
    · rw [if_neg (fun q => hc (by have := (cmp_z _).1 q; rw [eC] at this; exact this))]
      refine give v (by omega) (Int.le_refl _) (fun z _ _ h2 => ⟨Int.mul_le_mul_of_nonpos_left (by omega) h2, fun e => ?_⟩)
      have : (z : Int) = v.toInt := Int.eq_of_mul_eq_mul_left (by omega) e
      omega
theorem place_step {N m d l : Nat} {rl : Nat → Nat} {μ0 : Mem} (hN : 20 ≤ N) (hl : l < 3) (hF : FeS μ0 m rl) (hP : PL N μ0 m rl d (l + 1)) : PL N μ0 m rl (d + 1) l := by
  intro x μ hx hS
  obtain ⟨v, w, m1, m2, m3, m4, m5, m6, m7⟩ := s_loads hN (by omega) hx hS
  obtain ⟨hb, s2, s3, s4⟩ := id hS
  have c42 := hb.1.2.2.2.2.1 l (by omega)
  have tenl : 10 ^ (4 - l) = 10 * 10 ^ (3 - l) := by
    rw [show 4 - l = (3 - l) + 1 by omega, Nat.pow_succ, Nat.mul_comm]
  have pos10 : 0 < 10 ^ (3 - l) := Nat.pow_pos (by omega)
  obtain ⟨q, hq⟩ : ∃ q : Nat, q = w.toInt.toNat := ⟨_, rfl⟩
  have ewq : w = nI q := by rw [hq]; exact nI_of_int m5
  -- outside of the counts nothing suits
  have out : ∀ y, pc x l ≤ y → y < pc x l + 10 ^ (4 - l) → Fe μ0 y → w.toInt ≤ (dgt y l : Int) ∧ (dgt y l : Int) ≤ v.toInt := by
    intro y h1 h2 hy
    have d9 := dgt_lt y l
    exact (m7 (dgt y l : Int) (by omega) (by omega)).2 (in_range hF (by omega) hx h1 h2 hy)
  -- the loop
  have loop : ∀ (j f u : Nat) (μ1 : Mem), v.toInt + 1 ≤ (u : Int) + (j : Int) → w.toInt ≤ (u : Int) → u ≤ 10 → St μ0 m rl l x (pc x l + u * 10 ^ (3 - l)) μ1 →
      ∃ μ', M_WS_place_33 N (M_WS_place N d) (f + j + 1) (nI l) (JJ (spn μ0 x l)) v (nI u) μ1 = some μ' ∧ Fr l μ1 μ' ∧ Bst μ0 (pc x l + 10 ^ (4 - l)) μ' := by
    intro j
    induction j with
    | zero =>
      intro f u μ1 h1 h2 h3 hS1
      have hlt : v < nI u := by rw [Int32.lt_iff_toInt_lt, nI_toInt (by omega)]; omega
      refine ⟨μ1, ?_, Fr.refl l μ1, hS1.2.2.2.skip ?_ (fun y h1' h2' hy => ?_)⟩
      · rw [M_WS_place_33, if_pos hlt]
      · rw [tenl]
        have := Nat.mul_le_mul_right (10 ^ (3 - l)) h3
        omega
      · obtain ⟨a, b⟩ := out y (by omega) h2' hy
        have := (pc_nx (by omega) (fun i hi => (hx i hi).1) (by omega) h2').2
        have hu : dgt y l + 1 ≤ u := by omega
        have := Nat.mul_le_mul_right (10 ^ (3 - l)) hu
        omega
    | succ j ih =>
      intro f u μ1 h1 h2 h3 hS1
      by_cases hlt : v.toInt < (u : Int)
      · have hlt' : v < nI u := by rw [Int32.lt_iff_toInt_lt, nI_toInt (by omega)]; exact hlt
        refine ⟨μ1, ?_, Fr.refl l μ1, hS1.2.2.2.skip ?_ (fun y h1' h2' hy => ?_)⟩
        · rw [show f + (j + 1) + 1 = (f + j + 1) + 1 by omega, M_WS_place_33, if_pos hlt']
        · rw [tenl]
          have := Nat.mul_le_mul_right (10 ^ (3 - l)) h3
          omega
        · obtain ⟨a, b⟩ := out y (by omega) h2' hy
          have := (pc_nx (by omega) (fun i hi => (hx i hi).1) (by omega) h2').2
          have hu : dgt y l + 1 ≤ u := by omega
          have := Nat.mul_le_mul_right (10 ^ (3 - l)) hu
          omega
      · have hlt' : ¬ v < nI u := by rw [Int32.lt_iff_toInt_lt, nI_toInt (by omega)]; exact hlt
        have hin := (m7 (u : Int) (by omega) (by omega)).1 ⟨h2, by omega⟩
        obtain ⟨μ2, t1, t2, t3⟩ := s_take hN hl hP hF hx (v := u) (by omega) hin.1 hS1
        have hS2 : St μ0 m rl l x (pc x l + (u + 1) * 10 ^ (3 - l)) μ2 := ⟨hS1.1.fr t2.1, fun i hi => (t2.2.1 i hi).trans (hS1.2.1 i hi), fun k hk => (t2.2.2 l (Nat.le_refl l) k).trans (hS1.2.2.1 k hk), t3⟩
        obtain ⟨μ3, g1, g2, g3⟩ := ih f (u + 1) μ2 (by omega) (by omega) (by omega) hS2
        refine ⟨μ3, ?_, t2.trans g2, g3⟩
        have c42' := hS1.1.1.2.2.2.2.1 l (by omega)
        have ev : (nI u).toInt64 = JJ (u : Int) := by rw [i2l_J, nI_toInt (by omega)]
        rw [show f + (j + 1) + 1 = (f + j + 1) + 1 by omega, M_WS_place_33, if_neg hlt', ldJ_n (by decide) (by decide) (by show l < 4; omega) (by decide), bs, c42', ev, JJ_mul, JJ_add, t1, bs, nI_1]
        exact g1
  have hS1 : St μ0 m rl l x (pc x l + q * 10 ^ (3 - l)) μ := by
    refine ⟨hb, s2, s3, s4.skip (by omega) (fun y h1 h2 hy => ?_)⟩
    have hq10 : q ≤ 10 := by omega
    have hle := Nat.mul_le_mul_right (10 ^ (3 - l)) hq10
    obtain ⟨a, b⟩ := out y h1 (by omega) hy
    have := (pc_nx (by omega) (fun i hi => (hx i hi).1) h1 (by omega)).1
    have hu : q ≤ dgt y l := by omega
    have := Nat.mul_le_mul_right (10 ^ (3 - l)) hu
    omega
  obtain ⟨μ', g1, g2, g3⟩ := loop 10 (N - 11) q μ (by omega) (by omega) (by omega) hS1
  rw [show N - 11 + 10 + 1 = N by omega] at g1
  refine ⟨μ', ?_, g2, g3⟩
  have l3 : ¬ (3 : Int32) ≤ nI l := nI_ge (a := l) (b := 3) (by omega) (by omega)
  have l4 : nI l < (4 : Int32) := nI_lt (a := l) (b := 4) (by omega) (by omega)
  rw [M_WS_place, if_neg (nI_pos (by omega)), if_pos l4, m1, bs2, m2, bs2, if_neg l3, ewq]
  exact g1
theorem s_place {N m : Nat} {rl : Nat → Nat} {μ0 : Mem} (hN : 20 ≤ N) (hF : FeS μ0 m rl) : PL N μ0 m rl 5 0 :=
  place_step hN (by omega) hF (place_step hN (by omega) hF (place_step hN (by omega) hF (place_last hN hF)))
def WIz (k : Nat) : Prop := k = 5 ∨ k = 25 ∨ k = 26
def WJz (k : Nat) : Prop := k = 5 ∨ k = 45 ∨ (75 ≤ k ∧ k < 84)
/-- the whole search, once some cut mix suits -/
theorem s_wsearch {N m : Nat} {rl : Nat → Nat} {μ0 μ : Mem} (hN : 20 ≤ N) (hF : FeS μ0 m rl) (hc : Wsc μ0 m rl μ) (h84 : ∀ j, j < 16 → μ.2 84 j = 0) (h45 : μ.2 45 4 = 0) :
    ∃ μ', M_WS_search N 1 μ = some μ' ∧ eqO WIz WJz μ μ' ∧ μ'.2 45 4 = 0 ∧ Bst μ0 10000 μ' := by
  have hc1 : Wsc μ0 m rl (upI μ.1 5 6 0, upJ μ.2 5 7 0) := by
    obtain ⟨c1, c2, c3, c4, c5, c6⟩ := hc
    exact ⟨c1, by dsimp only; rw [upI_ne (by omega)]; exact c2, fun k hk c hc' => by dsimp only; rw [upJ_ne (by omega)]; exact c3 k hk c hc', fun i hi => by dsimp only; rw [upI_ne (by omega)]; exact c4 i hi, fun i hi => by dsimp only; rw [upJ_ne (by omega)]; exact c5 i hi, c6⟩
  obtain ⟨μ1, b1, b2, b3, b4, b5⟩ := s_wbegin (μ := (upI μ.1 5 6 0, upJ μ.2 5 7 0)) hN hc1 (fun j hj => by dsimp only; rw [upJ_ne (by omega)]; exact h84 j hj) (by dsimp only; rw [upJ_ne (by omega)]; exact h45)
  have st : St μ0 m rl 0 (fun _ => 0) (pc (fun _ => 0) 0) μ1 := by
    refine ⟨b4, fun i hi => absurd hi (by omega), fun k hk => b5 k hk, Or.inl ⟨?_, fun y hy => absurd hy (by show ¬ y < 0; omega)⟩⟩
    rw [b2.1 5 6 (fun q => q.1)]
    exact upI_at μ.1 5 6 0
  obtain ⟨μ2, p1, p2, p3⟩ := s_place hN hF (fun _ => 0) μ1 (fun i hi => absurd hi (by omega)) st
  refine ⟨μ2, ?_, ⟨fun k j q => ?_, fun k j q => ?_⟩, ?_, p3⟩
  · unfold M_WS_search pZ
    rw [if_pos (Or.inl rfl), bs, pJ, bs, if_neg (by decide)]
    dsimp only
    rw [b1, bs]
    have p1' : M_WS_place N 5 0 0 μ1 = some μ2 := p1
    rw [p1', bs]
  · unfold WIz at q
    rw [p2.1.1 k j (fun w => by unfold WIw at w; omega), b2.1 k j (fun w => w.1)]
    dsimp only
    rw [upI_ne (by omega)]
  · unfold WJz at q
    rw [p2.1.2 k j (fun w => by unfold WJx at w; omega), b2.2 k j (fun w => by unfold WJw at w; omega)]
    dsimp only
    rw [upJ_ne (by omega)]
  · rw [p2.1.2 45 4 (fun w => by unfold WJx at w; omega)]
    exact b3
