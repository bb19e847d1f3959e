/-! PURE: offer, take, place. -/
def WIw (k : Nat) : Prop := k = 5 ∨ k = 25 ∨ k = 26
def WJx (k : Nat) : Prop := k = 5 ∨ (75 ≤ k ∧ k < 80)
/-- what a placing keeps: the lots placed before, and their values -/
def Fr (l : Nat) (μ μ' : Mem) : Prop := eqO WIw WJx μ μ' ∧ (∀ i, i < l → μ'.1 25 i = μ.1 25 i) ∧ (∀ i, i ≤ l → ∀ k, μ'.2 (75 + i) k = μ.2 (75 + i) k)
theorem Fr.refl (l : Nat) (μ : Mem) : Fr l μ μ := ⟨eqO.refl .., fun _ _ => rfl, fun _ _ _ => rfl⟩
theorem Fr.trans {l : Nat} {a b c : Mem} (h : Fr l a b) (g : Fr l b c) : Fr l a c := ⟨h.1.trans g.1, fun i hi => (g.2.1 i hi).trans (h.2.1 i hi), fun i hi k => (g.2.2 i hi k).trans (h.2.2 i hi k)⟩
theorem s_offer {N c c' z : Nat} {μ0 μ : Mem} (hN : 5 ≤ N) (hB : Bst μ0 c μ) (hc : c ≤ z) (hc' : z < c') (hF : Fe μ0 z) (ht : ∀ i, i < 4 → μ.1 25 i = nI (dgt z i)) (hp : bnd 1000000 (price μ0 (mx z))) (hz : ∀ y, c ≤ y → y < c' → Fe μ0 y → price μ0 (mx z) ≤ price μ0 (mx y) ∧ (price μ0 (mx y) = price μ0 (mx z) → z ≤ y)) :
    ∃ μ', M_WS_offer N (JJ (price μ0 (mx z))) μ = some μ' ∧ Bst μ0 c' μ' ∧ (∀ k j, k ≠ 5 → k ≠ 26 → μ'.1 k j = μ.1 k j) ∧ ∀ k j, k ≠ 5 → μ'.2 k j = μ.2 k j := by
  have jP : (JJ (price μ0 (mx z))).toInt = price μ0 (mx z) := JJ_bnd hp (by decide)
  have copy : ∀ (j f : Nat) (μ : Mem), j ≤ 4 → ∃ μ', M_WS_offer_29 N (f + j + 1) (nI (4 - j)) μ = some μ' ∧ μ'.2 = μ.2 ∧ (∀ a b, a ≠ 26 → μ'.1 a b = μ.1 a b) ∧ (∀ i, i < 4 - j → μ'.1 26 i = μ.1 26 i) ∧ ∀ i, 4 - j ≤ i → i < 4 → μ'.1 26 i = μ.1 25 i := by
    intro j
    induction j with
    | zero =>
      intro f μ _
      refine ⟨μ, ?_, rfl, fun _ _ _ => rfl, fun _ _ => rfl, fun i h1 h2 => absurd h1 (by omega)⟩
      rw [M_WS_offer_29, if_pos (by decide)]
    | succ j ih =>
      intro f μ hj
      have n4 : ¬ (4 : Int32) ≤ nI (4 - (j + 1)) := nI_ge (a := 4 - (j + 1)) (b := 4) (by omega) (by omega)
      obtain ⟨μ', a1, a2, a3, a4, a5⟩ := ih f (upI μ.1 26 (4 - (j + 1)) (μ.1 25 (4 - (j + 1))), μ.2) (by omega)
      refine ⟨μ', ?_, a2, fun a b h => (a3 a b h).trans (upI_ne h b), fun i hi => (a4 i (by omega)).trans (upI_pl (by omega)), fun i h1 h2 => ?_⟩
      · rw [show f + (j + 1) + 1 = (f + j + 1) + 1 by omega, M_WS_offer_29, if_neg n4, ldI_n (by decide) (by decide) (by show 4 - (j + 1) < 4; omega) (by decide), bs, stI_n (by decide) (by decide) (by show 4 - (j + 1) < 4; omega) (by decide), bs, nI_1, show 4 - (j + 1) + 1 = 4 - j by omega]
        exact a1
      · by_cases e : i = 4 - (j + 1)
        · rw [a4 i (by omega), e]; exact upI_at μ.1 26 _ _
        · rw [a5 i (by omega) h2]
          dsimp only
          rw [upI_ne (by omega)]
  have take : (∀ y, y < c → Fe μ0 y → price μ0 (mx z) < price μ0 (mx y)) → ∃ μ', M_WS_offer_17 N (JJ (price μ0 (mx z))) μ = some μ' ∧ Bst μ0 c' μ' ∧ (∀ k j, k ≠ 5 → k ≠ 26 → μ'.1 k j = μ.1 k j) ∧ ∀ k j, k ≠ 5 → μ'.2 k j = μ.2 k j := by
    intro hlt
    obtain ⟨μ', a1, a2, a3, a4, a5⟩ := copy 4 (N - 5) (upI μ.1 5 6 1, upJ μ.2 5 7 (JJ (price μ0 (mx z)))) (Nat.le_refl 4)
    rw [show N - 5 + 4 + 1 = N by omega] at a1
    refine ⟨μ', ?_, Or.inr ⟨?_, z, hc', hF, fun i hi => ?_, ?_, fun y hy hFy => ?_⟩, fun k j h1 h2 => ?_, fun k j h1 => ?_⟩
    · unfold M_WS_offer_17 pZ
      rw [if_pos (Or.inr rfl), bs, pJ, bs]
      exact a1
    · rw [a3 5 6 (by omega)]; exact upI_at μ.1 5 6 1
    · rw [a5 i (by omega) hi]
      dsimp only
      rw [upI_ne (by omega)]
      exact ht i hi
    · rw [a2]
      dsimp only
      rw [upJ_at, jP]
    · by_cases q : y < c
      · have := hlt y q hFy
        exact ⟨by omega, fun e => by omega⟩
      · exact hz y (by omega) hy hFy
    · rw [a3 k j h2]
      dsimp only
      rw [upI_ne h1]
    · rw [a2]
      dsimp only
      rw [upJ_ne h1]
  unfold M_WS_offer
  rcases id hB with ⟨a, b⟩ | ⟨a, b, b1, b2, b3, b4, b5⟩
  · rw [if_pos a]
    exact take (fun y hy hFy => absurd hFy (b y hy))
  · rw [if_neg (by rw [a]; decide)]
    by_cases hlt : price μ0 (mx z) < (μ.2 5 7).toInt
    · rw [if_pos (by rw [cmp_lt, Int64.lt_iff_toInt_lt, jP]; exact hlt)]
      exact take (fun y hy hFy => by have := (b5 y hy hFy).1; omega)
    · rw [if_neg (by rw [cmp_lt, Int64.lt_iff_toInt_lt, jP]; exact hlt)]
      refine ⟨μ, rfl, hB.dear a (by omega) (fun y h1 h2 hFy => ?_), fun _ _ _ _ => rfl, fun _ _ _ => rfl⟩
      have := (hz y h1 h2 hFy).1
      omega
/-- the search stands at lot l with x placed -/
def St (μ0 : Mem) (m : Nat) (rl : Nat → Nat) (l : Nat) (x : Nat → Nat) (c : Nat) (μ : Mem) : Prop := Wb μ0 m rl μ ∧ (∀ i, i < l → μ.1 25 i = nI (x i)) ∧ (∀ k, k < 2 * m → μ.2 (75 + l) k = JJ (sv (rS μ0 rl k) x l)) ∧ Bst μ0 c μ
/-- the lots placed are within the stocks -/
def PxOK (μ0 : Mem) (l : Nat) (x : Nat → Nat) : Prop := ∀ i, i < l → x i ≤ 9 ∧ (x i : Int) ≤ stk μ0 i
theorem Wb.fr {μ0 : Mem} {m : Nat} {rl : Nat → Nat} {μ μ' : Mem} (h : Wb μ0 m rl μ) (g : eqO WIw WJx μ μ') : Wb μ0 m rl μ' := by
  obtain ⟨⟨c1, c2, c3, c4, c5, c6⟩, b⟩ := h
  have gi : ∀ k j, k ≠ 5 → k ≠ 25 → k ≠ 26 → μ'.1 k j = μ.1 k j := fun k j h1 h2 h3 => g.1 k j (fun q => by unfold WIw at q; omega)
  have gj : ∀ k j, k ≠ 5 → ¬ (75 ≤ k ∧ k < 80) → μ'.2 k j = μ.2 k j := fun k j h1 h2 => g.2 k j (fun q => by unfold WJx at q; omega)
  refine ⟨⟨c1, by rw [gi _ _ (by omega) (by omega) (by omega)]; exact c2, fun k hk c hc => by rw [gj _ _ (by omega) (by omega)]; exact c3 k hk c hc, fun i hi => by rw [gi _ _ (by omega) (by omega) (by omega)]; exact c4 i hi, fun i hi => by rw [gj _ _ (by omega) (by omega)]; exact c5 i hi, c6⟩, fun l hl => ⟨fun k hk => by rw [gj _ _ (by omega) (by omega)]; exact (b l hl).1 k hk, by rw [gj _ _ (by omega) (by omega)]; exact (b l hl).2⟩⟩
theorem sv_bd {μ0 : Mem} {m : Nat} {rl : Nat → Nat} {μ : Mem} (h : Wsc μ0 m rl μ) {k : Nat} (hk : k < 2 * m) {x : Nat → Nat} : ∀ l, l ≤ 4 → PxOK μ0 l x → bnd (100000 + 180000 * (l : Int)) (sv (rS μ0 rl k) x l) := by
  intro l
  induction l with
  | zero => intro _ _; have := h.2.2.2.2.2.2.1 k hk; unfold sv bnd at *; omega
  | succ l ih =>
    intro hl hx
    have a := ih (by omega) (fun i hi => hx i (by omega))
    have b := bd_mul (h.2.2.2.2.2.1 k hk l (by omega)) (show bnd 9 (x l : Int) by have := (hx l (by omega)).1; unfold bnd; omega)
    unfold sv
    unfold bnd at *
    omega
theorem rch_bd {μ0 : Mem} {m : Nat} {rl : Nat → Nat} {μ : Mem} (h : Wsc μ0 m rl μ) {k : Nat} (hk : k < 2 * m) : ∀ (j : Nat), j ≤ 4 → bnd (180000 * (j : Int)) (rch μ0 (rS μ0 rl k) j) := by
  intro j
  induction j with
  | zero => intro _; unfold rch bnd; omega
  | succ j ih =>
    intro hj
    have a := ih (by omega)
    have b := bd_mul (h.2.2.2.2.2.1 k hk (3 - j) (by omega)) (show bnd 9 (stk μ0 (3 - j)) by have := h.2.2.2.2.2.2.2.1 (3 - j) (by omega); unfold bnd; omega)
    unfold rch mxI0
    unfold bnd at *
    by_cases q : 0 ≤ rS μ0 rl k (3 - j) * stk μ0 (3 - j)
    · rw [if_pos q]; omega
    · rw [if_neg q]; omega
theorem spn_bd {μ0 : Mem} {m : Nat} {rl : Nat → Nat} {μ : Mem} (h : Wsc μ0 m rl μ) {x : Nat → Nat} : ∀ l, l ≤ 4 → (∀ i, i < l → x i ≤ 9) → bnd (9000 * (l : Int)) (spn μ0 x l) := by
  intro l
  induction l with
  | zero => intro _ _; unfold spn bnd; omega
  | succ l ih =>
    intro hl hx
    have a := ih (by omega) (fun i hi => hx i (by omega))
    have b := bd_mul (h.2.2.2.2.2.2.2.2 l (by omega)) (show bnd 9 (x l : Int) by have := hx l (by omega); unfold bnd; omega)
    unfold spn
    unfold bnd at *
    omega
theorem lst_bd {μ0 : Mem} {m : Nat} {rl : Nat → Nat} {μ : Mem} (h : Wsc μ0 m rl μ) : ∀ (j : Nat), j ≤ 4 → bnd (9000 * (j : Int)) (lst μ0 j) := by
  intro j
  induction j with
  | zero => intro _; unfold lst bnd; omega
  | succ j ih =>
    intro hj
    have a := ih (by omega)
    have b := bd_mul (h.2.2.2.2.2.2.2.2 (3 - j) (by omega)) (show bnd 9 (stk μ0 (3 - j)) by have := h.2.2.2.2.2.2.2.1 (3 - j) (by omega); unfold bnd; omega)
    unfold lst mnI0
    unfold bnd at *
    by_cases q : cts μ0 (3 - j) * stk μ0 (3 - j) ≤ 0
    · rw [if_pos q]; omega
    · rw [if_neg q]; omega
/-- both counts at a lot: the loads from the fewest to the most are those with which each side can still be reached -/
theorem s_loads {N m l c : Nat} {rl : Nat → Nat} {x : Nat → Nat} {μ0 μ : Mem} (hN : 20 ≤ N) (hl : l < 4) (hx : PxOK μ0 l x) (hS : St μ0 m rl l x c μ) :
    ∃ v w : Int32, M_WS_mostLoads N (nI l) μ = some (v, μ) ∧ M_WS_fewestLoads N (nI l) μ = some (w, μ) ∧ -1 ≤ v.toInt ∧ v.toInt ≤ 9 ∧ 0 ≤ w.toInt ∧ w.toInt ≤ 10 ∧ ∀ z : Int, 0 ≤ z → z ≤ 9 → ((w.toInt ≤ z ∧ z ≤ v.toInt) ↔ z ≤ stk μ0 l ∧ ∀ k, k < 2 * m → 0 ≤ sv (rS μ0 rl k) x l + rch μ0 (rS μ0 rl k) (3 - l) + rS μ0 rl k l * z) := by
  obtain ⟨⟨hc, hb⟩, s2, s3, -⟩ := hS
  have hw : WL1 μ0 m rl l (fun k => sv (rS μ0 rl k) x l) (fun k => rch μ0 (rS μ0 rl k) (3 - l)) μ := by
    refine ⟨hc, fun k hk => ⟨s3 k hk, ?_⟩, fun k hk => ⟨?_, ?_⟩⟩
    · have := sv_bd hc hk l (by omega) hx
      dsimp only
      unfold bnd at *; omega
    · have := (hb (l + 1) (by omega)).1 k hk
      rw [show 4 - (l + 1) = 3 - l by omega] at this
      exact this
    · have := rch_bd hc hk (3 - l) (by omega)
      dsimp only
      unfold bnd at *; omega
  obtain ⟨v, v1, v2, v3, v4⟩ := s_most hN hl hw
  obtain ⟨w, w1, w2, w3, w4⟩ := s_few hN hl hw
  refine ⟨v, w, v1, w1, v2, v3, w2, w3, fun z hz hz9 => ?_⟩
  rw [v4 z hz, w4 z hz hz9]
  constructor
  · rintro ⟨a, b, d⟩
    refine ⟨b, fun k hk => ?_⟩
    by_cases q : rS μ0 rl k l ≤ 0
    · exact d k hk q
    · exact a k hk (by omega)
  · rintro ⟨a, b⟩
    exact ⟨fun k hk _ => b k hk, a, fun k hk _ => b k hk⟩
