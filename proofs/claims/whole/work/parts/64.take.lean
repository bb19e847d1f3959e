/-! PURE: take and place. -/
def PL (N : Nat) (μ0 : Mem) (m : Nat) (rl : Nat → Nat) (d l : Nat) : Prop := ∀ (x : Nat → Nat) (μ : Mem), PxOK μ0 l x → St μ0 m rl l x (pc x l) μ → ∃ μ', M_WS_place N d (nI l) (JJ (spn μ0 x l)) μ = some μ' ∧ Fr l μ μ' ∧ Bst μ0 (pc x l + 10 ^ (4 - l)) μ'
/-- whole mixes by sides -/
def FeS (μ0 : Mem) (m : Nat) (rl : Nat → Nat) : Prop := ∀ y, Fe μ0 y ↔ boxD μ0 y ∧ ∀ k, k < 2 * m → 0 ≤ sv (rS μ0 rl k) (dgt y) 4
theorem Fr.up {l : Nat} {a b : Mem} (h : Fr (l + 1) a b) : Fr l a b := ⟨h.1, fun i hi => h.2.1 i (by omega), fun i hi k => h.2.2 i (by omega) k⟩
theorem in_range {μ0 : Mem} {m : Nat} {rl : Nat → Nat} {l y : Nat} {x : Nat → Nat} (hF : FeS μ0 m rl) (hl : l < 4) (hx : PxOK μ0 l x) (h1 : pc x l ≤ y) (h2 : y < pc x l + 10 ^ (4 - l)) (hy : Fe μ0 y) : (dgt y l : Int) ≤ stk μ0 l ∧ ∀ k, k < 2 * m → 0 ≤ sv (rS μ0 rl k) x l + rch μ0 (rS μ0 rl k) (3 - l) + rS μ0 rl k l * (dgt y l : Int) := by
  obtain ⟨hb, hs⟩ := (hF y).1 hy
  have hd := pc_dg (by omega) (fun i hi => (hx i hi).1) h1 h2
  refine ⟨hb l hl, fun k hk => ?_⟩
  have a := hs k hk
  rw [sv_tl _ y (l := l + 1) (by omega), show 4 - (l + 1) = 3 - l by omega] at a
  have b := tl_rch hb (rS μ0 rl k) (3 - l) (by omega)
  have e : sv (rS μ0 rl k) (dgt y) (l + 1) = sv (rS μ0 rl k) (dgt y) l + rS μ0 rl k l * (dgt y l : Int) := rfl
  rw [e, sv_congr l hd] at a
  omega
theorem take_rows {N m l v : Nat} {rl : Nat → Nat} {x : Nat → Nat} {μ0 : Mem} {T : Int32 → Int64 → Mem → Option Mem} {s : Int64} (hl : l < 4) : ∀ (j f : Nat) (μ : Mem), j ≤ 2 * m → Wb μ0 m rl μ → (∀ k, k < 2 * m → μ.2 (75 + l) k = JJ (sv (rS μ0 rl k) x l)) → (∀ k, k < 2 * m - j → μ.2 (75 + (l + 1)) k = JJ (sv (rS μ0 rl k) x l + rS μ0 rl k l * (v : Int))) → v ≤ 9 →
    ∃ μ', M_WS_take_36 N T (f + j + 1) (nI l) (nI v) s (nI (2 * m - j)) μ = (T (nI (l + 1)) s μ').bind some ∧ μ'.1 = μ.1 ∧ (∀ a b, a ≠ 75 + (l + 1) → μ'.2 a b = μ.2 a b) ∧ ∀ k, k < 2 * m → μ'.2 (75 + (l + 1)) k = JJ (sv (rS μ0 rl k) x l + rS μ0 rl k l * (v : Int)) := by
  intro j
  induction j with
  | zero =>
    intro f μ _ hc hr hv _
    obtain ⟨⟨c1, c2, c3, -⟩, -⟩ := hc
    refine ⟨μ, ?_, rfl, fun _ _ _ => rfl, fun k hk => hv k (by omega)⟩
    rw [M_WS_take_36, if_pos (by rw [c2, two_nI]; exact nI_le (by omega) (by omega)), nI_1]
  | succ j ih =>
    intro f μ hj hc hr hv h9
    obtain ⟨⟨c1, c2, c3, c4, c5, c6⟩, cb⟩ := id hc
    obtain ⟨K, hK⟩ : ∃ K, K = 2 * m - (j + 1) := ⟨_, rfl⟩
    have lt : ¬ nI (2 * m) ≤ nI K := nI_ge (a := K) (b := 2 * m) (by omega) (by omega)
    have l9 : lnJ (54 + K) = 5 := lnJ_side (by omega)
    have lv := lnJ_v (l := l) (by omega)
    have lv' := lnJ_v (l := l + 1) (by omega)
    obtain ⟨μ', a1, a2, a3, a4⟩ := ih f (μ.1, upJ μ.2 (75 + (l + 1)) K (JJ (sv (rS μ0 rl K) x l + rS μ0 rl K l * (v : Int)))) (by omega) ⟨⟨c1, c2, fun k hk c hc' => by dsimp only; rw [upJ_ne (by omega)]; exact c3 k hk c hc', c4, fun i hi => by dsimp only; rw [upJ_ne (by omega)]; exact c5 i hi, c6⟩, fun l' hl' => ⟨fun k hk => by dsimp only; rw [upJ_ne (by omega)]; exact (cb l' hl').1 k hk, by dsimp only; rw [upJ_ne (by omega)]; exact (cb l' hl').2⟩⟩ (fun k hk => by dsimp only; rw [upJ_ne (by omega)]; exact hr k hk) (fun k hk => by
      dsimp only
      by_cases e : k = K
      · rw [e, upJ_at]
      · rw [upJ_pl e]; exact hv k (by omega)) h9
    refine ⟨μ', ?_, a2, fun a b h => (a3 a b h).trans (upJ_ne h b), a4⟩
    have l1 := ldA_n (k := 9) (j := K) (by decide) (by decide) (by show K < 16; omega) (by decide)
    have l2 := ldA_n (k := 11) (j := l) (by decide) (by decide) (by show l < 5; omega) (by decide)
    have l3 := ldA_n (k := 11) (j := l + 1) (by decide) (by decide) (by show l + 1 < 5; omega) (by decide)
    have eo9 : outB 9 = 54 := rfl
    have eo11 : outB 11 = 75 := rfl
    rw [eo9] at l1
    rw [eo11] at l2 l3
    have ev : (nI v).toInt64 = JJ (v : Int) := by rw [i2l_J, nI_toInt (by omega)]
    rw [← hK, show f + (j + 1) + 1 = (f + j + 1) + 1 by omega, M_WS_take_36, if_neg (by rw [c2, two_nI]; exact lt), nI_1, l3, bs, l2, bs, ldJ_n (by omega) (by omega) (by omega) (by omega), bs, l1, bs, ldJ_n (by omega) (by omega) (by omega) (by omega), bs, hr K (by omega), c3 K (by omega) l (by omega), ev, JJ_mul, JJ_add, stJ_n (by omega) (by omega) (by omega) (by omega), bs, nI_1, show K + 1 = 2 * m - j by omega]
    exact a1
theorem s_take {N m d l v : Nat} {rl : Nat → Nat} {x : Nat → Nat} {μ0 μ : Mem} (hN : 20 ≤ N) (hl : l < 3) (hP : PL N μ0 m rl d (l + 1)) (hF : FeS μ0 m rl) (hx : PxOK μ0 l x) (h9 : v ≤ 9) (hv : (v : Int) ≤ stk μ0 l) (hS : St μ0 m rl l x (pc x l + v * 10 ^ (3 - l)) μ) :
    ∃ μ', M_WS_take N (M_WS_place N d) (nI l) (nI v) (JJ (spn μ0 x l + cts μ0 l * (v : Int))) μ = some μ' ∧ Fr l μ μ' ∧ Bst μ0 (pc x l + (v + 1) * 10 ^ (3 - l)) μ' := by
  obtain ⟨hb, s2, s3, s4⟩ := hS
  obtain ⟨x', ex'⟩ : ∃ x' : Nat → Nat, x' = fun i => if i = l then v else x i := ⟨_, rfl⟩
  have xl : x' l = v := by rw [ex']; dsimp only; rw [if_pos rfl]
  have xi : ∀ i, i < l → x' i = x i := fun i hi => by rw [ex']; dsimp only; rw [if_neg (by omega)]
  have hx' : PxOK μ0 (l + 1) x' := fun i hi => by
    by_cases e : i = l
    · rw [e, xl]; exact ⟨h9, hv⟩
    · rw [xi i (by omega)]; exact hx i (by omega)
  have epc : pc x' (l + 1) = pc x l + v * 10 ^ (3 - l) := by
    show pc x' l + x' l * 10 ^ (3 - l) = _
    rw [xl, pc_congr l xi]
  have esp : spn μ0 x' (l + 1) = spn μ0 x l + cts μ0 l * (v : Int) := by
    show spn μ0 x' l + cts μ0 l * (x' l : Int) = _
    rw [xl, spn_congr l xi]
  have esv : ∀ k, sv (rS μ0 rl k) x' (l + 1) = sv (rS μ0 rl k) x l + rS μ0 rl k l * (v : Int) := fun k => by
    show sv (rS μ0 rl k) x' l + rS μ0 rl k l * (x' l : Int) = _
    rw [xl, sv_congr l xi]
  have e10 : pc x' (l + 1) + 10 ^ (4 - (l + 1)) = pc x l + (v + 1) * 10 ^ (3 - l) := by
    rw [epc, show 4 - (l + 1) = 3 - l by omega, Nat.add_mul]; omega
  have sb := spn_bd hb.1 (x := x') (l + 1) (by omega) (fun i hi => (hx' i hi).1)
  have lb := lst_bd hb.1 (3 - l) (by omega)
  -- going on
  have go : ∃ μ', M_WS_take_26 N (M_WS_place N d) (nI l) (nI v) (JJ (spn μ0 x l + cts μ0 l * (v : Int))) μ = some μ' ∧ Fr l μ μ' ∧ Bst μ0 (pc x l + (v + 1) * 10 ^ (3 - l)) μ' := by
    have hb1 : Wb μ0 m rl (upI μ.1 25 l (nI v), μ.2) := hb.fr (eqO.upI (by unfold WIw; omega))
    have m8 := hb.1.1
    obtain ⟨μ1, a1, a2, a3, a4⟩ := take_rows (N := N) (v := v) (T := M_WS_place N d) (s := JJ (spn μ0 x l + cts μ0 l * (v : Int))) (l := l) (x := x) (by omega) (2 * m) (N - 2 * m - 1) (upI μ.1 25 l (nI v), μ.2) (Nat.le_refl _) hb1 s3 (fun k hk => absurd hk (by omega)) h9
    rw [show N - 2 * m - 1 + 2 * m + 1 = N by omega, Nat.sub_self] at a1
    have fr1 : Fr l μ μ1 := by
      refine ⟨⟨fun k j q => ?_, fun k j q => ?_⟩, fun i hi => ?_, fun i hi k => ?_⟩
      · rw [a2]; exact upI_ne (fun e => q (by unfold WIw; omega)) j
      · exact a3 k j (fun e => q (by unfold WJx; omega))
      · rw [a2]; exact upI_pl (by omega)
      · exact a3 _ _ (by omega)
    have st1 : St μ0 m rl (l + 1) x' (pc x' (l + 1)) μ1 := by
      refine ⟨hb.fr fr1.1, fun i hi => ?_, fun k hk => ?_, ?_⟩
      · rw [a2]
        dsimp only
        by_cases e : i = l
        · rw [e, upI_at, xl]
        · rw [upI_pl e, xi i (by omega)]; exact s2 i (by omega)
      · rw [a4 k hk, esv]
      · rw [epc]
        refine s4.of ?_ (fun i => ?_) ?_
        · rw [a2]; dsimp only; rw [upI_ne (by omega)]
        · rw [a2]; dsimp only; rw [upI_ne (by omega)]
        · exact a3 5 7 (by omega)
    obtain ⟨μ2, b1, b2, b3⟩ := hP x' μ1 hx' st1
    refine ⟨μ2, ?_, fr1.trans b2.up, by rw [← e10]; exact b3⟩
    unfold M_WS_take_26
    rw [stI_n (by decide) (by decide) (by show l < 4; omega) (by decide), bs]
    have a1' : M_WS_take_36 N (M_WS_place N d) N (nI l) (nI v) (JJ (spn μ0 x l + cts μ0 l * (v : Int))) 0 (upI μ.1 25 l (nI v), μ.2) = _ := a1
    rw [a1', ← esp, b1, bs]
  unfold M_WS_take
  rcases s4.sui with z | z
  · rw [if_pos z]; exact go
  · have eL : μ.2 45 (l + 1) = JJ (lst μ0 (3 - l)) := by
      have := (hb.2 (l + 1) (by omega)).2
      rw [show 4 - (l + 1) = 3 - l by omega] at this
      exact this
    rw [if_neg (by rw [z]; decide), nI_1, ldJ_n (by decide) (by decide) (by show l + 1 < 5; omega) (by decide), bs, eL, ← esp, JJ_add]
    have eS : (JJ (spn μ0 x' (l + 1) + lst μ0 (3 - l))).toInt = spn μ0 x' (l + 1) + lst μ0 (3 - l) := by
      unfold bnd at sb lb
      exact JJ_int (by omega) (by omega)
    by_cases hlt : spn μ0 x' (l + 1) + lst μ0 (3 - l) < (μ.2 5 7).toInt
    · rw [if_pos (by rw [cmp_lt, Int64.lt_iff_toInt_lt, eS]; exact hlt), esp]
      exact go
    · rw [if_neg (by rw [cmp_lt, Int64.lt_iff_toInt_lt, eS]; exact hlt)]
      refine ⟨μ, rfl, Fr.refl l μ, s4.dear z (by rw [Nat.add_mul]; omega) (fun y h1 h2 hy => ?_)⟩
      have hbx := ((hF y).1 hy).1
      have hd := pc_dg (x := x') (l := l + 1) (by omega) (fun i hi => (hx' i hi).1) (by rw [epc]; exact h1) (by rw [e10]; exact h2)
      have t := tl_lst hbx (3 - l) (by omega)
      have p := spn_tl μ0 y (l := l + 1) (by omega)
      rw [spn_price, show 4 - (l + 1) = 3 - l by omega, spn_congr (l + 1) hd] at p
      omega
