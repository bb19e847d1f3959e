/-! PURE: the class's whole cut search; what a memory's inputs are. -/
/-- the two memories hold the same lots and rules -/
def Inp (μ μ' : Mem) : Prop := (μ'.1 1 0 = μ.1 1 0 ∧ μ'.1 7 0 = μ.1 7 0 ∧ μ'.1 2 0 = μ.1 2 0) ∧ (∀ k i, k = 14 ∨ (17 ≤ k ∧ k < 23) ∨ (28 ≤ k ∧ k < 36) → μ'.1 k i = μ.1 k i) ∧ ∀ k i, k = 42 ∨ (47 ≤ k ∧ k < 54) → μ'.2 k i = μ.2 k i
theorem Inp.refl (μ : Mem) : Inp μ μ := ⟨⟨rfl, rfl, rfl⟩, fun _ _ _ => rfl, fun _ _ _ => rfl⟩
theorem Inp.symm {a b : Mem} (h : Inp a b) : Inp b a := ⟨⟨h.1.1.symm, h.1.2.1.symm, h.1.2.2.symm⟩, fun k i q => (h.2.1 k i q).symm, fun k i q => (h.2.2 k i q).symm⟩
theorem Inp.trans {a b c : Mem} (h : Inp a b) (g : Inp b c) : Inp a c := ⟨⟨g.1.1.trans h.1.1, g.1.2.1.trans h.1.2.1, g.1.2.2.trans h.1.2.2⟩, fun k i q => (g.2.1 k i q).trans (h.2.1 k i q), fun k i q => (g.2.2 k i q).trans (h.2.2 k i q)⟩
theorem Inp.ofO {WI WJ : Nat → Prop} {a b : Mem} (h : eqO WI WJ a b) (hI : ∀ k, WI k → k ≠ 1 ∧ k ≠ 7 ∧ k ≠ 2 ∧ ¬ (k = 14 ∨ (17 ≤ k ∧ k < 23) ∨ (28 ≤ k ∧ k < 36))) (hJ : ∀ k, WJ k → ¬ (k = 42 ∨ (47 ≤ k ∧ k < 54))) : Inp a b :=
  ⟨⟨h.1 1 0 (fun q => (hI _ q).1 rfl), h.1 7 0 (fun q => (hI _ q).2.1 rfl), h.1 2 0 (fun q => (hI _ q).2.2.1 rfl)⟩, fun k i q => h.1 k i (fun w => (hI _ w).2.2.2 q), fun k i q => h.2 k i (fun w => hJ _ w q)⟩
theorem Inp.A {a b : Mem} (h : Inp a b) (hA : InvA a) : InvA b := by
  obtain ⟨n, a1, a2, a3, a4, a5, a6, a7, a8, a9, a10, a11⟩ := hA
  obtain ⟨⟨e1, e7, e2⟩, hi, hj⟩ := h
  refine ⟨n, a1, e1.trans a2, e7.trans a3, fun i q => ?_, fun i q => ?_, fun i q w hw => ?_, fun w hw => ?_, fun i q => ?_, ?_, fun i q => ?_, ?_⟩
  · rw [hi 28 i (by omega), hi 17 i (by omega)]; exact a4 i q
  · rw [hj 42 i (by omega), hi 29 i (by omega)]; exact a5 i q
  · rw [hj (47 + w) i (by omega), hi 30 _ (by omega)]; exact a6 i q w hw
  · rw [hj (47 + w) _ (by omega)]; exact a7 w hw
  · rw [hj 52 _ (by omega)]; exact a8 i q
  · rw [hj 52 _ (by omega)]; exact a9
  · rw [hj 53 _ (by omega)]; exact a10 i q
  · rw [hj 53 _ (by omega)]; exact a11
theorem Inp.R {a b : Mem} (h : Inp a b) (hR : InvR a) : InvR b := InvR.of hR h.1.2.2 (fun i => h.2.1 14 i (by omega)) (fun k q i => h.2.1 k i (by omega))
theorem stk_I {a b : Mem} (h : Inp a b) : stk b = stk a := funext fun j => by unfold stk; rw [h.2.1 17 j (by omega)]
theorem cts_I {a b : Mem} (h : Inp a b) : cts b = cts a := funext fun j => by unfold cts; rw [h.2.1 29 j (by omega)]
theorem Tn_I {a b : Mem} (h : Inp a b) : Tn b = Tn a := by unfold Tn; rw [h.1.2.2]
theorem fo_I {a b : Mem} (h : Inp a b) {w : Nat} (hw : w < 7) : fo b w = fo a w := funext fun j => by unfold fo; rw [h.2.2 (47 + w) j (by omega)]
theorem fI_I {a b : Mem} (h : Inp a b) : fI b = fI a := funext fun j => by unfold fI; rw [h.2.1 18 j (by omega)]
theorem gI_I {a b : Mem} (h : Inp a b) : gI b = gI a := funext fun j => by unfold gI; rw [h.2.1 19 j (by omega)]
theorem rwL_I {a b : Mem} (h : Inp a b) {r : Nat} (hf : fI a r < 7) (hg : gI a r < 7) : rwL b r = rwL a r := funext fun j => by
  unfold rwL
  rw [fI_I h, gI_I h, fo_I h hf, fo_I h hg, h.2.1 22 r (by omega), h.2.1 20 r (by omega)]
theorem rwH_I {a b : Mem} (h : Inp a b) {r : Nat} (hf : fI a r < 7) (hg : gI a r < 7) : rwH b r = rwH a r := funext fun j => by
  unfold rwH
  rw [fI_I h, gI_I h, fo_I h hf, fo_I h hg, h.2.1 22 r (by omega), h.2.1 21 r (by omega)]
theorem rwK_I {a b : Mem} (h : Inp a b) (hR : InvR a) {k : Nat} (hk : k < 16) (ht : (Tn a).testBit (k / 2) = true) : rwK b k = rwK a k := by
  obtain ⟨hf, hg, -⟩ := told_fg hR (r := k / 2) (by omega) ht
  unfold rwK
  rw [rwL_I h hf hg, rwH_I h hf hg]
theorem box_I {a b : Mem} (h : Inp a b) (p : Nat → Int) : InBox b p ↔ InBox a p := by unfold InBox; rw [stk_I h]
theorem Kern_I {a b : Mem} (h : Inp a b) (hR : InvR a) (p v : Nat → Int) : Kern b p v ↔ Kern a p v := by
  unfold Kern
  rw [stk_I h, Tn_I h]
  constructor
  · exact fun q => ⟨q.1, fun k hk ht hd => by have e := rwK_I h hR hk ht; rw [← e]; exact q.2 k hk ht (by rw [e]; exact hd)⟩
  · exact fun q => ⟨q.1, fun k hk ht hd => by have e := rwK_I h hR hk ht; rw [e]; exact q.2 k hk ht (by rw [← e]; exact hd)⟩
theorem Corner_I {a b : Mem} (h : Inp a b) (hR : InvR a) (p : Nat → Int) : Corner b p ↔ Corner a p := by
  unfold Corner
  rw [box_I h]
  constructor
  · exact fun q => ⟨q.1, fun v hv => q.2 v ((Kern_I h hR p v).2 hv)⟩
  · exact fun q => ⟨q.1, fun v hv => q.2 v ((Kern_I h hR p v).1 hv)⟩
theorem price_I {a b : Mem} (h : Inp a b) (p : Nat → Int) : price b p = price a p := by unfold price; rw [cts_I h]
theorem kp_I {a b : Mem} (h : Inp a b) (r : Nat) (p : Nat → Int) (D : Int) : kp b r p D ↔ kp a r p D :=
  kp_congr (fun k hk i => h.2.1 k i (by omega)) (fun _ _ => rfl)
theorem bad_I {a b : Mem} (h : Inp a b) (p : Nat → Int) (r : Nat) : bad b p r = bad a p r := by
  unfold bad
  rw [Tn_I h, decide_eq_decide.2 (kp_I h r p (p 4))]
theorem unk_I {a b : Mem} (h : Inp a b) (p : Nat → Int) : unk b p = unk a p := by
  unfold unk
  rw [show bad b p = bad a p from funext (bad_I h p)]
theorem Feas_I {a b : Mem} (h : Inp a b) (p : Nat → Int) : Feas b p ↔ Feas a p := by rw [feas_unk, feas_unk, unk_I h]
theorem rS_I {a b : Mem} (h : Inp a b) (hR : InvR a) {rl : Nat → Nat} {m : Nat} (hl : RlOK a rl m) {k : Nat} (hk : k < 2 * m) : rS b rl k = rS a rl k := by
  obtain ⟨q1, q2⟩ := hl (k / 2) (by omega)
  unfold rS
  refine rwK_I h hR (by omega) ?_
  rw [show (2 * rl (k / 2) + k % 2) / 2 = rl (k / 2) by omega]
  exact q2
theorem Sides_I {a b c : Mem} {m : Nat} {rl : Nat → Nat} (h : Inp a b) (hR : InvR a) (hs : SidesOK a c 8 m rl) : SidesOK b c 8 m rl := by
  obtain ⟨s1, s2, s3, s4, s5, s6⟩ := hs
  refine ⟨s1, s2, fun i hi => by rw [Tn_I h]; exact s3 i hi, fun r hr ht => s4 r hr (by rw [← Tn_I h]; exact ht), s5, fun k hk c hc => ?_⟩
  rw [s6 k hk c hc, rS_I h hR (fun i hi => (s3 i hi).2) hk]
/-- how the search of cut mixes ends: the state is sound, and every corner is covered -/
def Cut (μ0 μ : Mem) : Prop := SS μ0 μ ∧ ∀ p, Corner μ0 p → Cov μ0 μ p
theorem Cov_eqv {μ0 μ : Mem} (hA : InvA μ0) (hR : InvR μ0) {p q : Nat → Int} (h : Eqv p q) (hs : SS μ0 μ) (hc : Cov μ0 μ q) : Cov μ0 μ p := by
  refine ⟨fun h1 hf => ?_, fun h0 => ?_⟩
  · have hfq : Feas μ0 q := by rw [feas_unk, eqv_unk hA hR h, ← feas_unk]; exact hf
    have c := hc.1 h1 hfq
    have e := eqv_price μ0 h
    obtain ⟨p4, q4, -⟩ := h
    intro hlt
    apply c
    generalize (μ.2 4 12).toInt = y at *
    generalize (μ.2 4 11).toInt = x at *
    have k1 : price μ0 p * y * q 4 < x * p 4 * q 4 := Int.mul_lt_mul_of_pos_right hlt q4
    have k2 : (price μ0 q * y) * p 4 < (x * q 4) * p 4 := by
      have e1 : price μ0 q * y * p 4 = price μ0 p * y * q 4 := by
        rw [Int.mul_right_comm, Int.mul_comm (price μ0 q) (p 4), e, Int.mul_comm (q 4), Int.mul_right_comm]
      have e2 : x * q 4 * p 4 = x * p 4 * q 4 := Int.mul_right_comm ..
      rw [e1, e2]; exact k1
    exact Int.lt_of_mul_lt_mul_right k2 (by omega)
  · have := hc.2 h0
    rw [eqv_unk hA hR h] at this
    exact this
theorem s_search {N m : Nat} {rl : Nat → Nat} {μ : Mem} (hN : 258 ≤ N) (hx : Cx μ m rl) (hS : InvS μ) : ∃ μ', M_CS_search N μ = some μ' ∧ eqO WIs WJs μ μ' ∧ Cut μ μ' := by
  obtain ⟨μ1, b0, b1, b2, b3, b4, b5, b6, b7, b8, b9⟩ := s_begin hN hS
  have hq : eqO WIs WJs μ μ1 := ⟨fun k j q => b1 k j (fun e => q (by unfold WIs; omega)) (fun e => q (by unfold WIs; omega)), fun k j q => b2 k j (fun e => q (by unfold WJs; omega)) (fun e => q (by unfold WJs; omega))⟩
  have hSS : SS μ μ1 := ⟨⟨0, by omega, b4, cn_zero 256 b3, b3 0 (by omega), fun i hi => absurd hi (by omega), fun b hb => Or.inl (b3 b hb)⟩, Or.inl ⟨b5, b6, b7⟩⟩
  have hAt : At μ [] μ1 := by
    refine ⟨hq, b8, fun G hG hp => ?_, hSS⟩
    have : G = 0 := by
      revert hp
      revert hG
      revert G
      decide +kernel
    subst this
    exact b9
  have hb : ∀ G, bnd 1 (mn [] G) := fun G => by
    unfold bnd mn
    by_cases h : G = 0
    · rw [if_pos h]; decide
    · rw [if_neg h]; decide
  have hR : RsOK μ [] 0 := by
    refine ⟨rowsOK_nil μ, ⟨fun G _ => ?_, fun G _ _ => ?_⟩, by decide, by decide⟩
    · exact hb G
    · have := hb G
      have e : bP ([] : List (Nat → Int)).length 0 = 1 := by decide
      rw [e]
      unfold bnd at *
      omega
  obtain ⟨μ2, t1, t2, t3⟩ := tight_all (N := N) (by omega) hx 6 0 [] 0 μ1 (by omega) hR ⟨0, by omega, fun i _ _ => Nat.zero_le _⟩ (by decide) hAt
  refine ⟨μ2, ?_, hq.trans t2.1, t2.2.2.2.1, fun p hp => ?_⟩
  · unfold M_CS_search
    rw [b0, Option.bind_some]
    have t1' : M_CS_tighten N 6 0 0 μ1 = some μ2 := t1
    rw [t1', Option.bind_some]
  · obtain ⟨its, i1, i2, F, full, f1, f2, f3, f4, f5, f6⟩ := corner_complete hx.1 hx.2.1 hx.rl hx.sur hp
    refine Cov_eqv hx.1 hx.2.1 f6 t2.2.2.2.1 (t3 its F full (fun x hx => ⟨i1 x hx, Nat.zero_le _⟩) i2 f1 f2 ⟨f3, f4, f5, ?_⟩)
    obtain ⟨p4, q4, hv⟩ := f6
    refine ⟨q4, fun j hj => ?_⟩
    obtain ⟨c1, c2⟩ := hp.1.2 j hj
    have e := hv j hj
    generalize pt (mn (ro μ rl its [])) (tF μ full) F = q at *
    constructor
    · exact (scale_nn p4 q4 e).2 c1
    · have e2 : p 4 * (stk μ j * q 4 - q j) = q 4 * (stk μ j * p 4 - p j) := by
        rw [Int.mul_sub, Int.mul_sub, e, ← Int.mul_assoc, ← Int.mul_assoc, Int.mul_comm (p 4), Int.mul_comm (q 4) (stk μ j), Int.mul_assoc, Int.mul_assoc, Int.mul_comm (p 4)]
      have := (scale_nn p4 q4 e2).2 (by omega)
      omega
