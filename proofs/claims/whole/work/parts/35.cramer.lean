/-! PURE: rows enough for a corner, in order; Cramer's point; bounds. -/
theorem low_bits : ∀ B, B < 16 → ∀ i, i < 4 → (B.testBit i = false → B % 2 ^ (i + 1) = B % 2 ^ i) ∧ (B.testBit i = true → (B % 2 ^ (i + 1)).testBit i = true ∧ (B % 2 ^ (i + 1)) ^^^ 2 ^ i = B % 2 ^ i) ∧ B % 2 ^ (i + 1) < 16 ∧ ∀ j, j < 4 → B.testBit j = false → (B % 2 ^ (i + 1)).testBit j = false := by decide +kernel
theorem sab_ne (G j : Nat) : sab G j = 1 ∨ sab G j = -1 := by
  unfold sab
  by_cases h : pop8 (G / 2 ^ (j + 1)) % 2 = 1
  · exact .inr (if_pos h)
  · exact .inl (if_neg h)
theorem grow {row : Nat → Nat → Int} {T : Nat → Prop} {B : Nat} (hB : B < 16) (hk : ∀ v : Nat → Int, (∀ j, j < 4 → B.testBit j = false → v j = 0) → (∀ k, T k → dot4 (row k) v = 0) → ∀ j, j < 4 → v j = 0) : ∀ i, i ≤ 4 → ∃ ks : List Nat, (∀ k, k ∈ ks → T k) ∧ mn (ks.map row) (B % 2 ^ i) ≠ 0
  | 0, _ => ⟨[], fun k hk => absurd hk (List.not_mem_nil), by
      have : B % 2 ^ 0 = 0 := Nat.mod_one B
      rw [this]
      show (1 : Int) ≠ 0
      decide⟩
  | i + 1, hi => by
    obtain ⟨ks, hks, hz⟩ := grow hB hk i (by omega)
    obtain ⟨l1, l2, l3, l4⟩ := low_bits B hB i (by omega)
    by_cases hb : B.testBit i = true
    · obtain ⟨b1, b2⟩ := l2 hb
      apply Classical.byContradiction
      intro hno
      have hv := hk (vec (mn (ks.map row)) (B % 2 ^ (i + 1))) (fun j hj hf => by
        unfold vec
        rw [l4 j hj hf]; rfl) (fun k hT => by
        rw [← ex_vec _ _ _ l3]
        apply Classical.byContradiction
        intro hne
        exact hno ⟨k :: ks, fun k' hk' => by
          rcases List.mem_cons.mp hk' with rfl | h
          · exact hT
          · exact hks k' h, hne⟩) i (by omega)
      unfold vec at hv
      rw [if_pos b1, b2] at hv
      rcases sab_ne (B % 2 ^ (i + 1)) i with e | e <;> rw [e] at hv <;> omega
    · rw [l1 (by simpa using hb)]
      exact ⟨ks, hks, hz⟩
theorem ins_gt : ∀ (ks : List Nat) (k : Nat), ks.Pairwise (· > ·) → k ∉ ks → ∃ ks' : List Nat, ks'.Perm (k :: ks) ∧ ks'.Pairwise (· > ·)
  | [], k, _, _ => ⟨[k], List.Perm.refl _, by simp⟩
  | a :: ks, k, hp, hn => by
    rw [List.pairwise_cons] at hp
    obtain ⟨h1, h2⟩ := hp
    have ha : k ≠ a := fun e => hn (e ▸ List.mem_cons_self ..)
    by_cases h : a < k
    · refine ⟨k :: a :: ks, List.Perm.refl _, ?_⟩
      rw [List.pairwise_cons, List.pairwise_cons]
      refine ⟨fun b hb => ?_, h1, h2⟩
      rcases List.mem_cons.mp hb with rfl | q
      · exact h
      · have := h1 b q
        omega
    · obtain ⟨ks', p1, p2⟩ := ins_gt ks k h2 (fun q => hn (List.mem_cons_of_mem _ q))
      refine ⟨a :: ks', (List.Perm.cons a p1).trans (List.Perm.swap ..), ?_⟩
      rw [List.pairwise_cons]
      refine ⟨fun b hb => ?_, p2⟩
      rcases List.mem_cons.mp (p1.mem_iff.mp hb) with rfl | q
      · omega
      · exact h1 b q
theorem srt {row : Nat → Nat → Int} : ∀ (ks : List Nat), (∃ G, G < 32 ∧ mn (ks.map row) G ≠ 0) → ∃ ks' : List Nat, ks'.Perm ks ∧ ks'.Pairwise (· > ·)
  | [], _ => ⟨[], List.Perm.refl _, List.Pairwise.nil⟩
  | k :: ks, ⟨G, hG, hz⟩ => by
    obtain ⟨H, hH, _, hz'⟩ := mn_sub (r := row k) (rs := ks.map row) hG hz
    obtain ⟨ks', p1, p2⟩ := srt ks ⟨H, hH, hz'⟩
    obtain ⟨k2, p3, p4⟩ := ins_gt ks' k p2 (fun hm => hz (mn_dup (r := row k) (rs := ks.map row) (List.mem_map.mpr ⟨k, p1.mem_iff.mp hm, rfl⟩) G hG))
    exact ⟨k2, p3.trans (List.Perm.cons k p1), p4⟩
theorem pick {row : Nat → Nat → Int} {T : Nat → Prop} {B : Nat} (hB : B < 16) (hk : ∀ v : Nat → Int, (∀ j, j < 4 → B.testBit j = false → v j = 0) → (∀ k, T k → dot4 (row k) v = 0) → ∀ j, j < 4 → v j = 0) : ∃ ks : List Nat, ks.Pairwise (· > ·) ∧ (∀ k, k ∈ ks → T k) ∧ mn (ks.map row) B ≠ 0 := by
  obtain ⟨ks, h1, h2⟩ := grow hB hk 4 (by omega)
  rw [Nat.mod_eq_of_lt (by omega)] at h2
  obtain ⟨ks', p1, p2⟩ := srt ks ⟨B, by omega, h2⟩
  refine ⟨ks', p2, fun k hk' => h1 k (p1.mem_iff.mp hk'), fun hz => h2 ?_⟩
  obtain ⟨e, he, hp⟩ := mn_perm (p1.map row)
  rw [hp B (by omega)] at hz
  rcases he with rfl | rfl <;> omega
def tw (t : Nat → Int) (c : Nat) : Int := if c = 4 then 1 else t c
def sp (o j c : Nat) : Int := if pop8 (o &&& ((2 ^ j - 1) ^^^ (2 ^ c - 1))) % 2 = 1 then -1 else 1
def rt (f t : Nat → Int) (o j c : Nat) : Int := sp o j c * (tw t c * f (o ||| 2 ^ c))
def rp (f t : Nat → Int) (o j : Nat) : Int := ((((0 + rt f t o j 0) + rt f t o j 1) + rt f t o j 2) + rt f t o j 3) + rt f t o j 4
def qv (f t : Nat → Int) (F j : Nat) : Int := if j = 4 then f F else if F.testBit j then -(rp f t (F ^^^ 2 ^ j) j) else t j * f F
def dot5i (r q : Nat → Int) : Int := r 0 * q 0 + r 1 * q 1 + r 2 * q 2 + r 3 * q 3 + r 4 * q 4
theorem qv_0 (f t : Nat → Int) : qv f t 0 0 = t 0 * f 0 ∧ qv f t 0 1 = t 1 * f 0 ∧ qv f t 0 2 = t 2 * f 0 ∧ qv f t 0 3 = t 3 * f 0 ∧ qv f t 0 4 = f 0 := ⟨rfl, rfl, rfl, rfl, rfl⟩
theorem qv_1 (f t : Nat → Int) : qv f t 1 0 = -(((((0 + 1 * (t 0 * f 1)) + 1 * (t 1 * f 2)) + 1 * (t 2 * f 4)) + 1 * (t 3 * f 8)) + 1 * (1 * f 16)) ∧ qv f t 1 1 = t 1 * f 1 ∧ qv f t 1 2 = t 2 * f 1 ∧ qv f t 1 3 = t 3 * f 1 ∧ qv f t 1 4 = f 1 := ⟨rfl, rfl, rfl, rfl, rfl⟩
theorem qv_2 (f t : Nat → Int) : qv f t 2 0 = t 0 * f 2 ∧ qv f t 2 1 = -(((((0 + 1 * (t 0 * f 1)) + 1 * (t 1 * f 2)) + 1 * (t 2 * f 4)) + 1 * (t 3 * f 8)) + 1 * (1 * f 16)) ∧ qv f t 2 2 = t 2 * f 2 ∧ qv f t 2 3 = t 3 * f 2 ∧ qv f t 2 4 = f 2 := ⟨rfl, rfl, rfl, rfl, rfl⟩
theorem qv_3 (f t : Nat → Int) : qv f t 3 0 = -(((((0 + 1 * (t 0 * f 3)) + 1 * (t 1 * f 2)) + -1 * (t 2 * f 6)) + -1 * (t 3 * f 10)) + -1 * (1 * f 18)) ∧ qv f t 3 1 = -(((((0 + -1 * (t 0 * f 1)) + 1 * (t 1 * f 3)) + 1 * (t 2 * f 5)) + 1 * (t 3 * f 9)) + 1 * (1 * f 17)) ∧ qv f t 3 2 = t 2 * f 3 ∧ qv f t 3 3 = t 3 * f 3 ∧ qv f t 3 4 = f 3 := ⟨rfl, rfl, rfl, rfl, rfl⟩
theorem qv_4 (f t : Nat → Int) : qv f t 4 0 = t 0 * f 4 ∧ qv f t 4 1 = t 1 * f 4 ∧ qv f t 4 2 = -(((((0 + 1 * (t 0 * f 1)) + 1 * (t 1 * f 2)) + 1 * (t 2 * f 4)) + 1 * (t 3 * f 8)) + 1 * (1 * f 16)) ∧ qv f t 4 3 = t 3 * f 4 ∧ qv f t 4 4 = f 4 := ⟨rfl, rfl, rfl, rfl, rfl⟩
theorem qv_5 (f t : Nat → Int) : qv f t 5 0 = -(((((0 + 1 * (t 0 * f 5)) + 1 * (t 1 * f 6)) + 1 * (t 2 * f 4)) + -1 * (t 3 * f 12)) + -1 * (1 * f 20)) ∧ qv f t 5 1 = t 1 * f 5 ∧ qv f t 5 2 = -(((((0 + -1 * (t 0 * f 1)) + 1 * (t 1 * f 3)) + 1 * (t 2 * f 5)) + 1 * (t 3 * f 9)) + 1 * (1 * f 17)) ∧ qv f t 5 3 = t 3 * f 5 ∧ qv f t 5 4 = f 5 := ⟨rfl, rfl, rfl, rfl, rfl⟩
theorem qv_6 (f t : Nat → Int) : qv f t 6 0 = t 0 * f 6 ∧ qv f t 6 1 = -(((((0 + 1 * (t 0 * f 5)) + 1 * (t 1 * f 6)) + 1 * (t 2 * f 4)) + -1 * (t 3 * f 12)) + -1 * (1 * f 20)) ∧ qv f t 6 2 = -(((((0 + -1 * (t 0 * f 3)) + -1 * (t 1 * f 2)) + 1 * (t 2 * f 6)) + 1 * (t 3 * f 10)) + 1 * (1 * f 18)) ∧ qv f t 6 3 = t 3 * f 6 ∧ qv f t 6 4 = f 6 := ⟨rfl, rfl, rfl, rfl, rfl⟩
theorem qv_7 (f t : Nat → Int) : qv f t 7 0 = -(((((0 + 1 * (t 0 * f 7)) + 1 * (t 1 * f 6)) + -1 * (t 2 * f 6)) + 1 * (t 3 * f 14)) + 1 * (1 * f 22)) ∧ qv f t 7 1 = -(((((0 + -1 * (t 0 * f 5)) + 1 * (t 1 * f 7)) + 1 * (t 2 * f 5)) + -1 * (t 3 * f 13)) + -1 * (1 * f 21)) ∧ qv f t 7 2 = -(((((0 + 1 * (t 0 * f 3)) + -1 * (t 1 * f 3)) + 1 * (t 2 * f 7)) + 1 * (t 3 * f 11)) + 1 * (1 * f 19)) ∧ qv f t 7 3 = t 3 * f 7 ∧ qv f t 7 4 = f 7 := ⟨rfl, rfl, rfl, rfl, rfl⟩
theorem qv_8 (f t : Nat → Int) : qv f t 8 0 = t 0 * f 8 ∧ qv f t 8 1 = t 1 * f 8 ∧ qv f t 8 2 = t 2 * f 8 ∧ qv f t 8 3 = -(((((0 + 1 * (t 0 * f 1)) + 1 * (t 1 * f 2)) + 1 * (t 2 * f 4)) + 1 * (t 3 * f 8)) + 1 * (1 * f 16)) ∧ qv f t 8 4 = f 8 := ⟨rfl, rfl, rfl, rfl, rfl⟩
theorem qv_9 (f t : Nat → Int) : qv f t 9 0 = -(((((0 + 1 * (t 0 * f 9)) + 1 * (t 1 * f 10)) + 1 * (t 2 * f 12)) + 1 * (t 3 * f 8)) + -1 * (1 * f 24)) ∧ qv f t 9 1 = t 1 * f 9 ∧ qv f t 9 2 = t 2 * f 9 ∧ qv f t 9 3 = -(((((0 + -1 * (t 0 * f 1)) + 1 * (t 1 * f 3)) + 1 * (t 2 * f 5)) + 1 * (t 3 * f 9)) + 1 * (1 * f 17)) ∧ qv f t 9 4 = f 9 := ⟨rfl, rfl, rfl, rfl, rfl⟩
theorem qv_10 (f t : Nat → Int) : qv f t 10 0 = t 0 * f 10 ∧ qv f t 10 1 = -(((((0 + 1 * (t 0 * f 9)) + 1 * (t 1 * f 10)) + 1 * (t 2 * f 12)) + 1 * (t 3 * f 8)) + -1 * (1 * f 24)) ∧ qv f t 10 2 = t 2 * f 10 ∧ qv f t 10 3 = -(((((0 + -1 * (t 0 * f 3)) + -1 * (t 1 * f 2)) + 1 * (t 2 * f 6)) + 1 * (t 3 * f 10)) + 1 * (1 * f 18)) ∧ qv f t 10 4 = f 10 := ⟨rfl, rfl, rfl, rfl, rfl⟩
theorem qv_11 (f t : Nat → Int) : qv f t 11 0 = -(((((0 + 1 * (t 0 * f 11)) + 1 * (t 1 * f 10)) + -1 * (t 2 * f 14)) + -1 * (t 3 * f 10)) + 1 * (1 * f 26)) ∧ qv f t 11 1 = -(((((0 + -1 * (t 0 * f 9)) + 1 * (t 1 * f 11)) + 1 * (t 2 * f 13)) + 1 * (t 3 * f 9)) + -1 * (1 * f 25)) ∧ qv f t 11 2 = t 2 * f 11 ∧ qv f t 11 3 = -(((((0 + 1 * (t 0 * f 3)) + -1 * (t 1 * f 3)) + 1 * (t 2 * f 7)) + 1 * (t 3 * f 11)) + 1 * (1 * f 19)) ∧ qv f t 11 4 = f 11 := ⟨rfl, rfl, rfl, rfl, rfl⟩
theorem qv_12 (f t : Nat → Int) : qv f t 12 0 = t 0 * f 12 ∧ qv f t 12 1 = t 1 * f 12 ∧ qv f t 12 2 = -(((((0 + 1 * (t 0 * f 9)) + 1 * (t 1 * f 10)) + 1 * (t 2 * f 12)) + 1 * (t 3 * f 8)) + -1 * (1 * f 24)) ∧ qv f t 12 3 = -(((((0 + -1 * (t 0 * f 5)) + -1 * (t 1 * f 6)) + -1 * (t 2 * f 4)) + 1 * (t 3 * f 12)) + 1 * (1 * f 20)) ∧ qv f t 12 4 = f 12 := ⟨rfl, rfl, rfl, rfl, rfl⟩
theorem qv_13 (f t : Nat → Int) : qv f t 13 0 = -(((((0 + 1 * (t 0 * f 13)) + 1 * (t 1 * f 14)) + 1 * (t 2 * f 12)) + -1 * (t 3 * f 12)) + 1 * (1 * f 28)) ∧ qv f t 13 1 = t 1 * f 13 ∧ qv f t 13 2 = -(((((0 + -1 * (t 0 * f 9)) + 1 * (t 1 * f 11)) + 1 * (t 2 * f 13)) + 1 * (t 3 * f 9)) + -1 * (1 * f 25)) ∧ qv f t 13 3 = -(((((0 + 1 * (t 0 * f 5)) + -1 * (t 1 * f 7)) + -1 * (t 2 * f 5)) + 1 * (t 3 * f 13)) + 1 * (1 * f 21)) ∧ qv f t 13 4 = f 13 := ⟨rfl, rfl, rfl, rfl, rfl⟩
theorem qv_14 (f t : Nat → Int) : qv f t 14 0 = t 0 * f 14 ∧ qv f t 14 1 = -(((((0 + 1 * (t 0 * f 13)) + 1 * (t 1 * f 14)) + 1 * (t 2 * f 12)) + -1 * (t 3 * f 12)) + 1 * (1 * f 28)) ∧ qv f t 14 2 = -(((((0 + -1 * (t 0 * f 11)) + -1 * (t 1 * f 10)) + 1 * (t 2 * f 14)) + 1 * (t 3 * f 10)) + -1 * (1 * f 26)) ∧ qv f t 14 3 = -(((((0 + 1 * (t 0 * f 7)) + 1 * (t 1 * f 6)) + -1 * (t 2 * f 6)) + 1 * (t 3 * f 14)) + 1 * (1 * f 22)) ∧ qv f t 14 4 = f 14 := ⟨rfl, rfl, rfl, rfl, rfl⟩
theorem qv_15 (f t : Nat → Int) : qv f t 15 0 = -(((((0 + 1 * (t 0 * f 15)) + 1 * (t 1 * f 14)) + -1 * (t 2 * f 14)) + 1 * (t 3 * f 14)) + -1 * (1 * f 30)) ∧ qv f t 15 1 = -(((((0 + -1 * (t 0 * f 13)) + 1 * (t 1 * f 15)) + 1 * (t 2 * f 13)) + -1 * (t 3 * f 13)) + 1 * (1 * f 29)) ∧ qv f t 15 2 = -(((((0 + 1 * (t 0 * f 11)) + -1 * (t 1 * f 11)) + 1 * (t 2 * f 15)) + 1 * (t 3 * f 11)) + -1 * (1 * f 27)) ∧ qv f t 15 3 = -(((((0 + -1 * (t 0 * f 7)) + 1 * (t 1 * f 7)) + -1 * (t 2 * f 7)) + 1 * (t 3 * f 15)) + 1 * (1 * f 23)) ∧ qv f t 15 4 = f 15 := ⟨rfl, rfl, rfl, rfl, rfl⟩
theorem cramer {r f t : Nat → Int} (h : ∀ G, G < 32 → ex r f G = 0) : ∀ F, F < 16 → (∀ c, c < 4 → F.testBit c = true → t c = 0) → dot5i r (qv f t F) = 0 := by
  unfold dot5i
  apply all16
  · intro ht
    obtain ⟨h0, h1, h2, h3, h4⟩ := qv_0 f t
    have e0 := h 1 (by omega)
    rw [ex_1] at e0
    have e1 := h 2 (by omega)
    rw [ex_2] at e1
    have e2 := h 4 (by omega)
    rw [ex_4] at e2
    have e3 := h 8 (by omega)
    rw [ex_8] at e3
    have e4 := h 16 (by omega)
    rw [ex_16] at e4
    have e : r 0 * qv f t 0 0 + r 1 * qv f t 0 1 + r 2 * qv f t 0 2 + r 3 * qv f t 0 3 + r 4 * qv f t 0 4 = 1 * t 0 * (r 0 * f 0) + 1 * t 1 * (r 1 * f 0) + 1 * t 2 * (r 2 * f 0) + 1 * t 3 * (r 3 * f 0) + 1 * 1 * (r 4 * f 0) := by
      rw [h0, h1, h2, h3, h4]; grind
    rw [e, e0, e1, e2, e3, e4]; omega
  · intro ht
    obtain ⟨h0, h1, h2, h3, h4⟩ := qv_1 f t
    have t0 : t 0 = 0 := ht 0 (by omega) (by decide)
    have e1 := h 3 (by omega)
    rw [ex_3] at e1
    have e2 := h 5 (by omega)
    rw [ex_5] at e2
    have e3 := h 9 (by omega)
    rw [ex_9] at e3
    have e4 := h 17 (by omega)
    rw [ex_17] at e4
    have e : r 0 * qv f t 1 0 + r 1 * qv f t 1 1 + r 2 * qv f t 1 2 + r 3 * qv f t 1 3 + r 4 * qv f t 1 4 = 1 * t 1 * (r 1 * f 1 - r 0 * f 2) + 1 * t 2 * (r 2 * f 1 - r 0 * f 4) + 1 * t 3 * (r 3 * f 1 - r 0 * f 8) + 1 * 1 * (r 4 * f 1 - r 0 * f 16) := by
      rw [h0, h1, h2, h3, h4, t0]; grind
    rw [e, e1, e2, e3, e4]; omega
  · intro ht
    obtain ⟨h0, h1, h2, h3, h4⟩ := qv_2 f t
    have t1 : t 1 = 0 := ht 1 (by omega) (by decide)
    have e0 := h 3 (by omega)
    rw [ex_3] at e0
    have e2 := h 6 (by omega)
    rw [ex_6] at e2
    have e3 := h 10 (by omega)
    rw [ex_10] at e3
    have e4 := h 18 (by omega)
    rw [ex_18] at e4
    have e : r 0 * qv f t 2 0 + r 1 * qv f t 2 1 + r 2 * qv f t 2 2 + r 3 * qv f t 2 3 + r 4 * qv f t 2 4 = -1 * t 0 * (r 1 * f 1 - r 0 * f 2) + 1 * t 2 * (r 2 * f 2 - r 1 * f 4) + 1 * t 3 * (r 3 * f 2 - r 1 * f 8) + 1 * 1 * (r 4 * f 2 - r 1 * f 16) := by
      rw [h0, h1, h2, h3, h4, t1]; grind
    rw [e, e0, e2, e3, e4]; omega
  · intro ht
    obtain ⟨h0, h1, h2, h3, h4⟩ := qv_3 f t
    have t0 : t 0 = 0 := ht 0 (by omega) (by decide)
    have t1 : t 1 = 0 := ht 1 (by omega) (by decide)
    have e2 := h 7 (by omega)
    rw [ex_7] at e2
    have e3 := h 11 (by omega)
    rw [ex_11] at e3
    have e4 := h 19 (by omega)
    rw [ex_19] at e4
    have e : r 0 * qv f t 3 0 + r 1 * qv f t 3 1 + r 2 * qv f t 3 2 + r 3 * qv f t 3 3 + r 4 * qv f t 3 4 = 1 * t 2 * (r 2 * f 3 - r 1 * f 5 + r 0 * f 6) + 1 * t 3 * (r 3 * f 3 - r 1 * f 9 + r 0 * f 10) + 1 * 1 * (r 4 * f 3 - r 1 * f 17 + r 0 * f 18) := by
      rw [h0, h1, h2, h3, h4, t0, t1]; grind
    rw [e, e2, e3, e4]; omega
  · intro ht
    obtain ⟨h0, h1, h2, h3, h4⟩ := qv_4 f t
    have t2 : t 2 = 0 := ht 2 (by omega) (by decide)
    have e0 := h 5 (by omega)
    rw [ex_5] at e0
    have e1 := h 6 (by omega)
    rw [ex_6] at e1
    have e3 := h 12 (by omega)
    rw [ex_12] at e3
    have e4 := h 20 (by omega)
    rw [ex_20] at e4
    have e : r 0 * qv f t 4 0 + r 1 * qv f t 4 1 + r 2 * qv f t 4 2 + r 3 * qv f t 4 3 + r 4 * qv f t 4 4 = -1 * t 0 * (r 2 * f 1 - r 0 * f 4) + -1 * t 1 * (r 2 * f 2 - r 1 * f 4) + 1 * t 3 * (r 3 * f 4 - r 2 * f 8) + 1 * 1 * (r 4 * f 4 - r 2 * f 16) := by
      rw [h0, h1, h2, h3, h4, t2]; grind
    rw [e, e0, e1, e3, e4]; omega
  · intro ht
    obtain ⟨h0, h1, h2, h3, h4⟩ := qv_5 f t
    have t0 : t 0 = 0 := ht 0 (by omega) (by decide)
    have t2 : t 2 = 0 := ht 2 (by omega) (by decide)
    have e1 := h 7 (by omega)
    rw [ex_7] at e1
    have e3 := h 13 (by omega)
    rw [ex_13] at e3
    have e4 := h 21 (by omega)
    rw [ex_21] at e4
    have e : r 0 * qv f t 5 0 + r 1 * qv f t 5 1 + r 2 * qv f t 5 2 + r 3 * qv f t 5 3 + r 4 * qv f t 5 4 = -1 * t 1 * (r 2 * f 3 - r 1 * f 5 + r 0 * f 6) + 1 * t 3 * (r 3 * f 5 - r 2 * f 9 + r 0 * f 12) + 1 * 1 * (r 4 * f 5 - r 2 * f 17 + r 0 * f 20) := by
      rw [h0, h1, h2, h3, h4, t0, t2]; grind
    rw [e, e1, e3, e4]; omega
  · intro ht
    obtain ⟨h0, h1, h2, h3, h4⟩ := qv_6 f t
    have t1 : t 1 = 0 := ht 1 (by omega) (by decide)
    have t2 : t 2 = 0 := ht 2 (by omega) (by decide)
    have e0 := h 7 (by omega)
    rw [ex_7] at e0
    have e3 := h 14 (by omega)
    rw [ex_14] at e3
    have e4 := h 22 (by omega)
    rw [ex_22] at e4
    have e : r 0 * qv f t 6 0 + r 1 * qv f t 6 1 + r 2 * qv f t 6 2 + r 3 * qv f t 6 3 + r 4 * qv f t 6 4 = 1 * t 0 * (r 2 * f 3 - r 1 * f 5 + r 0 * f 6) + 1 * t 3 * (r 3 * f 6 - r 2 * f 10 + r 1 * f 12) + 1 * 1 * (r 4 * f 6 - r 2 * f 18 + r 1 * f 20) := by
      rw [h0, h1, h2, h3, h4, t1, t2]; grind
    rw [e, e0, e3, e4]; omega
  · intro ht
    obtain ⟨h0, h1, h2, h3, h4⟩ := qv_7 f t
    have t0 : t 0 = 0 := ht 0 (by omega) (by decide)
    have t1 : t 1 = 0 := ht 1 (by omega) (by decide)
    have t2 : t 2 = 0 := ht 2 (by omega) (by decide)
    have e3 := h 15 (by omega)
    rw [ex_15] at e3
    have e4 := h 23 (by omega)
    rw [ex_23] at e4
    have e : r 0 * qv f t 7 0 + r 1 * qv f t 7 1 + r 2 * qv f t 7 2 + r 3 * qv f t 7 3 + r 4 * qv f t 7 4 = 1 * t 3 * (r 3 * f 7 - r 2 * f 11 + r 1 * f 13 - r 0 * f 14) + 1 * 1 * (r 4 * f 7 - r 2 * f 19 + r 1 * f 21 - r 0 * f 22) := by
      rw [h0, h1, h2, h3, h4, t0, t1, t2]; grind
    rw [e, e3, e4]; omega
  · intro ht
    obtain ⟨h0, h1, h2, h3, h4⟩ := qv_8 f t
    have t3 : t 3 = 0 := ht 3 (by omega) (by decide)
    have e0 := h 9 (by omega)
    rw [ex_9] at e0
    have e1 := h 10 (by omega)
    rw [ex_10] at e1
    have e2 := h 12 (by omega)
    rw [ex_12] at e2
    have e4 := h 24 (by omega)
    rw [ex_24] at e4
    have e : r 0 * qv f t 8 0 + r 1 * qv f t 8 1 + r 2 * qv f t 8 2 + r 3 * qv f t 8 3 + r 4 * qv f t 8 4 = -1 * t 0 * (r 3 * f 1 - r 0 * f 8) + -1 * t 1 * (r 3 * f 2 - r 1 * f 8) + -1 * t 2 * (r 3 * f 4 - r 2 * f 8) + 1 * 1 * (r 4 * f 8 - r 3 * f 16) := by
      rw [h0, h1, h2, h3, h4, t3]; grind
    rw [e, e0, e1, e2, e4]; omega
  · intro ht
    obtain ⟨h0, h1, h2, h3, h4⟩ := qv_9 f t
    have t0 : t 0 = 0 := ht 0 (by omega) (by decide)
    have t3 : t 3 = 0 := ht 3 (by omega) (by decide)
    have e1 := h 11 (by omega)
    rw [ex_11] at e1
    have e2 := h 13 (by omega)
    rw [ex_13] at e2
    have e4 := h 25 (by omega)
    rw [ex_25] at e4
    have e : r 0 * qv f t 9 0 + r 1 * qv f t 9 1 + r 2 * qv f t 9 2 + r 3 * qv f t 9 3 + r 4 * qv f t 9 4 = -1 * t 1 * (r 3 * f 3 - r 1 * f 9 + r 0 * f 10) + -1 * t 2 * (r 3 * f 5 - r 2 * f 9 + r 0 * f 12) + 1 * 1 * (r 4 * f 9 - r 3 * f 17 + r 0 * f 24) := by
      rw [h0, h1, h2, h3, h4, t0, t3]; grind
    rw [e, e1, e2, e4]; omega
  · intro ht
    obtain ⟨h0, h1, h2, h3, h4⟩ := qv_10 f t
    have t1 : t 1 = 0 := ht 1 (by omega) (by decide)
    have t3 : t 3 = 0 := ht 3 (by omega) (by decide)
    have e0 := h 11 (by omega)
    rw [ex_11] at e0
    have e2 := h 14 (by omega)
    rw [ex_14] at e2
    have e4 := h 26 (by omega)
    rw [ex_26] at e4
    have e : r 0 * qv f t 10 0 + r 1 * qv f t 10 1 + r 2 * qv f t 10 2 + r 3 * qv f t 10 3 + r 4 * qv f t 10 4 = 1 * t 0 * (r 3 * f 3 - r 1 * f 9 + r 0 * f 10) + -1 * t 2 * (r 3 * f 6 - r 2 * f 10 + r 1 * f 12) + 1 * 1 * (r 4 * f 10 - r 3 * f 18 + r 1 * f 24) := by
      rw [h0, h1, h2, h3, h4, t1, t3]; grind
    rw [e, e0, e2, e4]; omega
  · intro ht
    obtain ⟨h0, h1, h2, h3, h4⟩ := qv_11 f t
    have t0 : t 0 = 0 := ht 0 (by omega) (by decide)
    have t1 : t 1 = 0 := ht 1 (by omega) (by decide)
    have t3 : t 3 = 0 := ht 3 (by omega) (by decide)
    have e2 := h 15 (by omega)
    rw [ex_15] at e2
    have e4 := h 27 (by omega)
    rw [ex_27] at e4
    have e : r 0 * qv f t 11 0 + r 1 * qv f t 11 1 + r 2 * qv f t 11 2 + r 3 * qv f t 11 3 + r 4 * qv f t 11 4 = -1 * t 2 * (r 3 * f 7 - r 2 * f 11 + r 1 * f 13 - r 0 * f 14) + 1 * 1 * (r 4 * f 11 - r 3 * f 19 + r 1 * f 25 - r 0 * f 26) := by
      rw [h0, h1, h2, h3, h4, t0, t1, t3]; grind
    rw [e, e2, e4]; omega
  · intro ht
    obtain ⟨h0, h1, h2, h3, h4⟩ := qv_12 f t
    have t2 : t 2 = 0 := ht 2 (by omega) (by decide)
    have t3 : t 3 = 0 := ht 3 (by omega) (by decide)
    have e0 := h 13 (by omega)
    rw [ex_13] at e0
    have e1 := h 14 (by omega)
    rw [ex_14] at e1
    have e4 := h 28 (by omega)
    rw [ex_28] at e4
    have e : r 0 * qv f t 12 0 + r 1 * qv f t 12 1 + r 2 * qv f t 12 2 + r 3 * qv f t 12 3 + r 4 * qv f t 12 4 = 1 * t 0 * (r 3 * f 5 - r 2 * f 9 + r 0 * f 12) + 1 * t 1 * (r 3 * f 6 - r 2 * f 10 + r 1 * f 12) + 1 * 1 * (r 4 * f 12 - r 3 * f 20 + r 2 * f 24) := by
      rw [h0, h1, h2, h3, h4, t2, t3]; grind
    rw [e, e0, e1, e4]; omega
  · intro ht
    obtain ⟨h0, h1, h2, h3, h4⟩ := qv_13 f t
    have t0 : t 0 = 0 := ht 0 (by omega) (by decide)
    have t2 : t 2 = 0 := ht 2 (by omega) (by decide)
    have t3 : t 3 = 0 := ht 3 (by omega) (by decide)
    have e1 := h 15 (by omega)
    rw [ex_15] at e1
    have e4 := h 29 (by omega)
    rw [ex_29] at e4
    have e : r 0 * qv f t 13 0 + r 1 * qv f t 13 1 + r 2 * qv f t 13 2 + r 3 * qv f t 13 3 + r 4 * qv f t 13 4 = 1 * t 1 * (r 3 * f 7 - r 2 * f 11 + r 1 * f 13 - r 0 * f 14) + 1 * 1 * (r 4 * f 13 - r 3 * f 21 + r 2 * f 25 - r 0 * f 28) := by
      rw [h0, h1, h2, h3, h4, t0, t2, t3]; grind
    rw [e, e1, e4]; omega
  · intro ht
    obtain ⟨h0, h1, h2, h3, h4⟩ := qv_14 f t
    have t1 : t 1 = 0 := ht 1 (by omega) (by decide)
    have t2 : t 2 = 0 := ht 2 (by omega) (by decide)
    have t3 : t 3 = 0 := ht 3 (by omega) (by decide)
    have e0 := h 15 (by omega)
    rw [ex_15] at e0
    have e4 := h 30 (by omega)
    rw [ex_30] at e4
    have e : r 0 * qv f t 14 0 + r 1 * qv f t 14 1 + r 2 * qv f t 14 2 + r 3 * qv f t 14 3 + r 4 * qv f t 14 4 = -1 * t 0 * (r 3 * f 7 - r 2 * f 11 + r 1 * f 13 - r 0 * f 14) + 1 * 1 * (r 4 * f 14 - r 3 * f 22 + r 2 * f 26 - r 1 * f 28) := by
      rw [h0, h1, h2, h3, h4, t1, t2, t3]; grind
    rw [e, e0, e4]; omega
  · intro ht
    obtain ⟨h0, h1, h2, h3, h4⟩ := qv_15 f t
    have t0 : t 0 = 0 := ht 0 (by omega) (by decide)
    have t1 : t 1 = 0 := ht 1 (by omega) (by decide)
    have t2 : t 2 = 0 := ht 2 (by omega) (by decide)
    have t3 : t 3 = 0 := ht 3 (by omega) (by decide)
    have e4 := h 31 (by omega)
    rw [ex_31] at e4
    have e : r 0 * qv f t 15 0 + r 1 * qv f t 15 1 + r 2 * qv f t 15 2 + r 3 * qv f t 15 3 + r 4 * qv f t 15 4 = 1 * 1 * (r 4 * f 15 - r 3 * f 23 + r 2 * f 27 - r 1 * f 29 + r 0 * f 30) := by
      rw [h0, h1, h2, h3, h4, t0, t1, t2, t3]; grind
    rw [e, e4]; omega
def bnd (P x : Int) : Prop := -P ≤ x ∧ x ≤ P
theorem bd_mul {a b A B : Int} (h1 : bnd A a) (h2 : bnd B b) : bnd (A * B) (a * b) := mul_bd h1.1 h1.2 h2.1 h2.2
theorem ex_bdL {r f : Nat → Int} {m P : Int} (hr : ∀ c, c < 4 → bnd m (r c)) (hf : ∀ G, G < 16 → bnd P (f G)) : ∀ G, G < 16 → bnd ((pop8 G : Nat) * (m * P)) (ex r f G) := by
  apply all16
  · have e : ((pop8 0 : Nat) : Int) = 0 := rfl
    rw [ex_0, e]
    unfold bnd at *; omega
  · have e : ((pop8 1 : Nat) : Int) = 1 := rfl
    rw [ex_1, e]
    have h0 := bd_mul (hr 0 (by omega)) (hf 0 (by omega))
    unfold bnd at *; omega
  · have e : ((pop8 2 : Nat) : Int) = 1 := rfl
    rw [ex_2, e]
    have h1 := bd_mul (hr 1 (by omega)) (hf 0 (by omega))
    unfold bnd at *; omega
  · have e : ((pop8 3 : Nat) : Int) = 2 := rfl
    rw [ex_3, e]
    have h1 := bd_mul (hr 1 (by omega)) (hf 1 (by omega))
    have h0 := bd_mul (hr 0 (by omega)) (hf 2 (by omega))
    unfold bnd at *; omega
  · have e : ((pop8 4 : Nat) : Int) = 1 := rfl
    rw [ex_4, e]
    have h2 := bd_mul (hr 2 (by omega)) (hf 0 (by omega))
    unfold bnd at *; omega
  · have e : ((pop8 5 : Nat) : Int) = 2 := rfl
    rw [ex_5, e]
    have h2 := bd_mul (hr 2 (by omega)) (hf 1 (by omega))
    have h0 := bd_mul (hr 0 (by omega)) (hf 4 (by omega))
    unfold bnd at *; omega
  · have e : ((pop8 6 : Nat) : Int) = 2 := rfl
    rw [ex_6, e]
    have h2 := bd_mul (hr 2 (by omega)) (hf 2 (by omega))
    have h1 := bd_mul (hr 1 (by omega)) (hf 4 (by omega))
    unfold bnd at *; omega
  · have e : ((pop8 7 : Nat) : Int) = 3 := rfl
    rw [ex_7, e]
    have h2 := bd_mul (hr 2 (by omega)) (hf 3 (by omega))
    have h1 := bd_mul (hr 1 (by omega)) (hf 5 (by omega))
    have h0 := bd_mul (hr 0 (by omega)) (hf 6 (by omega))
    unfold bnd at *; omega
  · have e : ((pop8 8 : Nat) : Int) = 1 := rfl
    rw [ex_8, e]
    have h3 := bd_mul (hr 3 (by omega)) (hf 0 (by omega))
    unfold bnd at *; omega
  · have e : ((pop8 9 : Nat) : Int) = 2 := rfl
    rw [ex_9, e]
    have h3 := bd_mul (hr 3 (by omega)) (hf 1 (by omega))
    have h0 := bd_mul (hr 0 (by omega)) (hf 8 (by omega))
    unfold bnd at *; omega
  · have e : ((pop8 10 : Nat) : Int) = 2 := rfl
    rw [ex_10, e]
    have h3 := bd_mul (hr 3 (by omega)) (hf 2 (by omega))
    have h1 := bd_mul (hr 1 (by omega)) (hf 8 (by omega))
    unfold bnd at *; omega
  · have e : ((pop8 11 : Nat) : Int) = 3 := rfl
    rw [ex_11, e]
    have h3 := bd_mul (hr 3 (by omega)) (hf 3 (by omega))
    have h1 := bd_mul (hr 1 (by omega)) (hf 9 (by omega))
    have h0 := bd_mul (hr 0 (by omega)) (hf 10 (by omega))
    unfold bnd at *; omega
  · have e : ((pop8 12 : Nat) : Int) = 2 := rfl
    rw [ex_12, e]
    have h3 := bd_mul (hr 3 (by omega)) (hf 4 (by omega))
    have h2 := bd_mul (hr 2 (by omega)) (hf 8 (by omega))
    unfold bnd at *; omega
  · have e : ((pop8 13 : Nat) : Int) = 3 := rfl
    rw [ex_13, e]
    have h3 := bd_mul (hr 3 (by omega)) (hf 5 (by omega))
    have h2 := bd_mul (hr 2 (by omega)) (hf 9 (by omega))
    have h0 := bd_mul (hr 0 (by omega)) (hf 12 (by omega))
    unfold bnd at *; omega
  · have e : ((pop8 14 : Nat) : Int) = 3 := rfl
    rw [ex_14, e]
    have h3 := bd_mul (hr 3 (by omega)) (hf 6 (by omega))
    have h2 := bd_mul (hr 2 (by omega)) (hf 10 (by omega))
    have h1 := bd_mul (hr 1 (by omega)) (hf 12 (by omega))
    unfold bnd at *; omega
  · have e : ((pop8 15 : Nat) : Int) = 4 := rfl
    rw [ex_15, e]
    have h3 := bd_mul (hr 3 (by omega)) (hf 7 (by omega))
    have h2 := bd_mul (hr 2 (by omega)) (hf 11 (by omega))
    have h1 := bd_mul (hr 1 (by omega)) (hf 13 (by omega))
    have h0 := bd_mul (hr 0 (by omega)) (hf 14 (by omega))
    unfold bnd at *; omega
theorem ex_bdO {r f : Nat → Int} {m P o Q : Int} (hr : ∀ c, c < 4 → bnd m (r c)) (h4 : bnd o (r 4)) (hf : ∀ G, G < 16 → bnd P (f G)) (hg : ∀ G, 16 ≤ G → G < 32 → bnd Q (f G)) : ∀ G, G < 32 → 16 ≤ G → bnd (o * P + (pop8 G - 1 : Int) * (m * Q)) (ex r f G) := by
  apply all32
  · intro h; omega
  · intro h; omega
  · intro h; omega
  · intro h; omega
  · intro h; omega
  · intro h; omega
  · intro h; omega
  · intro h; omega
  · intro h; omega
  · intro h; omega
  · intro h; omega
  · intro h; omega
  · intro h; omega
  · intro h; omega
  · intro h; omega
  · intro h; omega
  · intro _
    have e : ((pop8 16 : Nat) : Int) = 1 := rfl
    rw [ex_16, e]
    have h4 := bd_mul h4 (hf 0 (by omega))
    unfold bnd at *; omega
  · intro _
    have e : ((pop8 17 : Nat) : Int) = 2 := rfl
    rw [ex_17, e]
    have h4 := bd_mul h4 (hf 1 (by omega))
    have h0 := bd_mul (hr 0 (by omega)) (hg 16 (by omega) (by omega))
    unfold bnd at *; omega
  · intro _
    have e : ((pop8 18 : Nat) : Int) = 2 := rfl
    rw [ex_18, e]
    have h4 := bd_mul h4 (hf 2 (by omega))
    have h1 := bd_mul (hr 1 (by omega)) (hg 16 (by omega) (by omega))
    unfold bnd at *; omega
  · intro _
    have e : ((pop8 19 : Nat) : Int) = 3 := rfl
    rw [ex_19, e]
    have h4 := bd_mul h4 (hf 3 (by omega))
    have h1 := bd_mul (hr 1 (by omega)) (hg 17 (by omega) (by omega))
    have h0 := bd_mul (hr 0 (by omega)) (hg 18 (by omega) (by omega))
    unfold bnd at *; omega
  · intro _
    have e : ((pop8 20 : Nat) : Int) = 2 := rfl
    rw [ex_20, e]
    have h4 := bd_mul h4 (hf 4 (by omega))
    have h2 := bd_mul (hr 2 (by omega)) (hg 16 (by omega) (by omega))
    unfold bnd at *; omega
  · intro _
    have e : ((pop8 21 : Nat) : Int) = 3 := rfl
    rw [ex_21, e]
    have h4 := bd_mul h4 (hf 5 (by omega))
    have h2 := bd_mul (hr 2 (by omega)) (hg 17 (by omega) (by omega))
    have h0 := bd_mul (hr 0 (by omega)) (hg 20 (by omega) (by omega))
    unfold bnd at *; omega
  · intro _
    have e : ((pop8 22 : Nat) : Int) = 3 := rfl
    rw [ex_22, e]
    have h4 := bd_mul h4 (hf 6 (by omega))
    have h2 := bd_mul (hr 2 (by omega)) (hg 18 (by omega) (by omega))
    have h1 := bd_mul (hr 1 (by omega)) (hg 20 (by omega) (by omega))
    unfold bnd at *; omega
  · intro _
    have e : ((pop8 23 : Nat) : Int) = 4 := rfl
    rw [ex_23, e]
    have h4 := bd_mul h4 (hf 7 (by omega))
    have h2 := bd_mul (hr 2 (by omega)) (hg 19 (by omega) (by omega))
    have h1 := bd_mul (hr 1 (by omega)) (hg 21 (by omega) (by omega))
    have h0 := bd_mul (hr 0 (by omega)) (hg 22 (by omega) (by omega))
    unfold bnd at *; omega
  · intro _
    have e : ((pop8 24 : Nat) : Int) = 2 := rfl
    rw [ex_24, e]
    have h4 := bd_mul h4 (hf 8 (by omega))
    have h3 := bd_mul (hr 3 (by omega)) (hg 16 (by omega) (by omega))
    unfold bnd at *; omega
  · intro _
    have e : ((pop8 25 : Nat) : Int) = 3 := rfl
    rw [ex_25, e]
    have h4 := bd_mul h4 (hf 9 (by omega))
    have h3 := bd_mul (hr 3 (by omega)) (hg 17 (by omega) (by omega))
    have h0 := bd_mul (hr 0 (by omega)) (hg 24 (by omega) (by omega))
    unfold bnd at *; omega
  · intro _
    have e : ((pop8 26 : Nat) : Int) = 3 := rfl
    rw [ex_26, e]
    have h4 := bd_mul h4 (hf 10 (by omega))
    have h3 := bd_mul (hr 3 (by omega)) (hg 18 (by omega) (by omega))
    have h1 := bd_mul (hr 1 (by omega)) (hg 24 (by omega) (by omega))
    unfold bnd at *; omega
  · intro _
    have e : ((pop8 27 : Nat) : Int) = 4 := rfl
    rw [ex_27, e]
    have h4 := bd_mul h4 (hf 11 (by omega))
    have h3 := bd_mul (hr 3 (by omega)) (hg 19 (by omega) (by omega))
    have h1 := bd_mul (hr 1 (by omega)) (hg 25 (by omega) (by omega))
    have h0 := bd_mul (hr 0 (by omega)) (hg 26 (by omega) (by omega))
    unfold bnd at *; omega
  · intro _
    have e : ((pop8 28 : Nat) : Int) = 3 := rfl
    rw [ex_28, e]
    have h4 := bd_mul h4 (hf 12 (by omega))
    have h3 := bd_mul (hr 3 (by omega)) (hg 20 (by omega) (by omega))
    have h2 := bd_mul (hr 2 (by omega)) (hg 24 (by omega) (by omega))
    unfold bnd at *; omega
  · intro _
    have e : ((pop8 29 : Nat) : Int) = 4 := rfl
    rw [ex_29, e]
    have h4 := bd_mul h4 (hf 13 (by omega))
    have h3 := bd_mul (hr 3 (by omega)) (hg 21 (by omega) (by omega))
    have h2 := bd_mul (hr 2 (by omega)) (hg 25 (by omega) (by omega))
    have h0 := bd_mul (hr 0 (by omega)) (hg 28 (by omega) (by omega))
    unfold bnd at *; omega
  · intro _
    have e : ((pop8 30 : Nat) : Int) = 4 := rfl
    rw [ex_30, e]
    have h4 := bd_mul h4 (hf 14 (by omega))
    have h3 := bd_mul (hr 3 (by omega)) (hg 22 (by omega) (by omega))
    have h2 := bd_mul (hr 2 (by omega)) (hg 26 (by omega) (by omega))
    have h1 := bd_mul (hr 1 (by omega)) (hg 28 (by omega) (by omega))
    unfold bnd at *; omega
  · intro _
    have e : ((pop8 31 : Nat) : Int) = 5 := rfl
    rw [ex_31, e]
    have h4 := bd_mul h4 (hf 15 (by omega))
    have h3 := bd_mul (hr 3 (by omega)) (hg 23 (by omega) (by omega))
    have h2 := bd_mul (hr 2 (by omega)) (hg 27 (by omega) (by omega))
    have h1 := bd_mul (hr 1 (by omega)) (hg 29 (by omega) (by omega))
    have h0 := bd_mul (hr 0 (by omega)) (hg 30 (by omega) (by omega))
    unfold bnd at *; omega
theorem mn_bd {r : Nat → Int} {R : List (Nat → Int)} {m P o Q : Int} (hP : 0 ≤ P) (hQ : 0 ≤ Q) (hm : 0 ≤ m) (ho : 0 ≤ o) (hr : ∀ c, c < 4 → bnd m (r c)) (h4 : bnd o (r 4)) (hf : ∀ G, G < 16 → bnd P (mn R G)) (hg : ∀ G, 16 ≤ G → G < 32 → bnd Q (mn R G)) :
    (∀ G, G < 16 → bnd ((R.length + 1 : Int) * (m * P)) (mn (r :: R) G)) ∧ (∀ G, 16 ≤ G → G < 32 → bnd (o * P + (R.length : Int) * (m * Q)) (mn (r :: R) G)) := by
  have p1 : 0 ≤ m * P := Int.mul_nonneg hm hP
  have p2 : 0 ≤ m * Q := Int.mul_nonneg hm hQ
  have p3 : 0 ≤ o * P := Int.mul_nonneg ho hP
  have p4 : 0 ≤ (R.length + 1 : Int) * (m * P) := Int.mul_nonneg (by omega) p1
  have p5 : 0 ≤ (R.length : Int) * (m * Q) := Int.mul_nonneg (by omega) p2
  constructor
  · intro G hG
    by_cases hz : mn (r :: R) G = 0
    · rw [hz]; unfold bnd; omega
    · have h := ex_bdL hr hf G hG
      rw [mn_len (r :: R) (by omega) hz, List.length_cons] at h
      have e : ((R.length + 1 : Nat) : Int) = (R.length + 1 : Int) := by omega
      rw [e] at h
      exact h
  · intro G hG1 hG
    by_cases hz : mn (r :: R) G = 0
    · rw [hz]; unfold bnd; omega
    · have h := ex_bdO hr h4 hf hg G hG hG1
      rw [mn_len (r :: R) (by omega) hz, List.length_cons] at h
      have e : ((R.length + 1 : Nat) : Int) - 1 = (R.length : Int) := by omega
      rw [e] at h
      exact h
