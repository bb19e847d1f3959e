/-! PURE: a corner in lowest terms has a small last part. -/
theorem its_bd {μ : Mem} {m : Nat} {rl : Nat → Nat} (hA : InvA μ) (hR : InvR μ) (hl : RlOK μ rl m) (mono : ∀ i j, i < j → j < m → rl i < rl j) : ∀ (its : List (Nat × Nat)) (R : List (Nat → Int)) (a fr : Nat), (∀ x, x ∈ its → okI μ rl m x ∧ fr ≤ x.1) → its.Pairwise (fun a b => a.1 < b.1) → BdR R a → a ≤ 2 → NxOK m rl fr a → ∃ a', a' ≤ 2 ∧ BdR (ro μ rl its R) a' := by
  intro its
  induction its with
  | nil => exact fun R a fr _ _ hb h2 _ => ⟨a, h2, hb⟩
  | cons x its ih =>
    intro R a fr hok hpw hb h2 hn
    obtain ⟨⟨him, hc⟩, hfr⟩ := hok x (List.mem_cons_self ..)
    obtain ⟨r8, rT⟩ := hl x.1 him
    have hro := told_lt hR r8 rT
    rw [List.pairwise_cons] at hpw
    have hok' : ∀ y, y ∈ its → okI μ rl m y ∧ x.1 + 1 ≤ y.1 := fun y hy => ⟨(hok y (List.mem_cons_of_mem _ hy)).1, hpw.1 y hy⟩
    obtain ⟨B, hB1, hB2⟩ := hn
    have hBr := hB2 x.1 hfr him
    have nx : ∀ a', a' ≤ rl x.1 + 1 - 5 → NxOK m rl (x.1 + 1) a' := fun a' h => ⟨rl x.1 + 1, h, fun i h1 h2 => by have := mono x.1 i (by omega) h2; omega⟩
    have ero : ro μ rl (x :: its) R = ro μ rl its (itR μ rl x ++ R) := rfl
    rw [ero]
    have one : ∀ row : Nat → Int, row = rwL μ (rl x.1) ∨ row = rwH μ (rl x.1) → ∃ a', a' ≤ 2 ∧ BdR (row :: R) a' ∧ NxOK m rl (x.1 + 1) a' := by
      intro row hrow
      by_cases hr : rat (rl x.1)
      · obtain ⟨b1, b2, b3⟩ := row_rat hA hro hr
        unfold rat at hr
        refine ⟨a + 1, by omega, BdR_A hb (fun c hc => ?_) ?_, nx _ (by omega)⟩
        · rcases hrow with e | e
          · rw [e]; exact (b1 c hc).1
          · rw [e]; exact (b1 c hc).2
        · rcases hrow with e | e
          · rw [e]; exact b2
          · rw [e]; exact b3
      · obtain ⟨b1, b2, b3⟩ := row_not hA r8 hro hr
        refine ⟨a, h2, BdR_S hb (fun c hc => ?_) ?_, nx _ (by omega)⟩
        · rcases hrow with e | e
          · rw [e]; exact (b1 c hc).1
          · rw [e]; exact (b1 c hc).2
        · rcases hrow with e | e
          · rw [e]; exact b2
          · rw [e]; exact b3
    rcases hc with h0 | ⟨hne, h1 | ⟨h2', h19⟩⟩
    · obtain ⟨a', c1, c2, c3⟩ := one _ (Or.inl rfl)
      have e : itR μ rl x ++ R = rwL μ (rl x.1) :: R := by unfold itR; rw [if_pos h0]; rfl
      rw [e]
      exact ih _ a' (x.1 + 1) hok' hpw.2 c2 c1 c3
    · obtain ⟨a', c1, c2, c3⟩ := one _ (Or.inr rfl)
      have e : itR μ rl x ++ R = rwH μ (rl x.1) :: R := by unfold itR; rw [if_neg (by omega), if_pos h1]; rfl
      rw [e]
      exact ih _ a' (x.1 + 1) hok' hpw.2 c2 c1 c3
    · have hr : rat (rl x.1) := by
        obtain ⟨-, -, -, q4, -, q6⟩ := hro
        unfold rat
        refine Decidable.byContradiction (fun hno => h19 ?_)
        by_cases h5 : rl x.1 < 5
        · exact (q4 h5).2.1
        · exact (q6 (by omega)).2.1
      obtain ⟨hf, hg, -⟩ := rat_fg hro hr
      obtain ⟨bf, zf⟩ := fo_bd hA hf
      obtain ⟨bg, zg⟩ := fo_bd hA hg
      have e : itR μ rl x ++ R = fo μ (gI μ (rl x.1)) :: fo μ (fI μ (rl x.1)) :: R := by unfold itR; rw [if_neg (by omega), if_neg (by omega)]; rfl
      rw [e]
      refine ih _ a (x.1 + 1) hok' hpw.2 (BdR_S (BdR_S hb bf (by rw [zf]; unfold bnd; decide)) bg (by rw [zg]; unfold bnd; decide)) h2 (nx _ (by omega))
theorem low_bound {μ : Mem} (hA : InvA μ) (hR : InvR μ) {p : Nat → Int} (hp : Corner μ p) (hl : LowT p) : p 4 ≤ 100000000000000 := by
  obtain ⟨μ', m, rl, -, -, s1, s2, s3, s4, s5, -⟩ := s_build (N := 9) (by omega) hR
  have hrl : RlOK μ rl m := fun i hi => (s3 i hi).2
  obtain ⟨its, i1, i2, F, full, f1, f2, f3, f4, f5, f6⟩ := corner_complete hA hR hrl s4 hp
  have hb0 : BdR [] 0 := by
    have hb : ∀ G, bnd 1 (mn [] G) := fun G => by
      unfold bnd mn
      by_cases h : G = 0
      · rw [if_pos h]; decide
      · rw [if_neg h]; decide
    have e : bP ([] : List (Nat → Int)).length 0 = 1 := by decide
    refine ⟨fun G _ => hb G, fun G _ _ => ?_⟩
    have := hb G
    rw [e]
    unfold bnd at *
    omega
  obtain ⟨a', a1, a2⟩ := its_bd hA hR hrl s5 its [] 0 0 (fun x hx => ⟨i1 x hx, Nat.zero_le _⟩) i2 hb0 (by omega) ⟨0, by omega, fun i _ _ => Nat.zero_le _⟩
  have hlen := mn_len _ (by omega) f3
  have p8 : ∀ F, F < 16 → pop8 F ≤ 4 := by decide +kernel
  have hb := a2.1 F f1
  have hle := bP_le (ro μ rl its []).length (by rw [← hlen]; exact p8 F f1) a' a1
  obtain ⟨p4, q4, hv⟩ := f6
  have hq : pt (mn (ro μ rl its [])) (tF μ full) F 4 ≤ 100000000000000 := by
    rw [pt_4]
    rcases sgz_pm (mn (ro μ rl its []) F) with e | e
    · rw [e]; unfold bnd at hb; omega
    · rw [e]; unfold bnd at hb; omega
  have hd : p 4 ∣ pt (mn (ro μ rl its [])) (tF μ full) F 4 := hl _ (fun j hj => ⟨_, (hv j hj).symm⟩)
  exact Int.le_trans (Int.le_of_dvd q4 hd) hq
