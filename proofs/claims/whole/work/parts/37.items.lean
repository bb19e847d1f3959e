/-! PURE: the rows that the class's search makes tight; a corner is met by them, and what they meet is a corner. -/
theorem exf_linf (r f g : Nat → Int) (a b : Int) (G : Nat) : ∀ n x y s, exf r (fun H => a * f H + b * g H) G n (a * x + b * y) s = a * exf r f G n x s + b * exf r g G n y s
  | 0, _, _, _ => rfl
  | n + 1, x, y, s => by
    unfold exf
    by_cases h : G.testBit n
    · rw [if_pos h, if_pos h, if_pos h, ← exf_linf r f g a b G n]
      refine congrArg (fun z => exf r (fun H => a * f H + b * g H) G n z (-s)) ?_
      grind
    · rw [if_neg h, if_neg h, if_neg h, exf_linf r f g a b G n]
theorem ex_linf (r f g : Nat → Int) (a b : Int) (G : Nat) : ex r (fun H => a * f H + b * g H) G = a * ex r f G + b * ex r g G := by
  have h := exf_linf r f g a b G 5 0 0 1
  rw [Int.mul_zero, Int.mul_zero, Int.add_zero] at h
  exact h
theorem mn_pre {R R' : List (Nat → Int)} {e : Int} (h : ∀ G, G < 32 → mn R G = e * mn R' G) : ∀ (pre : List (Nat → Int)) (G : Nat), G < 32 → mn (pre ++ R) G = e * mn (pre ++ R') G
  | [], G, hG => h G hG
  | r :: pre, G, hG => by
    show ex r (mn (pre ++ R)) G = e * ex r (mn (pre ++ R')) G
    rw [← ex_smul, ex_congr hG (mn_pre h pre)]
theorem mn_both (f g : Nat → Int) (lo hi ov : Int) (R : List (Nat → Int)) : ∀ G, G < 32 → mn ((fun c => hi * g c + -ov * f c) :: (fun c => ov * f c + -lo * g c) :: R) G = (ov * (hi - lo)) * mn (g :: f :: R) G := by
  intro G hG
  have e : ∀ H, H < 32 → ex (fun c => ov * f c + -lo * g c) (mn R) H = (fun H => ov * ex f (mn R) H + -lo * ex g (mn R) H) H := fun H _ => ex_lin ..
  show ex (fun c => hi * g c + -ov * f c) (ex (fun c => ov * f c + -lo * g c) (mn R)) G = _ * ex g (ex f (mn R)) G
  rw [ex_congr hG e, ex_lin, ex_linf, ex_linf]
  have s1 := ex_swap g g (mn R) G hG
  have s2 := ex_swap f f (mn R) G hG
  have s3 := ex_swap f g (mn R) G hG
  have z1 : ex g (ex g (mn R)) G = 0 := by omega
  have z2 : ex f (ex f (mn R)) G = 0 := by omega
  rw [z1, z2, s3]
  grind
theorem bit_lt4 {G c : Nat} (hG : G < 16) (h : G.testBit c = true) : c < 4 := by
  apply Classical.byContradiction
  intro n
  have p : 2 ^ 4 ≤ 2 ^ c := Nat.pow_le_pow_right (by omega) (by omega)
  rw [Nat.testBit_lt_two_pow (by omega)] at h
  cases h
theorem mn_lots0 {R : List (Nat → Int)} (h : ∀ G, G < 16 → mn R G = 0) : ∀ (pre : List (Nat → Int)) (G : Nat), G < 16 → mn (pre ++ R) G = 0
  | [], G, hG => h G hG
  | r :: pre, G, hG => by
    apply Classical.byContradiction
    intro hz
    obtain ⟨c, hc, hb, hz'⟩ := exf_ne 5 0 1 hz
    have c4 := bit_lt4 hG hb
    exact hz' (mn_lots0 h pre _ (Nat.xor_lt_two_pow (n := 4) hG (Nat.pow_lt_pow_right (by omega) (by omega))))
theorem ex_lots0 {r f : Nat → Int} (h : ∀ c, c < 4 → r c = 0) {G : Nat} (hG : G < 16) : ex r f G = 0 := by
  rw [ex_vec r f G hG]
  unfold dot4
  rw [h 0 (by omega), h 1 (by omega), h 2 (by omega), h 3 (by omega)]
  omega
def itR (μ : Mem) (rl : Nat → Nat) (x : Nat × Nat) : List (Nat → Int) := if x.2 = 0 then [rwL μ (rl x.1)] else if x.2 = 1 then [rwH μ (rl x.1)] else [fo μ (gI μ (rl x.1)), fo μ (fI μ (rl x.1))]
def okI (μ : Mem) (rl : Nat → Nat) (m : Nat) (x : Nat × Nat) : Prop := x.1 < m ∧ (x.2 = 0 ∨ (μ.1 20 (rl x.1) ≠ μ.1 21 (rl x.1) ∧ (x.2 = 1 ∨ (x.2 = 2 ∧ μ.1 19 (rl x.1) ≠ 6))))
def ro (μ : Mem) (rl : Nat → Nat) : List (Nat × Nat) → List (Nat → Int) → List (Nat → Int)
  | [], R => R
  | x :: its, R => ro μ rl its (itR μ rl x ++ R)
def rd (μ : Mem) (rl : Nat → Nat) : List (Nat × Nat) → List (Nat → Int)
  | [] => []
  | x :: ds => itR μ rl x ++ rd μ rl ds
theorem rd_app (μ : Mem) (rl : Nat → Nat) : ∀ (a b : List (Nat × Nat)), rd μ rl (a ++ b) = rd μ rl a ++ rd μ rl b
  | [], _ => rfl
  | x :: a, b => by
    show itR μ rl x ++ rd μ rl (a ++ b) = (itR μ rl x ++ rd μ rl a) ++ rd μ rl b
    rw [rd_app μ rl a b, List.append_assoc]
theorem ro_rd (μ : Mem) (rl : Nat → Nat) : ∀ (its : List (Nat × Nat)) (R : List (Nat → Int)), ro μ rl its R = rd μ rl its.reverse ++ R
  | [], _ => rfl
  | x :: its, R => by
    show ro μ rl its (itR μ rl x ++ R) = _
    rw [ro_rd μ rl its, List.reverse_cons, rd_app, List.append_assoc]
    show _ = _ ++ ((itR μ rl x ++ []) ++ R)
    rw [List.append_nil]
def rS (μ : Mem) (rl : Nat → Nat) (k : Nat) : Nat → Int := rwK μ (2 * rl (k / 2) + k % 2)
def RlOK (μ : Mem) (rl : Nat → Nat) (m : Nat) : Prop := ∀ i, i < m → rl i < 8 ∧ (Tn μ).testBit (rl i) = true
theorem rS_0 (μ : Mem) (rl : Nat → Nat) {k : Nat} (h : k % 2 = 0) : rS μ rl k = rwL μ (rl (k / 2)) := by
  unfold rS rwK
  have e1 : (2 * rl (k / 2) + k % 2) % 2 = 0 := by omega
  have e2 : (2 * rl (k / 2) + k % 2) / 2 = rl (k / 2) := by omega
  rw [if_pos e1, e2]
theorem rS_1 (μ : Mem) (rl : Nat → Nat) {k : Nat} (h : k % 2 = 1) : rS μ rl k = rwH μ (rl (k / 2)) := by
  unfold rS rwK
  have e1 : ¬ (2 * rl (k / 2) + k % 2) % 2 = 0 := by omega
  have e2 : (2 * rl (k / 2) + k % 2) / 2 = rl (k / 2) := by omega
  rw [if_neg e1, e2]
theorem both0 {μ : Mem} {r : Nat} {p : Nat → Int} (ho : 1 ≤ (μ.1 22 r).toInt) (hn : μ.1 20 r ≠ μ.1 21 r) (h1 : dot5i (rwL μ r) p = 0) (h2 : dot5i (rwH μ r) p = 0) : dot5i (fo μ (gI μ r)) p = 0 ∧ dot5i (fo μ (fI μ r)) p = 0 := by
  rw [rwL_d5] at h1
  rw [rwH_d5] at h2
  have hn' : (μ.1 20 r).toInt ≠ (μ.1 21 r).toInt := fun e => hn (Int32.toInt_inj.mp e)
  have e : ((μ.1 21 r).toInt - (μ.1 20 r).toInt) * dot5i (fo μ (gI μ r)) p = 0 := by grind
  rcases Int.mul_eq_zero.mp e with z | z
  · omega
  · refine ⟨z, ?_⟩
    rw [z, Int.mul_zero, Int.add_zero] at h1
    rcases Int.mul_eq_zero.mp h1 with y | y
    · omega
    · exact y
theorem both4 {μ : Mem} {r : Nat} {p : Nat → Int} (ho : 1 ≤ (μ.1 22 r).toInt) (hn : μ.1 20 r ≠ μ.1 21 r) (h1 : dot4 (rwL μ r) p = 0) (h2 : dot4 (rwH μ r) p = 0) : dot4 (fo μ (gI μ r)) p = 0 ∧ dot4 (fo μ (fI μ r)) p = 0 := by
  rw [rwL_d4] at h1
  rw [rwH_d4] at h2
  have hn' : (μ.1 20 r).toInt ≠ (μ.1 21 r).toInt := fun e => hn (Int32.toInt_inj.mp e)
  have e : ((μ.1 21 r).toInt - (μ.1 20 r).toInt) * dot4 (fo μ (gI μ r)) p = 0 := by grind
  rcases Int.mul_eq_zero.mp e with z | z
  · omega
  · refine ⟨z, ?_⟩
    rw [z, Int.mul_zero, Int.add_zero] at h1
    rcases Int.mul_eq_zero.mp h1 with y | y
    · omega
    · exact y
theorem conv {μ : Mem} {rl : Nat → Nat} {m : Nat} (hA : InvA μ) (hR : InvR μ) (hl : RlOK μ rl m) {p : Nat → Int} {B : Nat} (hB : B < 16) : ∀ (n : Nat) (ks : List Nat) (pre : List (Nat → Int)), ks.length ≤ n → ks.Pairwise (· > ·) → (∀ k, k ∈ ks → k / 2 < m ∧ dot5i (rS μ rl k) p = 0) → mn (pre ++ ks.map (rS μ rl)) B ≠ 0 →
    ∃ ds : List (Nat × Nat), (∀ x, x ∈ ds → okI μ rl m x) ∧ ds.Pairwise (fun a b => b.1 < a.1) ∧ (∀ x, x ∈ ds → ∃ k, k ∈ ks ∧ k / 2 = x.1) ∧ (∀ r, r ∈ rd μ rl ds → dot5i r p = 0) ∧ mn (pre ++ rd μ rl ds) B ≠ 0
  | _, [], pre, _, _, _, hz => ⟨[], fun x hx => absurd hx List.not_mem_nil, List.Pairwise.nil, fun x hx => absurd hx List.not_mem_nil, fun x hx => absurd hx List.not_mem_nil, hz⟩
  | 0, k :: ks, _, hn, _, _, _ => absurd hn (by rw [List.length_cons]; omega)
  | n + 1, k :: ks, pre, hn, hs, ht, hz => by
    rw [List.length_cons] at hn
    have hs' := List.pairwise_cons.mp hs
    obtain ⟨him, hk0⟩ := ht k (List.mem_cons_self ..)
    obtain ⟨hr8, hrt⟩ := hl _ him
    obtain ⟨hf7, hg7, hov, hlh⟩ := told_fg hR hr8 hrt
    -- one row: what a step with a single item gives
    have single : ∀ (c : Nat) (row : Nat → Int), itR μ rl (k / 2, c) = [row] → okI μ rl m (k / 2, c) → dot5i row p = 0 → mn (pre ++ row :: ks.map (rS μ rl)) B ≠ 0 → (∀ k', k' ∈ ks → k' / 2 < k / 2) →
        ∃ ds : List (Nat × Nat), (∀ x, x ∈ ds → okI μ rl m x) ∧ ds.Pairwise (fun a b => b.1 < a.1) ∧ (∀ x, x ∈ ds → ∃ k', k' ∈ k :: ks ∧ k' / 2 = x.1) ∧ (∀ r, r ∈ rd μ rl ds → dot5i r p = 0) ∧ mn (pre ++ rd μ rl ds) B ≠ 0 := by
      intro c row e1 e2 e3 e4 e5
      obtain ⟨ds, d1, d2, d3, d4, d5⟩ := conv hA hR hl hB n ks (pre ++ [row]) (by omega) hs'.2 (fun q hq => ht q (List.mem_cons_of_mem _ hq)) (by rw [List.append_assoc]; exact e4)
      refine ⟨(k / 2, c) :: ds, fun x hx => ?_, List.pairwise_cons.mpr ⟨fun x hx => ?_, d2⟩, fun x hx => ?_, fun r hr => ?_, ?_⟩
      · rcases List.mem_cons.mp hx with rfl | q
        · exact e2
        · exact d1 x q
      · obtain ⟨k', q1, q2⟩ := d3 x hx
        have := e5 k' q1
        show x.1 < k / 2
        omega
      · rcases List.mem_cons.mp hx with rfl | q
        · exact ⟨k, List.mem_cons_self .., rfl⟩
        · obtain ⟨k', q1, q2⟩ := d3 x q
          exact ⟨k', List.mem_cons_of_mem _ q1, q2⟩
      · have hr' : r ∈ itR μ rl (k / 2, c) ++ rd μ rl ds := hr
        rw [e1] at hr'
        rcases List.mem_cons.mp hr' with rfl | q
        · exact e3
        · exact d4 r q
      · show mn (pre ++ (itR μ rl (k / 2, c) ++ rd μ rl ds)) B ≠ 0
        rw [e1, ← List.append_assoc]
        exact d5
    -- a rule with both rows, or one
    by_cases hb : ∃ k' ks', ks = k' :: ks' ∧ k' / 2 = k / 2
    · obtain ⟨k', ks', rfl, he⟩ := hb
      have hlt := hs'.1 k' (List.mem_cons_self ..)
      obtain ⟨_, hk0'⟩ := ht k' (List.mem_cons_of_mem _ (List.mem_cons_self ..))
      have m1 : k % 2 = 1 := by omega
      have m0 : k' % 2 = 0 := by omega
      rw [rS_1 μ rl m1] at hk0
      rw [rS_0 μ rl m0, he] at hk0'
      have hz' : mn (pre ++ (rwH μ (rl (k / 2)) :: rwL μ (rl (k / 2)) :: ks'.map (rS μ rl))) B ≠ 0 := by
        have : (k :: k' :: ks').map (rS μ rl) = rwH μ (rl (k / 2)) :: rwL μ (rl (k / 2)) :: ks'.map (rS μ rl) := by
          rw [List.map_cons, List.map_cons, rS_1 μ rl m1, rS_0 μ rl m0, he]
        rw [← this]; exact hz
      have hb := mn_pre (mn_both (fo μ (fI μ (rl (k / 2)))) (fo μ (gI μ (rl (k / 2)))) (μ.1 20 (rl (k / 2))).toInt (μ.1 21 (rl (k / 2))).toInt (μ.1 22 (rl (k / 2))).toInt (ks'.map (rS μ rl))) pre B (by omega)
      have hz2 : mn (pre ++ (fo μ (gI μ (rl (k / 2))) :: fo μ (fI μ (rl (k / 2))) :: ks'.map (rS μ rl))) B ≠ 0 := fun q => hz' (by
        show mn (pre ++ ((fun c => (μ.1 21 (rl (k / 2))).toInt * fo μ (gI μ (rl (k / 2))) c + -(μ.1 22 (rl (k / 2))).toInt * fo μ (fI μ (rl (k / 2))) c) :: (fun c => (μ.1 22 (rl (k / 2))).toInt * fo μ (fI μ (rl (k / 2))) c + -(μ.1 20 (rl (k / 2))).toInt * fo μ (gI μ (rl (k / 2))) c) :: ks'.map (rS μ rl))) B = 0
        rw [hb, q, Int.mul_zero])
      have hlh' : μ.1 20 (rl (k / 2)) ≠ μ.1 21 (rl (k / 2)) := fun q => hz' (by
        show mn (pre ++ ((fun c => (μ.1 21 (rl (k / 2))).toInt * fo μ (gI μ (rl (k / 2))) c + -(μ.1 22 (rl (k / 2))).toInt * fo μ (fI μ (rl (k / 2))) c) :: (fun c => (μ.1 22 (rl (k / 2))).toInt * fo μ (fI μ (rl (k / 2))) c + -(μ.1 20 (rl (k / 2))).toInt * fo μ (gI μ (rl (k / 2))) c) :: ks'.map (rS μ rl))) B = 0
        rw [hb, q, Int.sub_self, Int.mul_zero, Int.zero_mul])
      have hg6 : μ.1 19 (rl (k / 2)) ≠ 6 := fun q => hz2 (by
        have eg : gI μ (rl (k / 2)) = 6 := by unfold gI; rw [q]; rfl
        refine mn_lots0 (R := fo μ (gI μ (rl (k / 2))) :: fo μ (fI μ (rl (k / 2))) :: ks'.map (rS μ rl)) (fun G hG => ?_) pre B hB
        refine ex_lots0 (r := fo μ (gI μ (rl (k / 2)))) (fun c hc => ?_) hG
        obtain ⟨_, -, -, -, -, -, -, -, -, -, g9, -⟩ := hA
        rw [eg]
        show (μ.2 53 c).toInt = 0
        rw [g9 c hc]; rfl)
      obtain ⟨ds, d1, d2, d3, d4, d5⟩ := conv hA hR hl hB n ks' (pre ++ [fo μ (gI μ (rl (k / 2))), fo μ (fI μ (rl (k / 2)))]) (by rw [List.length_cons] at hn; omega) (List.pairwise_cons.mp hs'.2).2 (fun q hq => ht q (List.mem_cons_of_mem _ (List.mem_cons_of_mem _ hq))) (by rw [List.append_assoc]; exact hz2)
      obtain ⟨z1, z2⟩ := both0 hov hlh' hk0' hk0
      refine ⟨(k / 2, 2) :: ds, fun x hx => ?_, List.pairwise_cons.mpr ⟨fun x hx => ?_, d2⟩, fun x hx => ?_, fun r hr => ?_, ?_⟩
      · rcases List.mem_cons.mp hx with rfl | q
        · exact ⟨him, .inr ⟨hlh', .inr ⟨rfl, hg6⟩⟩⟩
        · exact d1 x q
      · obtain ⟨k2, q1, q2⟩ := d3 x hx
        have := (List.pairwise_cons.mp hs'.2).1 k2 q1
        show x.1 < k / 2
        omega
      · rcases List.mem_cons.mp hx with rfl | q
        · exact ⟨k, List.mem_cons_self .., rfl⟩
        · obtain ⟨k2, q1, q2⟩ := d3 x q
          exact ⟨k2, List.mem_cons_of_mem _ (List.mem_cons_of_mem _ q1), q2⟩
      · have hr' : r ∈ fo μ (gI μ (rl (k / 2))) :: fo μ (fI μ (rl (k / 2))) :: rd μ rl ds := hr
        rcases List.mem_cons.mp hr' with rfl | q
        · exact z1
        · rcases List.mem_cons.mp q with rfl | q
          · exact z2
          · exact d4 r q
      · show mn (pre ++ ([fo μ (gI μ (rl (k / 2))), fo μ (fI μ (rl (k / 2)))] ++ rd μ rl ds)) B ≠ 0
        rw [← List.append_assoc]
        exact d5
    · have hlow : ∀ k', k' ∈ ks → k' / 2 < k / 2 := by
        intro k' hk'
        cases ks with
        | nil => exact absurd hk' List.not_mem_nil
        | cons a as =>
          have h1 := hs'.1 a (List.mem_cons_self ..)
          have h2 : a / 2 ≠ k / 2 := fun e => hb ⟨a, as, rfl, e⟩
          rcases List.mem_cons.mp hk' with rfl | q
          · omega
          · have := (List.pairwise_cons.mp hs'.2).1 k' q
            omega
      by_cases m0 : k % 2 = 0
      · rw [rS_0 μ rl m0] at hk0
        refine single 0 _ rfl ⟨him, .inl rfl⟩ hk0 ?_ hlow
        rw [← rS_0 μ rl m0]
        exact hz
      · have m1 : k % 2 = 1 := by omega
        rw [rS_1 μ rl m1] at hk0
        have hz1 : mn (pre ++ rwH μ (rl (k / 2)) :: ks.map (rS μ rl)) B ≠ 0 := by rw [← rS_1 μ rl m1]; exact hz
        by_cases hlh' : μ.1 20 (rl (k / 2)) = μ.1 21 (rl (k / 2))
        · have en : rwH μ (rl (k / 2)) = fun c => (-1) * rwL μ (rl (k / 2)) c + 0 * 0 := by
            funext c
            unfold rwH rwL
            rw [hlh']; grind
          refine single 0 _ rfl ⟨him, .inl rfl⟩ ?_ ?_ hlow
          · have : dot5i (rwH μ (rl (k / 2))) p = (-1) * dot5i (rwL μ (rl (k / 2))) p := by
              rw [rwH_d5, rwL_d5, hlh']; grind
            show dot5i (rwL μ (rl (k / 2))) p = 0
            omega
          · intro q
            apply hz1
            have := mn_pre (R := rwH μ (rl (k / 2)) :: ks.map (rS μ rl)) (R' := rwL μ (rl (k / 2)) :: ks.map (rS μ rl)) (e := -1) (fun G hG => by
              show ex (rwH μ (rl (k / 2))) _ G = _ * ex (rwL μ (rl (k / 2))) _ G
              rw [en]
              have := ex_lin (rwL μ (rl (k / 2))) (fun _ => 0) (mn (ks.map (rS μ rl))) (-1) 0 G
              rw [this]; omega) pre B (by omega)
            rw [this, q, Int.mul_zero]
        · exact single 1 _ rfl ⟨him, .inr ⟨hlh', .inl rfl⟩⟩ hk0 hz1 hlow
def sgz (x : Int) : Int := if x < 0 then -1 else 1
def tF (μ : Mem) (full j : Nat) : Int := if full.testBit j then stk μ j else 0
def pt (f t : Nat → Int) (F j : Nat) : Int := sgz (f F) * qv f t F j
theorem sgz_pm (x : Int) : sgz x = 1 ∨ sgz x = -1 := by
  unfold sgz
  by_cases h : x < 0
  · exact .inr (if_pos h)
  · exact .inl (if_neg h)
theorem pt_4 (f t : Nat → Int) (F : Nat) : pt f t F 4 = sgz (f F) * f F := rfl
theorem pt_4pos {f t : Nat → Int} {F : Nat} (h : f F ≠ 0) : 0 < pt f t F 4 := by
  rw [pt_4]
  unfold sgz
  by_cases q : f F < 0
  · rw [if_pos q]; omega
  · rw [if_neg q]; omega
theorem pt_dot (f t : Nat → Int) (F : Nat) (r : Nat → Int) : dot5i r (pt f t F) = sgz (f F) * dot5i r (qv f t F) := by
  unfold dot5i pt; grind
theorem pt_out {f t : Nat → Int} {F j : Nat} (hj : j < 4) (h : F.testBit j = false) : pt f t F j = t j * pt f t F 4 := by
  rw [pt_4]
  unfold pt qv
  rw [if_neg (by omega), if_neg (by rw [h]; decide)]
  grind
theorem pt_rows {R : List (Nat → Int)} {t : Nat → Int} {F : Nat} (hF : F < 16) (ht : ∀ c, c < 4 → F.testBit c = true → t c = 0) : ∀ r, r ∈ R → dot5i r (pt (mn R) t F) = 0 := by
  intro r hr
  rw [pt_dot, cramer (fun G hG => mn_dup hr G hG) F hF ht, Int.mul_zero]
def RowsOK (μ : Mem) (R : List (Nat → Int)) : Prop := ∀ p v : Nat → Int, (∀ r, r ∈ R → dot5i r p = 0) → Kern μ p v → ∀ r, r ∈ R → dot4 r v = 0
theorem rowsOK_nil (μ : Mem) : RowsOK μ [] := fun _ _ _ _ r hr => absurd hr List.not_mem_nil
theorem rowsOK_add {μ : Mem} {rl : Nat → Nat} {m : Nat} (hR : InvR μ) (hl : RlOK μ rl m) {x : Nat × Nat} (hx : okI μ rl m x) {R : List (Nat → Int)} (h : RowsOK μ R) : RowsOK μ (itR μ rl x ++ R) := by
  obtain ⟨hi, hc⟩ := hx
  obtain ⟨hr8, hrt⟩ := hl _ hi
  obtain ⟨hf7, hg7, hov, hlh⟩ := told_fg hR hr8 hrt
  intro p v hp hv r hr
  have hold := h p v (fun q hq => hp q (List.mem_append_right _ hq)) hv
  have kL : dot5i (rwL μ (rl x.1)) p = 0 → dot4 (rwL μ (rl x.1)) v = 0 := by
    have := hv.2 (2 * rl x.1) (by omega) (by rw [show 2 * rl x.1 / 2 = rl x.1 by omega]; exact hrt)
    unfold rwK at this
    rw [if_pos (by omega), show 2 * rl x.1 / 2 = rl x.1 by omega] at this
    exact this
  have kH : dot5i (rwH μ (rl x.1)) p = 0 → dot4 (rwH μ (rl x.1)) v = 0 := by
    have := hv.2 (2 * rl x.1 + 1) (by omega) (by rw [show (2 * rl x.1 + 1) / 2 = rl x.1 by omega]; exact hrt)
    unfold rwK at this
    rw [if_neg (by omega), show (2 * rl x.1 + 1) / 2 = rl x.1 by omega] at this
    exact this
  rcases List.mem_append.mp hr with hr' | hr'
  · unfold itR at hr' hp
    rcases hc with c0 | ⟨hne, c1 | ⟨c2, h6⟩⟩
    · rw [if_pos c0] at hr' hp
      rcases List.mem_singleton.mp hr' with rfl
      exact kL (hp _ (List.mem_append_left _ hr'))
    · rw [if_neg (by omega), if_pos c1] at hr' hp
      rcases List.mem_singleton.mp hr' with rfl
      exact kH (hp _ (List.mem_append_left _ hr'))
    · rw [if_neg (by omega), if_neg (by omega)] at hr' hp
      have g0 := hp (fo μ (gI μ (rl x.1))) (by simp)
      have f0 := hp (fo μ (fI μ (rl x.1))) (by simp)
      have l0 := kL (by rw [rwL_d5, g0, f0]; simp)
      have h0 := kH (by rw [rwH_d5, g0, f0]; simp)
      obtain ⟨z1, z2⟩ := both4 hov hne l0 h0
      rcases List.mem_cons.mp hr' with rfl | q
      · exact z1
      · rcases List.mem_singleton.mp q with rfl
        exact z2
  · exact hold r hr'
theorem corner_sound {μ : Mem} {R : List (Nat → Int)} {F full : Nat} (hF : F < 16) (hR : RowsOK μ R) (hz : mn R F ≠ 0) (hff : ∀ j, j < 4 → F.testBit j = true → full.testBit j = false) (hb : InBox μ (pt (mn R) (tF μ full) F)) : Corner μ (pt (mn R) (tF μ full) F) := by
  refine ⟨hb, fun v hv => ?_⟩
  have ht : ∀ c, c < 4 → F.testBit c = true → tF μ full c = 0 := fun c hc hb => by unfold tF; rw [hff c hc hb]; rfl
  have h4 := hR _ v (pt_rows hF ht) hv
  have hout : ∀ j, j < 4 → F.testBit j = false → v j = 0 := fun j hj hbj => by
    refine hv.1 j hj ?_
    rw [pt_out hj hbj]
    unfold tF
    by_cases q : full.testBit j = true
    · rw [if_pos q]; exact .inr rfl
    · rw [if_neg q]; exact .inl (by omega)
  intro j hj
  by_cases hbj : F.testBit j = true
  · rcases Int.mul_eq_zero.mp (mn_ker h4 F hF hout j hj hbj) with z | z
    · exact absurd z hz
    · exact z
  · exact hout j hj (by simpa using hbj)
theorem corner_complete {μ : Mem} {rl : Nat → Nat} {m : Nat} (hA : InvA μ) (hR : InvR μ) (hl : RlOK μ rl m) (hs : ∀ r, r < 8 → (Tn μ).testBit r = true → ∃ i, i < m ∧ rl i = r) {p : Nat → Int} (hp : Corner μ p) :
    ∃ its : List (Nat × Nat), (∀ x, x ∈ its → okI μ rl m x) ∧ its.Pairwise (fun a b => a.1 < b.1) ∧ ∃ F full, F < 16 ∧ full < 16 ∧ mn (ro μ rl its []) F ≠ 0 ∧ (∀ j, j < 4 → F.testBit j = true → 0 < stk μ j ∧ full.testBit j = false) ∧ (∀ j, j < 4 → full.testBit j = true → 0 < stk μ j) ∧ Eqv p (pt (mn (ro μ rl its [])) (tF μ full) F) := by
  obtain ⟨⟨p4, hbox⟩, hk⟩ := hp
  obtain ⟨B16, hBb⟩ := mk4_bit (fun j => !decide (p j = 0 ∨ p j = stk μ j * p 4))
  obtain ⟨U16, hUb⟩ := mk4_bit (fun j => decide (p j ≠ 0 ∧ p j = stk μ j * p 4))
  revert hBb B16
  generalize mk4 (fun j => !decide (p j = 0 ∨ p j = stk μ j * p 4)) = B
  intro B16 hBb
  revert hUb U16
  generalize mk4 (fun j => decide (p j ≠ 0 ∧ p j = stk μ j * p 4)) = U
  intro U16 hUb
  have hBt : ∀ j, j < 4 → (B.testBit j = true ↔ ¬ (p j = 0 ∨ p j = stk μ j * p 4)) := fun j hj => by rw [hBb j hj]; simp
  have hUt : ∀ j, j < 4 → (U.testBit j = true ↔ p j ≠ 0 ∧ p j = stk μ j * p 4) := fun j hj => by rw [hUb j hj]; simp
  have hpos : ∀ j, j < 4 → p j ≠ 0 → 0 < stk μ j := fun j hj h => by
    obtain ⟨b1, b2⟩ := hbox j hj
    apply Classical.byContradiction
    intro n
    have : stk μ j * p 4 ≤ 0 := Int.mul_nonpos_of_nonpos_of_nonneg (by omega) (by omega)
    omega
  obtain ⟨ks, k1, k2, k3⟩ := pick (row := rS μ rl) (T := fun k => k / 2 < m ∧ dot5i (rS μ rl k) p = 0) B16 (fun v hv hT => hk v ⟨fun j hj he => hv j hj (by
      have := hBt j hj
      cases hb : B.testBit j with
      | false => rfl
      | true => exact absurd he (this.mp hb)), fun k hk16 hkt hk0 => by
      obtain ⟨i, hi, hri⟩ := hs (k / 2) (by omega) hkt
      have e : rS μ rl (2 * i + k % 2) = rwK μ k := by
        unfold rS
        rw [show (2 * i + k % 2) / 2 = i by omega, show (2 * i + k % 2) % 2 = k % 2 by omega, hri, show 2 * (k / 2) + k % 2 = k by omega]
      have := hT (2 * i + k % 2) ⟨by omega, by rw [e]; exact hk0⟩
      rw [e] at this
      exact this⟩)
  obtain ⟨ds, d1, d2, d3, d4, d5⟩ := conv hA hR hl (p := p) B16 ks.length ks [] (Nat.le_refl _) k1 k2 k3
  have er : ro μ rl ds.reverse [] = rd μ rl ds := by rw [ro_rd, List.reverse_reverse, List.append_nil]
  have d5' : mn (rd μ rl ds) B ≠ 0 := d5
  refine ⟨ds.reverse, fun x hx => d1 x (List.mem_reverse.mp hx), List.pairwise_reverse.mpr d2, B, U, B16, U16, by rw [er]; exact d5', fun j hj hb => ?_, fun j hj hb => ?_, ?_⟩
  · have h1 := (hBt j hj).mp hb
    refine ⟨hpos j hj (fun e => h1 (.inl e)), ?_⟩
    cases hu : U.testBit j with
    | false => rfl
    | true => exact absurd (.inr ((hUt j hj).mp hu).2) h1
  · exact hpos j hj ((hUt j hj).mp hb).1
  · rw [er]
    have ht : ∀ c, c < 4 → B.testBit c = true → tF μ U c = 0 := fun c hc hb => by
      have h1 := (hBt c hc).mp hb
      unfold tF
      rw [if_neg (fun hu => h1 (.inr ((hUt c hc).mp hu).2))]
    refine ⟨p4, pt_4pos d5', fun j hj => ?_⟩
    have := same_point B16 d5' (p := p) (q := pt (mn (rd μ rl ds)) (tF μ U) B) d4 (pt_rows B16 ht) (fun j hj hb => by
      rw [pt_out hj hb]
      unfold tF
      by_cases hu : U.testBit j = true
      · rw [if_pos hu, ((hUt j hj).mp hu).2]; grind
      · rw [if_neg hu]
        have h0 : p j = 0 := by
          apply Classical.byContradiction
          intro n
          by_cases e : p j = stk μ j * p 4
          · exact hu ((hUt j hj).mpr ⟨n, e⟩)
          · have := (hBt j hj).mpr (fun q => q.elim n e)
            rw [hb] at this; cases this
        rw [h0]; omega) j hj
    omega
